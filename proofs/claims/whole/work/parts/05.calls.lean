
def zq_A (G : zq_G) (sh : zq_H) (z : Nat) : Nat → Prop := fun q => (∃ (c : Nat) (s : zq_S), sh c = some s ∧ q = zq_ad G c) ∨ z ≤ q
def zq_B (G : zq_G) (sh : zq_H) (z : Nat) (X : zq_M) (U : State) : Prop := U.heap.size = z ∧ zq_P G sh X U.heap ∧ va_K G.2.1 vwCl (zq_ty G) U ∧ zq_E G (zq_A G sh z) U U.heap
def zq_ws (Y : zq_Y) : List Cond := Cond.code Y.1 Y.2.1 Y.2.2.1 Y.2.2.2 :: zq_T
theorem zq_good {ws : List Cond} (h : ∀ w ∈ ws, w ∈ zq_T) : GoodIn zq_T ws := fun w hw => ⟨h w hw, good_of_word (List.mem_filter.mp (h w hw)).2⟩
theorem zq_blind {G : zq_G} {sh : zq_H} {z : Nat} {X : zq_M} {args : List Value} : FrameBlind (va_Pc args (zq_B G sh z X)) := by
  intro a U g mk h
  obtain ⟨h0, h1, h2, h3, h4⟩ := h
  exact ⟨h0, h1, h2, va_K.moved (u := U) (U := U.calling g mk a) (Vm.Alike.refl U.vm) h3, zq_E.same (s := U) (U := U.calling g mk a) rfl h4⟩
theorem zq_met {ρ : Type} {G : zq_G} {Y : zq_Y} {lv : zq_L} {enc : ρ → Option Value × zq_W} {sh : zq_H} {z : Nat} {X : zq_M} {o : Option ρ} {args : List Value} {r : ρ} (hV : zq_V G Y lv enc 0 0 0 (lv_args 0 args) [] sh z X o) (hr : o = some r) (hp : plainName Y.1.cls = true) (hlen : (lg_sl args).length ≤ Y.2.2.1) :
    Met G.1 Y.1 (zq_ws Y) (zq_R lv) (va_Pc args (zq_B G sh z X)) (zq_Q G (zq_A G sh z) (enc r)) lv.2.1 lv.2.2 (zq_A G sh z) := by
  refine Met.ofW (cc := Y.2.1) (maxL := Y.2.2.1) (ret := Y.2.2.2) hp rfl ?_
  intro p e s m args' below meth c s₁ B hml hv
  obtain ⟨rfl, hz, hP, hK, hE⟩ := hv
  have hts := atoms_spec (ws := zq_ws Y) B.pre
  have hl := lv_entry args hlen
  rw [lg_entry_eq]
  exact hV r hr p e s m args.toArray below meth c (zq_A G sh z) s.heap [] _ ⟨B.exec, B.bytes, B.returns, hml, findClass_of_methodNamed B.named, fun w hw => hts w (List.mem_cons_of_mem _ hw), B.notSynchronized, (name_of_methodNamed B.named B.method).1, hK, hE, fun q hq => Or.inr (by rw [← hz]; exact hq)⟩ hz va_S.rf (fun c s hc => Or.inl ⟨c, s, hc, rfl⟩) hP hl
def zq_cd (Y : zq_Y) (n : Nat) : Prop := Cond.code Y.1 Y.2.1 Y.2.2.1 Y.2.2.2 ∈ zq_T ∧ Cond.initialized Y.1.cls ∈ zq_T ∧ (Y.1.cls ≠ "java/lang/invoke/MethodHandle" ∧ Y.1.cls ≠ "java/lang/invoke/VarHandle" ∧ (parseMethodDescriptor Y.1.desc).map (fun d => d.parameters.length) = some n) ∧ plainName Y.1.cls = true ∧ Y.2.2.1 ≤ 40
section
variable {ρ ρ1 : Type} {G : zq_G} {Y Y1 : zq_Y} {lv lv1 : zq_L} {enc : ρ → Option Value × zq_W} {enc1 : ρ1 → Option Value × zq_W} {kc kn pc : Nat} {lo : List (Nat × Value)} {st : List Value} {sh : zq_H} {z : Nat} {X : zq_M} {o1 : Option ρ1} {f : ρ1 → Option ρ}
theorem zq_after {rest : List Value} {r1 : ρ1} {p : Program} {e : Env} {s : State} {m : MethodId} {args a : Array Value} {below : List Frame} {meth : Method} {c : Code} {A : Nat → Prop} {H : Heap} {locs : List Loc} {ls : Array Slot} {r : ρ} {o : Option ρ} (hr : o = some r) (C : zq_C G Y p s m args meth c A) (hz : H.size = z) (hS : va_S A s.heap H locs) (hA : ∀ c s, sh c = some s → A (zq_ad G c)) (hl : lv_has ls Y.2.2.1 lo)
    (hrun : va_Run p G.1 e (zq_R lv) s m args below meth c H locs kc kn lv1.2.1 lv1.2.2 (F0 m pc ls st) rest (zq_Q G (zq_A G sh z) (enc1 r1) a) (zq_A G sh z))
    (K : zq_V G Y lv enc (kc + lv1.2.1) (kn + lv1.2.2) (pc + 3) lo ((enc1 r1).1.toList ++ rest) (enc1 r1).2.1 (enc1 r1).2.2.1 (enc1 r1).2.2.2 o) : W p G.1 e (zq_R lv) s m args below meth c H locs kc kn (MQ below (zq_Q G A (enc r)) args s lv.2.1 lv.2.2 A) (F0 m pc ls st) := by
  have hAA : ∀ q, zq_A G sh z q → A q := by
    intro q hq
    rcases hq with ⟨c, s, hc, rfl⟩ | hq
    · exact hA c s hc
    · exact C.2.2.2.2.2.2.2.2.2.2 q (Nat.le_trans hS.1 (by rw [hz]; exact hq))
  intro T hT X0
  obtain ⟨v, st₀, t, T', L, h0, X', hL, e1, e2, ⟨hv, hsz, hP1, hA1, hF1, hF2⟩, stp⟩ := hrun T hT X0
  cases hv
  rw [h0] at hF1 hF2
  obtain ⟨t2, a1, b1⟩ := K r hr p e s m args below meth c A T'.heap (locs ++ L) ls C (by rw [e1]; exact hsz) ⟨Nat.le_trans hS.1 (by rw [e1]; exact hF1), fun q h1 h2 => by rw [e1, hF2 q (Nat.lt_of_lt_of_le h1 hS.1) (fun y => h2 (hAA q y))]; exact hS.2.1 q h1 h2, fun q hq => by
      rcases List.mem_append.mp hq with h | h
      · exact hS.2.2 q h
      · exact hAA _ (hL q h)⟩ (fun c s hc => hAA _ (hA1 c s hc)) (by rw [e1]; exact hP1) hl T' rfl X'
  exact ⟨t2, stp t2 a1, b1⟩
theorem zq_preS {args : List Value} {p : Program} {s : State} {m : MethodId} {a : Array Value} {meth : Method} {c : Code} {A : Nat → Prop} {H : Heap} {locs : List Loc} (C : zq_C G Y p s m a meth c A) (hz : H.size = z) (hS : va_S A s.heap H locs) (hA : ∀ c s, sh c = some s → A (zq_ad G c)) (hP : zq_P G sh X H) : ∀ U : State, U.heap = H → s.WarmedH U.vm → va_Pc args (zq_B G sh z X) args.toArray U := by
  intro U hU hW
  refine ⟨rfl, by rw [hU]; exact hz, by rw [hU]; exact hP, va_K.moved hW.alike C.2.2.2.2.2.2.2.2.1, ?_⟩
  rw [hU]
  refine zq_E.go hW (fun q h1 h2 => hS.2.1 q h1 h2) (fun q hq => ?_) C.2.2.2.2.2.2.2.2.2.1
  rcases hq with ⟨c, s, hc, rfl⟩ | hq
  · exact hA c s hc
  · exact C.2.2.2.2.2.2.2.2.2.2 q (Nat.le_trans hS.1 (by rw [hz]; exact hq))
theorem zq_rm {lv lv1 : zq_L} {mL : Nat} (h : lv1.1 + 1 ≤ lv.1) (hm : mL ≤ 40) : (zq_R lv1).frames + 1 ≤ (zq_R lv).frames ∧ 8 + (mL + 11) + (zq_R lv1).locals ≤ (zq_R lv).locals := by
  refine ⟨h, ?_⟩
  show 8 + (mL + 11) + 60 * lv1.1 ≤ 60 * lv.1
  omega
theorem zr_callV {c ci n idx : Nat} {q : vw_C} {ks : List Nat} {As rest : List Value} (hd : decode Y.2.1 pc = .ok (.invokevirtual idx, 3)) (hV : zq_V G Y1 lv1 enc1 0 0 0 (lv_args 0 (.ref (zq_ad G c) :: As)) [] sh z X o1) (hcd : zq_cd Y1 n) (hin : Cond.instanceMethod Y1.1 ∈ zq_T) (hse : Cond.selects Y1.1.cls Y1.1 Y1.1 ∈ zq_T) (hlk : Cond.methodLink Y.1.cls idx Y1.1 ∈ zq_T) (hs : sh c = some (.inl (ci, ks))) (hci : vwCl[ci]? = some q) (hq : q.1 = Y1.1.cls) (hn : As.length = n) (hst : st = As.reverse ++ .ref (zq_ad G c) :: rest) (hcat : (rest.map fun v => v.category).sum ≤ 8) (hlen : (lg_sl (.ref (zq_ad G c) :: As)).length ≤ Y1.2.2.1) (hlv : lv1.1 + 1 ≤ lv.1) (hf : kc + lv1.2.1 ≤ lv.2.1 ∧ kn + lv1.2.2 ≤ lv.2.2)
    (K : ∀ r1, o1 = some r1 → zq_V G Y lv enc (kc + lv1.2.1) (kn + lv1.2.2) (pc + 3) lo ((enc1 r1).1.toList ++ rest) (enc1 r1).2.1 (enc1 r1).2.2.1 (enc1 r1).2.2.2 (f r1)) : zq_V G Y lv enc kc kn pc lo st sh z X (o1.bind f) := by
  intro r hr p e s m args below meth c' A H locs ls C hz hS hA hP hl
  cases ho : o1 with
  | none => rw [ho] at hr; cases hr
  | some r1 =>
    rw [ho] at hr
    obtain ⟨k1, k2, k3, k4, k5⟩ := hcd
    have hG : GoodIn zq_T (wsV Y.1.cls idx Y1.1.cls Y1.1 (zq_ws Y1)) := by
      refine zq_good (fun w hw => ?_)
      rcases List.mem_append.mp hw with h | h
      · simp only [List.mem_cons, List.not_mem_nil, or_false] at h
        rcases h with rfl | rfl | rfl | rfl <;> assumption
      · rcases List.mem_cons.mp h with rfl | h
        · exact k1
        · exact h
    refine zq_after hr C hz hS hA hl (va_runV (As := As) (rest := rest) ⟨C.1, C.2.1, C.2.2.2.1, C.2.2.2.2.1, C.2.2.2.2.2.1⟩ (zq_met hV ho k4 hlen) (cwV n C.2.2.2.2.2.1 hG rfl rfl rfl ⟨rfl, k3⟩ (zq_rm hlv k5)) ⟨zq_blind, ?_, zq_preS C hz hS hA hP⟩ rfl hn hl.1 hst (lv_room hcat) hd hf) (K r1 ho)
    obtain ⟨cell, g1, g2, g3⟩ := va_recv C.2.2.2.2.2.2.2.2.1 (zq_one hP hs) hci (q0 := 0) rfl
    exact ⟨cell, g1, g2, by rw [← hq]; exact g3⟩
theorem zr_callS {n idx : Nat} {As rest : List Value} (hd : decode Y.2.1 pc = .ok (.invokestatic idx, 3)) (hV : zq_V G Y1 lv1 enc1 0 0 0 (lv_args 0 As) [] sh z X o1) (hcd : zq_cd Y1 n) (hin : Cond.static Y1.1 ∈ zq_T) (hlk : Cond.methodLink Y.1.cls idx Y1.1 ∈ zq_T) (hn : As.length = n) (hst : st = As.reverse ++ rest) (hcat : (rest.map fun v => v.category).sum ≤ 8) (hlen : (lg_sl As).length ≤ Y1.2.2.1) (hlv : lv1.1 + 1 ≤ lv.1) (hf : kc + lv1.2.1 ≤ lv.2.1 ∧ kn + lv1.2.2 ≤ lv.2.2)
    (K : ∀ r1, o1 = some r1 → zq_V G Y lv enc (kc + lv1.2.1) (kn + lv1.2.2) (pc + 3) lo ((enc1 r1).1.toList ++ rest) (enc1 r1).2.1 (enc1 r1).2.2.1 (enc1 r1).2.2.2 (f r1)) : zq_V G Y lv enc kc kn pc lo st sh z X (o1.bind f) := by
  intro r hr p e s m args below meth c' A H locs ls C hz hS hA hP hl
  cases ho : o1 with
  | none => rw [ho] at hr; cases hr
  | some r1 =>
    rw [ho] at hr
    obtain ⟨k1, k2, k3, k4, k5⟩ := hcd
    have hG : GoodIn zq_T (va_wsS Y.1.cls idx Y1.1 (zq_ws Y1)) := by
      refine zq_good (fun w hw => ?_)
      rcases List.mem_append.mp hw with h | h
      · simp only [List.mem_cons, List.not_mem_nil, or_false] at h
        rcases h with rfl | rfl | rfl <;> assumption
      · rcases List.mem_cons.mp h with rfl | h
        · exact k1
        · exact h
    exact zq_after hr C hz hS hA hl (va_runS (As := As) (rest := rest) ⟨C.1, C.2.1, C.2.2.2.1, C.2.2.2.2.1, C.2.2.2.2.2.1⟩ (zq_met hV ho k4 hlen) (va_cwS n C.2.2.2.2.2.1 hG rfl rfl rfl k3 (zq_rm hlv k5)) ⟨zq_blind, zq_preS C hz hS hA hP⟩ rfl hn hl.1 hst (lv_room hcat) hd hf) (K r1 ho)
theorem zr_callI {c n idx : Nat} {As rest : List Value} (hd : decode Y.2.1 pc = .ok (.invokespecial idx, 3)) (hV : zq_V G Y1 lv1 enc1 0 0 0 (lv_args 0 (.ref (zq_ad G c) :: As)) [] sh z X o1) (hcd : zq_cd Y1 n) (hin : Cond.instanceMethod Y1.1 ∈ zq_T) (hi : Y1.1.name = "<init>") (hre : Y1.2.2.2 = none) (hlk : Cond.methodLink Y.1.cls idx Y1.1 ∈ zq_T) (hn : As.length = n) (hst : st = As.reverse ++ .ref (zq_ad G c) :: rest) (hcat : (rest.map fun v => v.category).sum ≤ 8) (hlen : (lg_sl (.ref (zq_ad G c) :: As)).length ≤ Y1.2.2.1) (hlv : lv1.1 + 1 ≤ lv.1) (hf : kc + lv1.2.1 ≤ lv.2.1 ∧ kn + lv1.2.2 ≤ lv.2.2)
    (K : ∀ r1, o1 = some r1 → zq_V G Y lv enc (kc + lv1.2.1) (kn + lv1.2.2) (pc + 3) lo ((enc1 r1).1.toList ++ rest) (enc1 r1).2.1 (enc1 r1).2.2.1 (enc1 r1).2.2.2 (f r1)) : zq_V G Y lv enc kc kn pc lo st sh z X (o1.bind f) := by
  intro r hr p e s m args below meth c' A H locs ls C hz hS hA hP hl
  cases ho : o1 with
  | none => rw [ho] at hr; cases hr
  | some r1 =>
    rw [ho] at hr
    obtain ⟨k1, k2, k3, k4, k5⟩ := hcd
    have hG : GoodIn zq_T (zq_ws Y1) := zq_good (fun w hw => by
      rcases List.mem_cons.mp hw with rfl | h
      · exact k1
      · exact h)
    exact zq_after hr C hz hS hA hl (va_runI (As := As) (rest := rest) ⟨C.1, C.2.1, C.2.2.2.1, C.2.2.2.2.1, C.2.2.2.2.2.1⟩ (zq_met hV ho k4 hlen) (cwI n C.2.2.2.2.2.1 hG (by unfold zq_ws; rw [hre]) rfl rfl (C.2.2.2.2.2.1 _ k2) (C.2.2.2.2.2.1 _ hlk) (C.2.2.2.2.2.1 _ hin) hi k3 (zq_rm hlv k5)) ⟨zq_blind, zq_preS C hz hS hA hP⟩ rfl hn hl.1 hst (lv_room hcat) hd hf) (K r1 ho)
theorem zr_callSN {n idx : Nat} {host : String} {As rest : List Value} (hd : decode Y.2.1 pc = .ok (.invokestatic idx, 3)) (hV : zq_V G Y1 lv1 enc1 0 0 0 (lv_args 0 As) [] sh z X o1) (hcd : zq_cd Y1 n) (hin : Cond.static Y1.1 ∈ zq_T) (hlk : (Y.1.cls, idx, Y1.1, host) ∈ zq_nM) (hn : As.length = n) (hst : st = As.reverse ++ rest) (hcat : (rest.map fun v => v.category).sum ≤ 8) (hlen : (lg_sl As).length ≤ Y1.2.2.1) (hlv : lv1.1 + 1 ≤ lv.1) (hf : kc + lv1.2.1 ≤ lv.2.1 ∧ kn + lv1.2.2 ≤ lv.2.2)
    (K : ∀ r1, o1 = some r1 → zq_V G Y lv enc (kc + lv1.2.1) (kn + lv1.2.2) (pc + 3) lo ((enc1 r1).1.toList ++ rest) (enc1 r1).2.1 (enc1 r1).2.2.1 (enc1 r1).2.2.2 (f r1)) : zq_V G Y lv enc kc kn pc lo st sh z X (o1.bind f) := by
  intro r hr p e s m args below meth c' A H locs ls C hz hS hA hP hl
  cases ho : o1 with
  | none => rw [ho] at hr; cases hr
  | some r1 =>
    rw [ho] at hr
    obtain ⟨k1, k2, k3, k4, k5⟩ := hcd
    have hG : GoodIn zq_T (zq_ws Y1) := zq_good (fun w hw => by
      rcases List.mem_cons.mp hw with rfl | h
      · exact k1
      · exact h)
    exact zq_after hr C hz hS hA hl (va_runSN (host := host) (As := As) (rest := rest) ⟨C.1, C.2.1, C.2.2.2.1, C.2.2.2.2.1, C.2.2.2.2.2.1⟩ (zq_met hV ho k4 hlen) ⟨va_cnB n C.2.2.2.2.2.1 hG rfl rfl rfl (C.2.2.2.2.2.2.2.2.2.1.1 _ hlk) (C.2.2.2.2.2.1 _ k2) k3 (zq_rm hlv k5), C.2.2.2.2.2.1 _ hin, trivial⟩ ⟨zq_blind, zq_preS C hz hS hA hP⟩ rfl hn hl.1 hst (lv_room hcat) hd hf) (K r1 ho)
theorem zr_callIN {c n idx : Nat} {host : String} {As rest : List Value} (hd : decode Y.2.1 pc = .ok (.invokespecial idx, 3)) (hV : zq_V G Y1 lv1 enc1 0 0 0 (lv_args 0 (.ref (zq_ad G c) :: As)) [] sh z X o1) (hcd : zq_cd Y1 n) (hin : Cond.instanceMethod Y1.1 ∈ zq_T) (hi : Y1.1.name = "<init>") (hre : Y1.2.2.2 = none) (hlk : (Y.1.cls, idx, Y1.1, host) ∈ zq_nM) (hn : As.length = n) (hst : st = As.reverse ++ .ref (zq_ad G c) :: rest) (hcat : (rest.map fun v => v.category).sum ≤ 8) (hlen : (lg_sl (.ref (zq_ad G c) :: As)).length ≤ Y1.2.2.1) (hlv : lv1.1 + 1 ≤ lv.1) (hf : kc + lv1.2.1 ≤ lv.2.1 ∧ kn + lv1.2.2 ≤ lv.2.2)
    (K : ∀ r1, o1 = some r1 → zq_V G Y lv enc (kc + lv1.2.1) (kn + lv1.2.2) (pc + 3) lo ((enc1 r1).1.toList ++ rest) (enc1 r1).2.1 (enc1 r1).2.2.1 (enc1 r1).2.2.2 (f r1)) : zq_V G Y lv enc kc kn pc lo st sh z X (o1.bind f) := by
  intro r hr p e s m args below meth c' A H locs ls C hz hS hA hP hl
  cases ho : o1 with
  | none => rw [ho] at hr; cases hr
  | some r1 =>
    rw [ho] at hr
    obtain ⟨k1, k2, k3, k4, k5⟩ := hcd
    have hG : GoodIn zq_T (zq_ws Y1) := zq_good (fun w hw => by
      rcases List.mem_cons.mp hw with rfl | h
      · exact k1
      · exact h)
    exact zq_after hr C hz hS hA hl (va_runIN (host := host) (As := As) (rest := rest) ⟨C.1, C.2.1, C.2.2.2.1, C.2.2.2.2.1, C.2.2.2.2.2.1⟩ (zq_met hV ho k4 hlen) ⟨va_cnB n C.2.2.2.2.2.1 hG (by unfold zq_ws; rw [hre]) rfl rfl (C.2.2.2.2.2.2.2.2.2.1.1 _ hlk) (C.2.2.2.2.2.1 _ k2) k3 (zq_rm hlv k5), hi, C.2.2.2.2.2.1 _ hin⟩ ⟨zq_blind, zq_preS C hz hS hA hP⟩ rfl hn hl.1 hst (lv_room hcat) hd hf) (K r1 ho)
end
section
variable {ρ : Type} {G : zq_G} {Y Y1 : zq_Y} {lv : zq_L} {l1 : Nat} {enc : ρ → Option Value × zq_W} {kc kn pc : Nat} {lo : List (Nat × Value)} {st : List Value} {sh : zq_H} {z : Nat} {X : zq_M}
theorem zr_Vi {o1 : Option (Int32)} {f : (Int32) → Option ρ} {c ci n idx : Nat} {q : vw_C} {ks : List Nat} {rest : List Value} (As : List Value) (hd : decode Y.2.1 pc = .ok (.invokevirtual idx, 3)) (hV : zq_V G Y1 (l1, 0, 0) (zq_ei sh z X) 0 0 0 (lv_args 0 (.ref (zq_ad G c) :: As)) [] sh z X o1) (hcd : zq_cd Y1 n ∧ Cond.instanceMethod Y1.1 ∈ zq_T ∧ Cond.selects Y1.1.cls Y1.1 Y1.1 ∈ zq_T) (hlk : Cond.methodLink Y.1.cls idx Y1.1 ∈ zq_T) (hs : sh c = some (.inl (ci, ks))) (hci : vwCl[ci]? = some q) (hq : q.1 = Y1.1.cls) (hn : As.length = n) (hst : st = As.reverse ++ .ref (zq_ad G c) :: rest) (hcat : (rest.map fun v => v.category).sum ≤ 8) (hlen : (lg_sl (.ref (zq_ad G c) :: As)).length ≤ Y1.2.2.1) (hlv : l1 + 1 ≤ lv.1) (hf : kc ≤ lv.2.1 ∧ kn ≤ lv.2.2) (K : ∀ r1, zq_V G Y lv enc kc kn (pc + 3) lo (.int r1 :: rest) sh z X (f r1)) : zq_V G Y lv enc kc kn pc lo st sh z X (o1.bind f) := zr_callV (enc1 := zq_ei sh z X) hd hV hcd.1 hcd.2.1 hcd.2.2 hlk hs hci hq hn hst hcat hlen hlv hf (fun r1 _ => K r1)
theorem zr_Si {o1 : Option (Int32)} {f : (Int32) → Option ρ} {n idx : Nat} {rest : List Value} (As : List Value) (hd : decode Y.2.1 pc = .ok (.invokestatic idx, 3)) (hV : zq_V G Y1 (l1, 0, 0) (zq_ei sh z X) 0 0 0 (lv_args 0 As) [] sh z X o1) (hcd : zq_cd Y1 n ∧ Cond.static Y1.1 ∈ zq_T) (hlk : Cond.methodLink Y.1.cls idx Y1.1 ∈ zq_T) (hn : As.length = n) (hst : st = As.reverse ++ rest) (hcat : (rest.map fun v => v.category).sum ≤ 8) (hlen : (lg_sl As).length ≤ Y1.2.2.1) (hlv : l1 + 1 ≤ lv.1) (hf : kc ≤ lv.2.1 ∧ kn ≤ lv.2.2) (K : ∀ r1, zq_V G Y lv enc kc kn (pc + 3) lo (.int r1 :: rest) sh z X (f r1)) : zq_V G Y lv enc kc kn pc lo st sh z X (o1.bind f) := zr_callS (enc1 := zq_ei sh z X) hd hV hcd.1 hcd.2 hlk hn hst hcat hlen hlv hf (fun r1 _ => K r1)
theorem zr_Ni {o1 : Option (Int32)} {f : (Int32) → Option ρ} {n idx : Nat} {rest : List Value} (host : String) (As : List Value) (hd : decode Y.2.1 pc = .ok (.invokestatic idx, 3)) (hV : zq_V G Y1 (l1, 0, 0) (zq_ei sh z X) 0 0 0 (lv_args 0 As) [] sh z X o1) (hcd : zq_cd Y1 n ∧ Cond.static Y1.1 ∈ zq_T) (hlk : (Y.1.cls, idx, Y1.1, host) ∈ zq_nM) (hn : As.length = n) (hst : st = As.reverse ++ rest) (hcat : (rest.map fun v => v.category).sum ≤ 8) (hlen : (lg_sl As).length ≤ Y1.2.2.1) (hlv : l1 + 1 ≤ lv.1) (hf : kc ≤ lv.2.1 ∧ kn ≤ lv.2.2) (K : ∀ r1, zq_V G Y lv enc kc kn (pc + 3) lo (.int r1 :: rest) sh z X (f r1)) : zq_V G Y lv enc kc kn pc lo st sh z X (o1.bind f) := zr_callSN (enc1 := zq_ei sh z X) hd hV hcd.1 hcd.2 hlk hn hst hcat hlen hlv hf (fun r1 _ => K r1)
theorem zr_Vsi {o1 : Option (Int32 × zq_M)} {f : (Int32 × zq_M) → Option ρ} {c ci n idx : Nat} {q : vw_C} {ks : List Nat} {rest : List Value} (As : List Value) (hd : decode Y.2.1 pc = .ok (.invokevirtual idx, 3)) (hV : zq_V G Y1 (l1, 0, 0) (zq_si sh z) 0 0 0 (lv_args 0 (.ref (zq_ad G c) :: As)) [] sh z X o1) (hcd : zq_cd Y1 n ∧ Cond.instanceMethod Y1.1 ∈ zq_T ∧ Cond.selects Y1.1.cls Y1.1 Y1.1 ∈ zq_T) (hlk : Cond.methodLink Y.1.cls idx Y1.1 ∈ zq_T) (hs : sh c = some (.inl (ci, ks))) (hci : vwCl[ci]? = some q) (hq : q.1 = Y1.1.cls) (hn : As.length = n) (hst : st = As.reverse ++ .ref (zq_ad G c) :: rest) (hcat : (rest.map fun v => v.category).sum ≤ 8) (hlen : (lg_sl (.ref (zq_ad G c) :: As)).length ≤ Y1.2.2.1) (hlv : l1 + 1 ≤ lv.1) (hf : kc ≤ lv.2.1 ∧ kn ≤ lv.2.2) (K : ∀ r1 X1, zq_V G Y lv enc kc kn (pc + 3) lo (.int r1 :: rest) sh z X1 (f (r1, X1))) : zq_V G Y lv enc kc kn pc lo st sh z X (o1.bind f) := zr_callV (enc1 := zq_si sh z) hd hV hcd.1 hcd.2.1 hcd.2.2 hlk hs hci hq hn hst hcat hlen hlv hf (fun r1 _ => K r1.1 r1.2)
theorem zr_Ssi {o1 : Option (Int32 × zq_M)} {f : (Int32 × zq_M) → Option ρ} {n idx : Nat} {rest : List Value} (As : List Value) (hd : decode Y.2.1 pc = .ok (.invokestatic idx, 3)) (hV : zq_V G Y1 (l1, 0, 0) (zq_si sh z) 0 0 0 (lv_args 0 As) [] sh z X o1) (hcd : zq_cd Y1 n ∧ Cond.static Y1.1 ∈ zq_T) (hlk : Cond.methodLink Y.1.cls idx Y1.1 ∈ zq_T) (hn : As.length = n) (hst : st = As.reverse ++ rest) (hcat : (rest.map fun v => v.category).sum ≤ 8) (hlen : (lg_sl As).length ≤ Y1.2.2.1) (hlv : l1 + 1 ≤ lv.1) (hf : kc ≤ lv.2.1 ∧ kn ≤ lv.2.2) (K : ∀ r1 X1, zq_V G Y lv enc kc kn (pc + 3) lo (.int r1 :: rest) sh z X1 (f (r1, X1))) : zq_V G Y lv enc kc kn pc lo st sh z X (o1.bind f) := zr_callS (enc1 := zq_si sh z) hd hV hcd.1 hcd.2 hlk hn hst hcat hlen hlv hf (fun r1 _ => K r1.1 r1.2)
theorem zr_Vl {o1 : Option (Int64)} {f : (Int64) → Option ρ} {c ci n idx : Nat} {q : vw_C} {ks : List Nat} {rest : List Value} (As : List Value) (hd : decode Y.2.1 pc = .ok (.invokevirtual idx, 3)) (hV : zq_V G Y1 (l1, 0, 0) (zq_el sh z X) 0 0 0 (lv_args 0 (.ref (zq_ad G c) :: As)) [] sh z X o1) (hcd : zq_cd Y1 n ∧ Cond.instanceMethod Y1.1 ∈ zq_T ∧ Cond.selects Y1.1.cls Y1.1 Y1.1 ∈ zq_T) (hlk : Cond.methodLink Y.1.cls idx Y1.1 ∈ zq_T) (hs : sh c = some (.inl (ci, ks))) (hci : vwCl[ci]? = some q) (hq : q.1 = Y1.1.cls) (hn : As.length = n) (hst : st = As.reverse ++ .ref (zq_ad G c) :: rest) (hcat : (rest.map fun v => v.category).sum ≤ 8) (hlen : (lg_sl (.ref (zq_ad G c) :: As)).length ≤ Y1.2.2.1) (hlv : l1 + 1 ≤ lv.1) (hf : kc ≤ lv.2.1 ∧ kn ≤ lv.2.2) (K : ∀ r1, zq_V G Y lv enc kc kn (pc + 3) lo (.long r1 :: rest) sh z X (f r1)) : zq_V G Y lv enc kc kn pc lo st sh z X (o1.bind f) := zr_callV (enc1 := zq_el sh z X) hd hV hcd.1 hcd.2.1 hcd.2.2 hlk hs hci hq hn hst hcat hlen hlv hf (fun r1 _ => K r1)
theorem zr_Sl {o1 : Option (Int64)} {f : (Int64) → Option ρ} {n idx : Nat} {rest : List Value} (As : List Value) (hd : decode Y.2.1 pc = .ok (.invokestatic idx, 3)) (hV : zq_V G Y1 (l1, 0, 0) (zq_el sh z X) 0 0 0 (lv_args 0 As) [] sh z X o1) (hcd : zq_cd Y1 n ∧ Cond.static Y1.1 ∈ zq_T) (hlk : Cond.methodLink Y.1.cls idx Y1.1 ∈ zq_T) (hn : As.length = n) (hst : st = As.reverse ++ rest) (hcat : (rest.map fun v => v.category).sum ≤ 8) (hlen : (lg_sl As).length ≤ Y1.2.2.1) (hlv : l1 + 1 ≤ lv.1) (hf : kc ≤ lv.2.1 ∧ kn ≤ lv.2.2) (K : ∀ r1, zq_V G Y lv enc kc kn (pc + 3) lo (.long r1 :: rest) sh z X (f r1)) : zq_V G Y lv enc kc kn pc lo st sh z X (o1.bind f) := zr_callS (enc1 := zq_el sh z X) hd hV hcd.1 hcd.2 hlk hn hst hcat hlen hlv hf (fun r1 _ => K r1)
theorem zr_Vsl {o1 : Option (Int64 × zq_M)} {f : (Int64 × zq_M) → Option ρ} {c ci n idx : Nat} {q : vw_C} {ks : List Nat} {rest : List Value} (As : List Value) (hd : decode Y.2.1 pc = .ok (.invokevirtual idx, 3)) (hV : zq_V G Y1 (l1, 0, 0) (zq_sl sh z) 0 0 0 (lv_args 0 (.ref (zq_ad G c) :: As)) [] sh z X o1) (hcd : zq_cd Y1 n ∧ Cond.instanceMethod Y1.1 ∈ zq_T ∧ Cond.selects Y1.1.cls Y1.1 Y1.1 ∈ zq_T) (hlk : Cond.methodLink Y.1.cls idx Y1.1 ∈ zq_T) (hs : sh c = some (.inl (ci, ks))) (hci : vwCl[ci]? = some q) (hq : q.1 = Y1.1.cls) (hn : As.length = n) (hst : st = As.reverse ++ .ref (zq_ad G c) :: rest) (hcat : (rest.map fun v => v.category).sum ≤ 8) (hlen : (lg_sl (.ref (zq_ad G c) :: As)).length ≤ Y1.2.2.1) (hlv : l1 + 1 ≤ lv.1) (hf : kc ≤ lv.2.1 ∧ kn ≤ lv.2.2) (K : ∀ r1 X1, zq_V G Y lv enc kc kn (pc + 3) lo (.long r1 :: rest) sh z X1 (f (r1, X1))) : zq_V G Y lv enc kc kn pc lo st sh z X (o1.bind f) := zr_callV (enc1 := zq_sl sh z) hd hV hcd.1 hcd.2.1 hcd.2.2 hlk hs hci hq hn hst hcat hlen hlv hf (fun r1 _ => K r1.1 r1.2)
theorem zr_Ssl {o1 : Option (Int64 × zq_M)} {f : (Int64 × zq_M) → Option ρ} {n idx : Nat} {rest : List Value} (As : List Value) (hd : decode Y.2.1 pc = .ok (.invokestatic idx, 3)) (hV : zq_V G Y1 (l1, 0, 0) (zq_sl sh z) 0 0 0 (lv_args 0 As) [] sh z X o1) (hcd : zq_cd Y1 n ∧ Cond.static Y1.1 ∈ zq_T) (hlk : Cond.methodLink Y.1.cls idx Y1.1 ∈ zq_T) (hn : As.length = n) (hst : st = As.reverse ++ rest) (hcat : (rest.map fun v => v.category).sum ≤ 8) (hlen : (lg_sl As).length ≤ Y1.2.2.1) (hlv : l1 + 1 ≤ lv.1) (hf : kc ≤ lv.2.1 ∧ kn ≤ lv.2.2) (K : ∀ r1 X1, zq_V G Y lv enc kc kn (pc + 3) lo (.long r1 :: rest) sh z X1 (f (r1, X1))) : zq_V G Y lv enc kc kn pc lo st sh z X (o1.bind f) := zr_callS (enc1 := zq_sl sh z) hd hV hcd.1 hcd.2 hlk hn hst hcat hlen hlv hf (fun r1 _ => K r1.1 r1.2)
theorem zr_Vv {o1 : Option (zq_M)} {f : (zq_M) → Option ρ} {c ci n idx : Nat} {q : vw_C} {ks : List Nat} {rest : List Value} (As : List Value) (hd : decode Y.2.1 pc = .ok (.invokevirtual idx, 3)) (hV : zq_V G Y1 (l1, 0, 0) (zq_sv sh z) 0 0 0 (lv_args 0 (.ref (zq_ad G c) :: As)) [] sh z X o1) (hcd : zq_cd Y1 n ∧ Cond.instanceMethod Y1.1 ∈ zq_T ∧ Cond.selects Y1.1.cls Y1.1 Y1.1 ∈ zq_T) (hlk : Cond.methodLink Y.1.cls idx Y1.1 ∈ zq_T) (hs : sh c = some (.inl (ci, ks))) (hci : vwCl[ci]? = some q) (hq : q.1 = Y1.1.cls) (hn : As.length = n) (hst : st = As.reverse ++ .ref (zq_ad G c) :: rest) (hcat : (rest.map fun v => v.category).sum ≤ 8) (hlen : (lg_sl (.ref (zq_ad G c) :: As)).length ≤ Y1.2.2.1) (hlv : l1 + 1 ≤ lv.1) (hf : kc ≤ lv.2.1 ∧ kn ≤ lv.2.2) (K : ∀ X1, zq_V G Y lv enc kc kn (pc + 3) lo rest sh z X1 (f X1)) : zq_V G Y lv enc kc kn pc lo st sh z X (o1.bind f) := zr_callV (enc1 := zq_sv sh z) hd hV hcd.1 hcd.2.1 hcd.2.2 hlk hs hci hq hn hst hcat hlen hlv hf (fun r1 _ => K r1)
theorem zr_Sv {o1 : Option (zq_M)} {f : (zq_M) → Option ρ} {n idx : Nat} {rest : List Value} (As : List Value) (hd : decode Y.2.1 pc = .ok (.invokestatic idx, 3)) (hV : zq_V G Y1 (l1, 0, 0) (zq_sv sh z) 0 0 0 (lv_args 0 As) [] sh z X o1) (hcd : zq_cd Y1 n ∧ Cond.static Y1.1 ∈ zq_T) (hlk : Cond.methodLink Y.1.cls idx Y1.1 ∈ zq_T) (hn : As.length = n) (hst : st = As.reverse ++ rest) (hcat : (rest.map fun v => v.category).sum ≤ 8) (hlen : (lg_sl As).length ≤ Y1.2.2.1) (hlv : l1 + 1 ≤ lv.1) (hf : kc ≤ lv.2.1 ∧ kn ≤ lv.2.2) (K : ∀ X1, zq_V G Y lv enc kc kn (pc + 3) lo rest sh z X1 (f X1)) : zq_V G Y lv enc kc kn pc lo st sh z X (o1.bind f) := zr_callS (enc1 := zq_sv sh z) hd hV hcd.1 hcd.2 hlk hn hst hcat hlen hlv hf (fun r1 _ => K r1)
theorem zr_Vr {o1 : Option (Nat)} {f : (Nat) → Option ρ} {c ci n idx : Nat} {q : vw_C} {ks : List Nat} {rest : List Value} (As : List Value) (hd : decode Y.2.1 pc = .ok (.invokevirtual idx, 3)) (hV : zq_V G Y1 (l1, 0, 0) (zq_er G sh z X) 0 0 0 (lv_args 0 (.ref (zq_ad G c) :: As)) [] sh z X o1) (hcd : zq_cd Y1 n ∧ Cond.instanceMethod Y1.1 ∈ zq_T ∧ Cond.selects Y1.1.cls Y1.1 Y1.1 ∈ zq_T) (hlk : Cond.methodLink Y.1.cls idx Y1.1 ∈ zq_T) (hs : sh c = some (.inl (ci, ks))) (hci : vwCl[ci]? = some q) (hq : q.1 = Y1.1.cls) (hn : As.length = n) (hst : st = As.reverse ++ .ref (zq_ad G c) :: rest) (hcat : (rest.map fun v => v.category).sum ≤ 8) (hlen : (lg_sl (.ref (zq_ad G c) :: As)).length ≤ Y1.2.2.1) (hlv : l1 + 1 ≤ lv.1) (hf : kc ≤ lv.2.1 ∧ kn ≤ lv.2.2) (K : ∀ r1, zq_V G Y lv enc kc kn (pc + 3) lo (.ref (zq_ad G r1) :: rest) sh z X (f r1)) : zq_V G Y lv enc kc kn pc lo st sh z X (o1.bind f) := zr_callV (enc1 := zq_er G sh z X) hd hV hcd.1 hcd.2.1 hcd.2.2 hlk hs hci hq hn hst hcat hlen hlv hf (fun r1 _ => K r1)
theorem zr_Sr {o1 : Option (Nat)} {f : (Nat) → Option ρ} {n idx : Nat} {rest : List Value} (As : List Value) (hd : decode Y.2.1 pc = .ok (.invokestatic idx, 3)) (hV : zq_V G Y1 (l1, 0, 0) (zq_er G sh z X) 0 0 0 (lv_args 0 As) [] sh z X o1) (hcd : zq_cd Y1 n ∧ Cond.static Y1.1 ∈ zq_T) (hlk : Cond.methodLink Y.1.cls idx Y1.1 ∈ zq_T) (hn : As.length = n) (hst : st = As.reverse ++ rest) (hcat : (rest.map fun v => v.category).sum ≤ 8) (hlen : (lg_sl As).length ≤ Y1.2.2.1) (hlv : l1 + 1 ≤ lv.1) (hf : kc ≤ lv.2.1 ∧ kn ≤ lv.2.2) (K : ∀ r1, zq_V G Y lv enc kc kn (pc + 3) lo (.ref (zq_ad G r1) :: rest) sh z X (f r1)) : zq_V G Y lv enc kc kn pc lo st sh z X (o1.bind f) := zr_callS (enc1 := zq_er G sh z X) hd hV hcd.1 hcd.2 hlk hn hst hcat hlen hlv hf (fun r1 _ => K r1)

theorem zr_gd {b : Bool} {o : Option ρ} (K : b = true → zq_V G Y lv enc kc kn pc lo st sh z X o) : zq_V G Y lv enc kc kn pc lo st sh z X (zq_gd b o) := by
  intro r hr
  unfold zq_gd at hr
  by_cases hb : b = true
  · rw [if_pos hb] at hr
    exact K hb r hr
  · rw [if_neg hb] at hr
    cases hr
theorem zr_min {idx : Nat} {x y : Int32} {o : Option ρ} {rest : List Value} (hd : decode Y.2.1 pc = .ok (.invokestatic idx, 3)) (hlk : Cond.methodLink Y.1.cls idx Lib.Math.min.name ∈ zq_T) (h1 : Cond.static Lib.Math.min.name ∈ zq_T) (h2 : Cond.initialized "java/lang/Math" ∈ zq_T) (h3 : Cond.code Lib.Math.min.name Lib.Math.min.code 2 (some .int) ∈ zq_T) (hlv : 1 ≤ lv.1) (hcat : (rest.map fun v => v.category).sum ≤ 8) (hf : kc ≤ lv.2.1 ∧ kn ≤ lv.2.2) (K : zq_V G Y lv enc kc kn (pc + 3) lo (.int (if y < x then y else x) :: rest) sh z X o) : zq_V G Y lv enc kc kn pc lo (.int y :: .int x :: rest) sh z X o := by
  intro r hr p e s m args below meth c A H locs ls C hz hS hA hP hl
  have hts := C.2.2.2.2.2.1
  exact va_mmin C.1 C.2.1 (C.2.2.2.1.trans hl.1.symm) C.2.2.2.2.1 (hts _ hlk) (hts _ h1) (hts _ h2) (hts _ h3) hlv (by show _ + 13 ≤ 60 * lv.1; omega) hf.1 hf.2 hd (K r hr p e s m args below meth c A H locs ls C hz hS hA hP hl)
theorem zr_oinit {idx c : Nat} {o : Option ρ} {rest : List Value} (hd : decode Y.2.1 pc = .ok (.invokespecial idx, 3)) (hlk : Cond.methodLink Y.1.cls idx Lib.objectInit ∈ zq_T) (h1 : Cond.instanceMethod Lib.objectInit ∈ zq_T) (h3 : Cond.code Lib.objectInit ⟨#[0xb1]⟩ 1 none ∈ zq_T) (hlv : 1 ≤ lv.1) (hcat : (rest.map fun v => v.category).sum ≤ 8) (K : zq_V G Y lv enc kc kn (pc + 3) lo rest sh z X o) : zq_V G Y lv enc kc kn pc lo (.ref (zq_ad G c) :: rest) sh z X o := by
  intro r hr p e s m args below meth c' A H locs ls C hz hS hA hP hl
  have hts := C.2.2.2.2.2.1
  exact W.objInit C.1 C.2.1 C.2.2.2.2.1 (hts _ hlk) (hts _ h1) (hts _ h3) rfl (hl.1.trans C.2.2.2.1.symm) rfl hd hlv (by have := lv_room (m := m) (pc := pc) (ls := ls) (rest := [Value.ref (zq_ad G c)]) hcat; show _ + 12 ≤ 60 * lv.1; revert this; show 2 * 0 + _ ≤ 8 → 2 * 0 + _ + 12 ≤ _; omega) (K r hr p e s m args below meth c' A H locs ls C hz hS hA hP hl)
end
