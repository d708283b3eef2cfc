
def zq_loop {α : Type} (bot : α) (body : α → α) : Nat → α
  | 0 => bot
  | n + 1 => body (zq_loop bot body n)
theorem zr_loop {α : Type} {P : α → Prop} (bot : α) (body : α → α) (h0 : P bot) (h : ∀ r, P r → P (body r)) : ∀ n, P (zq_loop bot body n)
  | 0 => h0
  | n + 1 => h _ (zr_loop bot body h0 h n)
theorem zr_loopN {α : Type} {P : Nat → α → Prop} (bot : α) (body : α → α) (h0 : P 0 bot) (h : ∀ n r, P n r → P (n + 1) (body r)) : ∀ n, P n (zq_loop bot body n)
  | 0 => h0
  | n + 1 => h n _ (zr_loopN bot body h0 h n)
def zq_p {α β γ : Type} (g : α → β → γ) (q : α × β) : γ := g q.1 q.2
def zq_ac {ρ : Type} (sp dp n : Int32) (n1 n2 : Nat) (o : Option ρ) : Option ρ := if sp < 0 ∨ dp < 0 ∨ n < 0 ∨ n1 < sp.toNatClampNeg + n.toNatClampNeg ∨ n2 < dp.toNatClampNeg + n.toNatClampNeg then none else o
def zq_cp1 (X : zq_M) (a : Nat) (sp : Int32) (b : Nat) (dp n : Int32) : zq_M := (fun c k => if c = b then va_cpy (X.1 a) (X.1 b) sp.toNatClampNeg dp.toNatClampNeg n.toNatClampNeg k else X.1 c k, X.2.1, X.2.2)
def zq_cp2 (X : zq_M) (a : Nat) (sp : Int32) (b : Nat) (dp n : Int32) : zq_M := (X.1, fun c k => if c = b then va_cpy (X.2.1 a) (X.2.1 b) sp.toNatClampNeg dp.toNatClampNeg n.toNatClampNeg k else X.2.1 c k, X.2.2)
theorem zq_nt {x k : Int32} {n : Int} (hk : k.toInt = n) (h : ¬ x = k) : ¬ x.toInt = n := fun e => h (Int32.toInt_inj.mp (e.trans hk.symm))
theorem zq_lkD : ∀ (ps : List (Int × Int)) (d x : Int), (∀ q ∈ ps, ¬ x = q.1) → Op.lookupswitch.offset ps d x = d := by
  intro ps d x h
  induction ps with
  | nil => rfl
  | cons a l ih =>
    have h1 := h a List.mem_cons_self
    have h2 := ih (fun q hq => h q (List.mem_cons_of_mem _ hq))
    first
      | (simp only [Op.lookupswitch.offset] at h2 ⊢; simp [List.find?, Ne.symm h1, Ne.symm (fun e => h1 e)] at h2 ⊢; exact h2)
      | (unfold Op.lookupswitch.offset; rw [if_neg (fun e => h1 e)]; exact h2)
      | (unfold Op.lookupswitch.offset; rw [if_neg (fun e => h1 e.symm)]; exact h2)
section
variable {ρ : Type} {G : zq_G} {Y Y1 : zq_Y} {lv : zq_L} {l1 : Nat} {enc : ρ → Option Value × zq_W} {kc kn pc : Nat} {lo : List (Nat × Value)} {st : List Value} {sh : zq_H} {z : Nat} {X : zq_M} {o : Option ρ}
theorem zr_cs {x c : Int32} {o1 o2 : Option ρ} {D : Decidable (x = c)} (KT : x = c → zq_V G Y lv enc kc kn pc lo st sh z X o1) (KF : ¬ x = c → zq_V G Y lv enc kc kn pc lo st sh z X o2) : zq_V G Y lv enc kc kn pc lo st sh z X (@ite _ (x = c) D o1 o2) := by
  intro r hr
  by_cases h : x = c
  · rw [if_pos h] at hr
    exact KT h r hr
  · rw [if_neg h] at hr
    exact KF h r hr
theorem zr_tab {dflt lo1 hi off n : Int} {offs : Array Int} {len : Nat} {x c : Int32} (tgt : Nat) (hd : decode Y.2.1 pc = .ok (.tableswitch dflt lo1 hi offs, len)) (hx : x = c) (hc : c.toInt = n) (h1 : ¬ n < lo1) (h2 : ¬ hi < n) (ho : offs[(n - lo1).toNat]? = some off) (ht : (pc : Int) + off = (tgt : Int)) (K : zq_V G Y lv enc kc kn tgt lo st sh z X o) : zq_V G Y lv enc kc kn pc lo (.int x :: st) sh z X o := by
  intro r hr p e s m args below meth c' A H locs ls C hz hS hA hP hl
  subst hx
  subst hc
  exact lv_tableIn C.1 C.2.1 hd h1 h2 ho ht (K r hr p e s m args below meth c' A H locs ls C hz hS hA hP hl)
theorem zr_tabD {dflt lo1 hi : Int} {offs : Array Int} {len : Nat} {x : Int32} (tgt : Nat) (hd : decode Y.2.1 pc = .ok (.tableswitch dflt lo1 hi offs, len)) (hx : x.toInt < lo1 ∨ hi < x.toInt) (ht : (pc : Int) + dflt = (tgt : Int)) (K : zq_V G Y lv enc kc kn tgt lo st sh z X o) : zq_V G Y lv enc kc kn pc lo (.int x :: st) sh z X o := by
  intro r hr p e s m args below meth c' A H locs ls C hz hS hA hP hl
  exact lv_tableOut C.1 C.2.1 hd hx ht (K r hr p e s m args below meth c' A H locs ls C hz hS hA hP hl)
theorem zr_lok {dflt off n : Int} {ps : Array (Int × Int)} {len : Nat} {x c : Int32} (tgt : Nat) (hd : decode Y.2.1 pc = .ok (.lookupswitch dflt ps, len)) (hx : x = c) (hc : c.toInt = n) (hp : (ps.toList.zip (ps.toList.drop 1)).all (fun (a, next) => a.1 < next.1) = true) (ho : Op.lookupswitch.offset ps.toList dflt n = off) (ht : (pc : Int) + off = (tgt : Int)) (K : zq_V G Y lv enc kc kn tgt lo st sh z X o) : zq_V G Y lv enc kc kn pc lo (.int x :: st) sh z X o := by
  intro r hr p e s m args below meth c' A H locs ls C hz hS hA hP hl
  subst hx
  subst hc
  exact lv_lookup C.1 C.2.1 hd hp ho ht (K r hr p e s m args below meth c' A H locs ls C hz hS hA hP hl)
theorem zr_lokD {dflt : Int} {ps : Array (Int × Int)} {len : Nat} {x : Int32} (tgt : Nat) (hd : decode Y.2.1 pc = .ok (.lookupswitch dflt ps, len)) (hp : (ps.toList.zip (ps.toList.drop 1)).all (fun (a, next) => a.1 < next.1) = true) (hx : ∀ q ∈ ps.toList, ¬ x.toInt = q.1) (ht : (pc : Int) + dflt = (tgt : Int)) (K : zq_V G Y lv enc kc kn tgt lo st sh z X o) : zq_V G Y lv enc kc kn pc lo (.int x :: st) sh z X o := by
  intro r hr p e s m args below meth c' A H locs ls C hz hS hA hP hl
  exact lv_lookup C.1 C.2.1 hd hp (zq_lkD _ _ _ hx) ht (K r hr p e s m args below meth c' A H locs ls C hz hS hA hP hl)
theorem zr_ldc {idx : Nat} {v : Int32} (hd : decode Y.2.1 pc = .ok (.ldc idx, 2)) (hc : Cond.constant Y.1.cls idx v ∈ zq_T) (K : zq_V G Y lv enc kc kn (pc + 2) lo (.int v :: st) sh z X o) : zq_V G Y lv enc kc kn pc lo st sh z X o := by
  intro r hr p e s m args below meth c A H locs ls C hz hS hA hP hl
  exact lv_ldc C.1 C.2.1 C.2.2.2.2.1 (C.2.2.2.2.2.1 _ hc) hd (K r hr p e s m args below meth c A H locs ls C hz hS hA hP hl)
theorem zr_ldcw {idx : Nat} {v : Int32} (hd : decode Y.2.1 pc = .ok (.ldc_w idx, 3)) (hc : Cond.constant Y.1.cls idx v ∈ zq_T) (K : zq_V G Y lv enc kc kn (pc + 3) lo (.int v :: st) sh z X o) : zq_V G Y lv enc kc kn pc lo st sh z X o := by
  intro r hr p e s m args below meth c A H locs ls C hz hS hA hP hl
  exact lv_ldcw C.1 C.2.1 C.2.2.2.2.1 (C.2.2.2.2.2.1 _ hc) hd (K r hr p e s m args below meth c A H locs ls C hz hS hA hP hl)
theorem zr_ldc2 {idx : Nat} {v : Int64} (hd : decode Y.2.1 pc = .ok (.ldc2_w idx, 3)) (hc : Cond.constantLong Y.1.cls idx v ∈ zq_T) (K : zq_V G Y lv enc kc kn (pc + 3) lo (.long v :: st) sh z X o) : zq_V G Y lv enc kc kn pc lo st sh z X o := by
  intro r hr p e s m args below meth c A H locs ls C hz hS hA hP hl
  exact lv_ldc2 C.1 C.2.1 C.2.2.2.2.1 (C.2.2.2.2.2.1 _ hc) hd (K r hr p e s m args below meth c A H locs ls C hz hS hA hP hl)
end
section
variable {ρ : Type} {G : zq_G} {Y Y1 : zq_Y} {lv : zq_L} {l1 : Nat} {enc : ρ → Option Value × zq_W} {kc kn pc : Nat} {lo : List (Nat × Value)} {st : List Value} {sh : zq_H} {z : Nat} {X : zq_M}
theorem zr_Wsi {o1 : Option (Int32 × zq_M)} {g : Int32 → zq_M → Option ρ} {c ci n idx : Nat} {q : vw_C} {ks : List Nat} {rest : List Value} (As : List Value) (hd : decode Y.2.1 pc = .ok (.invokevirtual idx, 3)) (hV : zq_V G Y1 (l1, 0, 0) (zq_si sh z) 0 0 0 (lv_args 0 (.ref (zq_ad G c) :: As)) [] sh z X o1) (hcd : zq_cd Y1 n ∧ Cond.instanceMethod Y1.1 ∈ zq_T ∧ Cond.selects Y1.1.cls Y1.1 Y1.1 ∈ zq_T) (hlk : Cond.methodLink Y.1.cls idx Y1.1 ∈ zq_T) (hs : sh c = some (.inl (ci, ks))) (hci : vwCl[ci]? = some q) (hq : q.1 = Y1.1.cls) (hn : As.length = n) (hst : st = As.reverse ++ .ref (zq_ad G c) :: rest) (hcat : (rest.map fun v => v.category).sum ≤ 8) (hlen : (lg_sl (.ref (zq_ad G c) :: As)).length ≤ Y1.2.2.1) (hlv : l1 + 1 ≤ lv.1) (hf : kc ≤ lv.2.1 ∧ kn ≤ lv.2.2) (K : ∀ r1 X1, zq_V G Y lv enc kc kn (pc + 3) lo (.int r1 :: rest) sh z X1 (g r1 X1)) : zq_V G Y lv enc kc kn pc lo st sh z X (o1.bind (zq_p g)) := zr_callV (f := zq_p g) (enc1 := zq_si sh z) hd hV hcd.1 hcd.2.1 hcd.2.2 hlk hs hci hq hn hst hcat hlen hlv hf (fun r1 _ => K r1.1 r1.2)
theorem zr_Tsi {o1 : Option (Int32 × zq_M)} {g : Int32 → zq_M → Option ρ} {n idx : Nat} {rest : List Value} (As : List Value) (hd : decode Y.2.1 pc = .ok (.invokestatic idx, 3)) (hV : zq_V G Y1 (l1, 0, 0) (zq_si sh z) 0 0 0 (lv_args 0 As) [] sh z X o1) (hcd : zq_cd Y1 n ∧ Cond.static Y1.1 ∈ zq_T) (hlk : Cond.methodLink Y.1.cls idx Y1.1 ∈ zq_T) (hn : As.length = n) (hst : st = As.reverse ++ rest) (hcat : (rest.map fun v => v.category).sum ≤ 8) (hlen : (lg_sl As).length ≤ Y1.2.2.1) (hlv : l1 + 1 ≤ lv.1) (hf : kc ≤ lv.2.1 ∧ kn ≤ lv.2.2) (K : ∀ r1 X1, zq_V G Y lv enc kc kn (pc + 3) lo (.int r1 :: rest) sh z X1 (g r1 X1)) : zq_V G Y lv enc kc kn pc lo st sh z X (o1.bind (zq_p g)) := zr_callS (f := zq_p g) (enc1 := zq_si sh z) hd hV hcd.1 hcd.2 hlk hn hst hcat hlen hlv hf (fun r1 _ => K r1.1 r1.2)
theorem zr_Wsl {o1 : Option (Int64 × zq_M)} {g : Int64 → zq_M → Option ρ} {c ci n idx : Nat} {q : vw_C} {ks : List Nat} {rest : List Value} (As : List Value) (hd : decode Y.2.1 pc = .ok (.invokevirtual idx, 3)) (hV : zq_V G Y1 (l1, 0, 0) (zq_sl sh z) 0 0 0 (lv_args 0 (.ref (zq_ad G c) :: As)) [] sh z X o1) (hcd : zq_cd Y1 n ∧ Cond.instanceMethod Y1.1 ∈ zq_T ∧ Cond.selects Y1.1.cls Y1.1 Y1.1 ∈ zq_T) (hlk : Cond.methodLink Y.1.cls idx Y1.1 ∈ zq_T) (hs : sh c = some (.inl (ci, ks))) (hci : vwCl[ci]? = some q) (hq : q.1 = Y1.1.cls) (hn : As.length = n) (hst : st = As.reverse ++ .ref (zq_ad G c) :: rest) (hcat : (rest.map fun v => v.category).sum ≤ 8) (hlen : (lg_sl (.ref (zq_ad G c) :: As)).length ≤ Y1.2.2.1) (hlv : l1 + 1 ≤ lv.1) (hf : kc ≤ lv.2.1 ∧ kn ≤ lv.2.2) (K : ∀ r1 X1, zq_V G Y lv enc kc kn (pc + 3) lo (.long r1 :: rest) sh z X1 (g r1 X1)) : zq_V G Y lv enc kc kn pc lo st sh z X (o1.bind (zq_p g)) := zr_callV (f := zq_p g) (enc1 := zq_sl sh z) hd hV hcd.1 hcd.2.1 hcd.2.2 hlk hs hci hq hn hst hcat hlen hlv hf (fun r1 _ => K r1.1 r1.2)
theorem zr_Tsl {o1 : Option (Int64 × zq_M)} {g : Int64 → zq_M → Option ρ} {n idx : Nat} {rest : List Value} (As : List Value) (hd : decode Y.2.1 pc = .ok (.invokestatic idx, 3)) (hV : zq_V G Y1 (l1, 0, 0) (zq_sl sh z) 0 0 0 (lv_args 0 As) [] sh z X o1) (hcd : zq_cd Y1 n ∧ Cond.static Y1.1 ∈ zq_T) (hlk : Cond.methodLink Y.1.cls idx Y1.1 ∈ zq_T) (hn : As.length = n) (hst : st = As.reverse ++ rest) (hcat : (rest.map fun v => v.category).sum ≤ 8) (hlen : (lg_sl As).length ≤ Y1.2.2.1) (hlv : l1 + 1 ≤ lv.1) (hf : kc ≤ lv.2.1 ∧ kn ≤ lv.2.2) (K : ∀ r1 X1, zq_V G Y lv enc kc kn (pc + 3) lo (.long r1 :: rest) sh z X1 (g r1 X1)) : zq_V G Y lv enc kc kn pc lo st sh z X (o1.bind (zq_p g)) := zr_callS (f := zq_p g) (enc1 := zq_sl sh z) hd hV hcd.1 hcd.2 hlk hn hst hcat hlen hlv hf (fun r1 _ => K r1.1 r1.2)
end
