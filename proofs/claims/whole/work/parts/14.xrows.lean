theorem zg_RX0_42 : Cond.fieldLink RX0 42 "MiddleSpeaks$Acts" "OWN" "[I" ∈ zq_T := zq_m5 47 rfl rfl
theorem zg_RX10_325 : Cond.fieldLink RX10 325 "MiddleSpeaks" "ABOVE" "[I" ∈ zq_T := zq_m5 72 rfl rfl
theorem zg_RJ0_38 : Cond.fieldLink RJ0 38 "java/lang/String" "COMPACT_STRINGS" "Z" ∈ zq_T := zq_m3 13 rfl rfl
theorem zg_RJ0_1053 : Cond.fieldLink RJ0 1053 "jdk/internal/util/Preconditions" "SIOOBE_FORMATTER" "Ljava/util/function/BiFunction;" ∈ zq_T := zq_m3 29 rfl rfl
theorem zg_RJ0_9 : Cond.fieldLink RJ0 9 "java/lang/String" "value" "[B" ∈ zq_T := zq_m8 40 rfl rfl
theorem zg_RJ0_15 : Cond.fieldLink RJ0 15 "java/lang/String" "coder" "B" ∈ zq_T := zq_m8 41 rfl rfl
theorem zs_60 : (60, "price", 0) ∈ zq_sr := List.mem_of_getElem? (i := 0) rfl
theorem zs_66 : (66, "bar", 1) ∈ zq_sr := List.mem_of_getElem? (i := 1) rfl
theorem zs_68 : (68, "worth", 2) ∈ zq_sr := List.mem_of_getElem? (i := 2) rfl
theorem zs_70 : (70, "same", 3) ∈ zq_sr := List.mem_of_getElem? (i := 3) rfl
theorem zs_97 : (97, "0123456789", 4) ∈ zq_sr := List.mem_of_getElem? (i := 4) rfl
theorem zs_85 : (85, "prankt", 5) ∈ zq_sr := List.mem_of_getElem? (i := 5) rfl
theorem zs_91 : (91, "<=>", 6) ∈ zq_sr := List.mem_of_getElem? (i := 6) rfl
theorem zx_max1 : Cond.static Lib.Math.max.name ∈ zq_T := zq_m3 85 rfl rfl
theorem zx_max3 : Cond.code Lib.Math.max.name Lib.Math.max.code 2 (some .int) ∈ zq_T := zq_m3 86 rfl rfl
theorem zl_RJ1_92 : Cond.methodLink RJ1 92 Lib.Math.max.name ∈ zq_T := zq_m3 84 rfl rfl

def zq_pv (sh : zq_H) (z : Nat) (X : zq_M) (_ : Unit) : Option Value × zq_W := (none, sh, z, X)
def zq_gn {ρ : Type} (ty : FieldType) (v : Int32) (o : Option ρ) : Option ρ := if vp_nar ty v = v then o else none
section
variable {ρ : Type} {G : zq_G} {Y Y1 : zq_Y} {lv : zq_L} {l1 : Nat} {enc : ρ → Option Value × zq_W} {kc kn pc : Nat} {lo : List (Nat × Value)} {st : List Value} {sh : zq_H} {z : Nat} {X : zq_M} {o : Option ρ}
theorem zr_gsA {idx : Nat} (hd : decode Y.2.1 pc = .ok (.getstatic idx, 3)) (hw : Cond.fieldLink Y.1.cls idx "MiddleSpeaks" "ABOVE" "[I" ∈ zq_T) (K : zq_V G Y lv enc kc kn (pc + 3) lo (.ref G.2.2.2.2.1 :: st) sh z X o) : zq_V G Y lv enc kc kn pc lo st sh z X o := by
  intro r hr p e s m args below meth c A H locs ls C hz hS hA hP hl
  obtain ⟨h1, h2, h3, h4, h5, h6, h7, h8, h9, h10, h11, h12⟩ := C.2.2.2.2.2.2.2.2.2.1
  exact va_gets C.1 C.2.1 h6 hS C.2.2.2.2.1 (C.2.2.2.2.2.1 _ hw) (fun x h => h) hd (K r hr p e s m args below meth c A H locs ls C hz hS hA hP hl)
theorem zr_gsAN (hd : decode Y.2.1 pc = .ok (.getstatic 45, 3)) (hy : Y.1.cls = "MiddleSpeaks$Acts") (K : zq_V G Y lv enc kc kn (pc + 3) lo (.ref G.2.2.2.2.1 :: st) sh z X o) : zq_V G Y lv enc kc kn pc lo st sh z X o := by
  intro r hr p e s m args below meth c A H locs ls C hz hS hA hP hl
  obtain ⟨h1, h2, h3, h4, h5, h6, h7, h8, h9, h10, h11, h12⟩ := C.2.2.2.2.2.2.2.2.2.1
  exact va_getsN C.1 C.2.1 h6 hS C.2.2.2.2.1 (by rw [hy]; exact va_Nw.use rfl h2) (fun x h => h) hd (K r hr p e s m args below meth c A H locs ls C hz hS hA hP hl)
theorem zr_gsO {idx : Nat} (hd : decode Y.2.1 pc = .ok (.getstatic idx, 3)) (hw : Cond.fieldLink Y.1.cls idx "MiddleSpeaks$Acts" "OWN" "[I" ∈ zq_T) (K : zq_V G Y lv enc kc kn (pc + 3) lo (.ref G.2.2.2.2.2.1 :: st) sh z X o) : zq_V G Y lv enc kc kn pc lo st sh z X o := by
  intro r hr p e s m args below meth c A H locs ls C hz hS hA hP hl
  obtain ⟨h1, h2, h3, h4, h5, h6, h7, h8, h9, h10, h11, h12⟩ := C.2.2.2.2.2.2.2.2.2.1
  exact va_gets C.1 C.2.1 h8 hS C.2.2.2.2.1 (C.2.2.2.2.2.1 _ hw) (fun x h => h) hd (K r hr p e s m args below meth c A H locs ls C hz hS hA hP hl)
theorem zr_gsC {idx : Nat} (hd : decode Y.2.1 pc = .ok (.getstatic idx, 3)) (hw : Cond.fieldLink Y.1.cls idx "java/lang/String" "COMPACT_STRINGS" "Z" ∈ zq_T) (K : zq_V G Y lv enc kc kn (pc + 3) lo (.int 1 :: st) sh z X o) : zq_V G Y lv enc kc kn pc lo st sh z X o := by
  intro r hr p e s m args below meth c A H locs ls C hz hS hA hP hl
  obtain ⟨h1, h2, h3, h4, h5, h6, h7, h8, h9, h10, h11, h12⟩ := C.2.2.2.2.2.2.2.2.2.1
  exact va_gets C.1 C.2.1 h10 hS C.2.2.2.2.1 (C.2.2.2.2.2.1 _ hw) (fun x h => h) hd (K r hr p e s m args below meth c A H locs ls C hz hS hA hP hl)
theorem zr_gsQ {idx : Nat} (hd : decode Y.2.1 pc = .ok (.getstatic idx, 3)) (hw : Cond.fieldLink Y.1.cls idx "jdk/internal/util/Preconditions" "SIOOBE_FORMATTER" "Ljava/util/function/BiFunction;" ∈ zq_T) (K : ∀ w : Value, w.category = 1 → zq_V G Y lv enc kc kn (pc + 3) lo (w :: st) sh z X o) : zq_V G Y lv enc kc kn pc lo st sh z X o := by
  intro r hr p e s m args below meth c A H locs ls C hz hS hA hP hl
  obtain ⟨h1, h2, h3, h4, h5, h6, h7, h8, h9, h10, h11, h12⟩ := C.2.2.2.2.2.2.2.2.2.1
  rcases h12 with h | ⟨q, h⟩
  · exact va_gets C.1 C.2.1 h hS C.2.2.2.2.1 (C.2.2.2.2.2.1 _ hw) (fun x h => h) hd (K .null rfl r hr p e s m args below meth c A H locs ls C hz hS hA hP hl)
  · exact va_gets C.1 C.2.1 h hS C.2.2.2.2.1 (C.2.2.2.2.2.1 _ hw) (fun x h => h) hd (K (.ref q) rfl r hr p e s m args below meth c A H locs ls C hz hS hA hP hl)
theorem zr_tald0 {i : Int32} (hd : decode Y.2.1 pc = .ok (.iaload, 1)) (K : zq_V G Y lv enc kc kn (pc + 1) lo (.int (zq_above.getD (zq_ix i) 0) :: st) sh z X o) : zq_V G Y lv enc kc kn pc lo (.int i :: .ref G.2.2.2.2.1 :: st) sh z X (zq_ck i 7 o) := by
  intro r hr p e s m args below meth c A H locs ls C hz hS hA hP hl
  obtain ⟨hi, hr⟩ := zq_ck_some hr
  obtain ⟨h1, h2, h3, h4, h5, h6, h7, h8, h9, h10, h11, h12⟩ := C.2.2.2.2.2.2.2.2.2.1
  exact va_ti C.1 C.2.1 h7 hS hi rfl hd (K r hr p e s m args below meth c A H locs ls C hz hS hA hP hl)
theorem zr_tald1 {i : Int32} (hd : decode Y.2.1 pc = .ok (.iaload, 1)) (K : zq_V G Y lv enc kc kn (pc + 1) lo (.int (zq_own.getD (zq_ix i) 0) :: st) sh z X o) : zq_V G Y lv enc kc kn pc lo (.int i :: .ref G.2.2.2.2.2.1 :: st) sh z X (zq_ck i 21 o) := by
  intro r hr p e s m args below meth c A H locs ls C hz hS hA hP hl
  obtain ⟨hi, hr⟩ := zq_ck_some hr
  obtain ⟨h1, h2, h3, h4, h5, h6, h7, h8, h9, h10, h11, h12⟩ := C.2.2.2.2.2.2.2.2.2.1
  exact va_ti C.1 C.2.1 h9 hS hi rfl hd (K r hr p e s m args below meth c A H locs ls C hz hS hA hP hl)
theorem zr_ldcS {idx i : Nat} {tx : String} (hd : decode Y.2.1 pc = .ok (.ldc idx, 2)) (hs : (idx, tx, i) ∈ zq_sr) (hy : Y.1.cls = "MiddleSpeaks$HouseReader") (K : zq_V G Y lv enc kc kn (pc + 2) lo (.ref (G.2.2.2.2.2.2.1 i) :: st) sh z X o) : zq_V G Y lv enc kc kn pc lo st sh z X o := by
  intro r hr p e s m args below meth c A H locs ls C hz hS hA hP hl
  obtain ⟨h1, h2, h3, h4, h5, h6, h7, h8, h9, h10, h11, h12⟩ := C.2.2.2.2.2.2.2.2.2.1
  exact va_ldcS C.1 C.2.1 (own := "MiddleSpeaks$HouseReader") (by rw [← hy]; exact C.2.2.2.2.1) (h5 _ hs) hd (K r hr p e s m args below meth c A H locs ls C hz hS hA hP hl)
theorem zr_sval {idx i : Nat} (hd : decode Y.2.1 pc = .ok (.getfield idx, 3)) (hw : Cond.fieldLink Y.1.cls idx "java/lang/String" "value" "[B" ∈ zq_T) (hi : i < 7) (K : zq_V G Y lv enc kc kn (pc + 3) lo (.ref (G.2.2.2.2.2.2.2 i) :: st) sh z X o) : zq_V G Y lv enc kc kn pc lo (.ref (G.2.2.2.2.2.2.1 i) :: st) sh z X o := by
  intro r hr p e s m args below meth c A H locs ls C hz hS hA hP hl
  obtain ⟨h1, h2, h3, h4, h5, h6, h7, h8, h9, h10, h11, h12⟩ := C.2.2.2.2.2.2.2.2.2.1
  exact vk_getf C.1 C.2.1 (h11.1 i hi).2.2.1 hS C.2.2.2.2.1 (C.2.2.2.2.2.1 _ hw) (fun x h => h) hd (K r hr p e s m args below meth c A H locs ls C hz hS hA hP hl)
theorem zr_scod {idx i : Nat} (hd : decode Y.2.1 pc = .ok (.getfield idx, 3)) (hw : Cond.fieldLink Y.1.cls idx "java/lang/String" "coder" "B" ∈ zq_T) (hi : i < 7) (K : zq_V G Y lv enc kc kn (pc + 3) lo (.int 0 :: st) sh z X o) : zq_V G Y lv enc kc kn pc lo (.ref (G.2.2.2.2.2.2.1 i) :: st) sh z X o := by
  intro r hr p e s m args below meth c A H locs ls C hz hS hA hP hl
  obtain ⟨h1, h2, h3, h4, h5, h6, h7, h8, h9, h10, h11, h12⟩ := C.2.2.2.2.2.2.2.2.2.1
  exact vk_getf C.1 C.2.1 (h11.1 i hi).2.1 hS C.2.2.2.2.1 (C.2.2.2.2.2.1 _ hw) (fun x h => h) hd (K r hr p e s m args below meth c A H locs ls C hz hS hA hP hl)
theorem zr_slen {i : Nat} (hd : decode Y.2.1 pc = .ok (.arraylength, 1)) (hi : i < 7) (K : zq_V G Y lv enc kc kn (pc + 1) lo (.int (Int32.ofNat (zq_len.getD i 0)) :: st) sh z X o) : zq_V G Y lv enc kc kn pc lo (.ref (G.2.2.2.2.2.2.2 i) :: st) sh z X o := by
  intro r hr p e s m args below meth c A H locs ls C hz hS hA hP hl
  obtain ⟨h1, h2, h3, h4, h5, h6, h7, h8, h9, h10, h11, h12⟩ := C.2.2.2.2.2.2.2.2.2.1
  obtain ⟨cell, g1, g2, g3, g4, g5, g6, g7⟩ := ((h11.1 i hi).2.2.2).kept hS.2.1
  exact W.alen C.1 C.2.1 g1 g2 g5 rfl rfl hd (K r hr p e s m args below meth c A H locs ls C hz hS hA hP hl)
theorem zr_sbld {k : Nat} {i : Int32} (hd : decode Y.2.1 pc = .ok (.baload, 1)) (hi : k < 7) (K : zq_V G Y lv enc kc kn (pc + 1) lo (.int ((zq_byt.getD k []).getD (zq_ix i) 0) :: st) sh z X o) : zq_V G Y lv enc kc kn pc lo (.int i :: .ref (G.2.2.2.2.2.2.2 k) :: st) sh z X (zq_ck i (zq_len.getD k 0) o) := by
  intro r hr p e s m args below meth c A H locs ls C hz hS hA hP hl
  obtain ⟨hj, hr⟩ := zq_ck_some hr
  obtain ⟨h1, h2, h3, h4, h5, h6, h7, h8, h9, h10, h11, h12⟩ := C.2.2.2.2.2.2.2.2.2.1
  exact va_tb C.1 C.2.1 (h11.1 k hi).2.2.2 hS hj rfl hd (K r hr p e s m args below meth c A H locs ls C hz hS hA hP hl)
theorem zr_nreturn {v : Int32} {q : ρ} {ty : FieldType} (hd : decode Y.2.1 pc = .ok (.ireturn, 1)) (hy : Y.2.2.2 = some ty) (hq : narrow ty (.int v) = .int (vp_nar ty v)) (he : enc q = (some (.int v), sh, z, X)) (h1 : kc ≤ lv.2.1) (h2 : kn ≤ lv.2.2) : zq_V G Y lv enc kc kn pc lo [.int v] sh z X (zq_gn ty v (some q)) := by
  intro r hr
  unfold zq_gn at hr
  by_cases hv : vp_nar ty v = v
  · rw [if_pos hv] at hr
    exact zr_zreturn (q := q) hd hy (hq.trans (by rw [hv])) he h1 h2 r hr
  · rw [if_neg hv] at hr
    cases hr
theorem zr_Spv {o1 : Option Unit} {f : Unit → Option ρ} {n idx : Nat} {rest : List Value} (As : List Value) (hd : decode Y.2.1 pc = .ok (.invokestatic idx, 3)) (hV : zq_V G Y1 (l1, 0, 0) (zq_pv sh z X) 0 0 0 (lv_args 0 As) [] sh z X o1) (hcd : zq_cd Y1 n ∧ Cond.static Y1.1 ∈ zq_T) (hlk : Cond.methodLink Y.1.cls idx Y1.1 ∈ zq_T) (hn : As.length = n) (hst : st = As.reverse ++ rest) (hcat : (rest.map fun v => v.category).sum ≤ 8) (hlen : (lg_sl As).length ≤ Y1.2.2.1) (hlv : l1 + 1 ≤ lv.1) (hf : kc ≤ lv.2.1 ∧ kn ≤ lv.2.2) (K : ∀ r1, zq_V G Y lv enc kc kn (pc + 3) lo rest sh z X (f r1)) : zq_V G Y lv enc kc kn pc lo st sh z X (o1.bind f) := zr_callS (enc1 := zq_pv sh z X) hd hV hcd.1 hcd.2 hlk hn hst hcat hlen hlv hf (fun r1 _ => K r1)
theorem zr_VSi {o1 : Option Int32} {f : Int32 → Option ρ} {i n idx : Nat} {rest : List Value} (As : List Value) (hd : decode Y.2.1 pc = .ok (.invokevirtual idx, 3)) (hV : zq_V G Y1 (l1, 0, 0) (zq_ei sh z X) 0 0 0 (lv_args 0 (.ref (G.2.2.2.2.2.2.1 i) :: As)) [] sh z X o1) (hcd : zq_cd Y1 n ∧ Cond.instanceMethod Y1.1 ∈ zq_T ∧ Cond.selects Y1.1.cls Y1.1 Y1.1 ∈ zq_T) (hlk : Cond.methodLink Y.1.cls idx Y1.1 ∈ zq_T) (hi : i < 7) (hq : "java/lang/String" = Y1.1.cls) (hn : As.length = n) (hst : st = As.reverse ++ .ref (G.2.2.2.2.2.2.1 i) :: rest) (hcat : (rest.map fun v => v.category).sum ≤ 8) (hlen : (lg_sl (.ref (G.2.2.2.2.2.2.1 i) :: As)).length ≤ Y1.2.2.1) (hlv : l1 + 1 ≤ lv.1) (hf : kc ≤ lv.2.1 ∧ kn ≤ lv.2.2)
    (K : ∀ r1, zq_V G Y lv enc kc kn (pc + 3) lo (.int r1 :: rest) sh z X (f r1)) : zq_V G Y lv enc kc kn pc lo st sh z X (o1.bind f) := by
  intro r hr p e s m args below meth c' A H locs ls C hz hS hA hP hl
  cases ho : o1 with
  | none => rw [ho] at hr; cases hr
  | some r1 =>
    rw [ho] at hr
    obtain ⟨⟨k1, k2, k3, k4, k5⟩, hin, hse⟩ := hcd
    have hG : GoodIn zq_T (wsV Y.1.cls idx Y1.1.cls Y1.1 (zq_ws Y1)) := by
      refine zq_good (fun w hw => ?_)
      rcases List.mem_append.mp hw with h | h
      · simp only [List.mem_cons, List.not_mem_nil, or_false] at h
        rcases h with rfl | rfl | rfl | rfl <;> assumption
      · rcases List.mem_cons.mp h with rfl | h
        · exact k1
        · exact h
    refine zq_after (lv1 := (l1, 0, 0)) (enc1 := zq_ei sh z X) (r1 := r1) hr C hz hS hA hl (va_runV (As := As) (rest := rest) ⟨C.1, C.2.1, C.2.2.2.1, C.2.2.2.2.1, C.2.2.2.2.2.1⟩ (zq_met hV ho k4 hlen) (cwV n C.2.2.2.2.2.1 hG rfl rfl rfl ⟨rfl, k3⟩ (zq_rm (lv1 := (l1, 0, 0)) hlv k5)) ⟨zq_blind, ?_, zq_preS C hz hS hA hP⟩ rfl hn hl.1 hst (lv_room hcat) hd hf) (K r1)
    have h11 := C.2.2.2.2.2.2.2.2.2.1.2.2.2.2.2.2.2.2.2.2.1
    rw [← hq]
    exact vk_recv h11 hi hS
theorem zq_copy {p : Program} {e : Env} {s : State} {m : MethodId} {args : Array Value} {below : List Frame} {meth : Method} {c : Code} {A : Nat → Prop} {H : Heap} {locs : List Loc} {ls : Array Slot} {Q : State → Prop} {α : Type} {idx a b n1 n2 kd : Nat} {ty : FieldType} {f g : Nat → α} {mk : α → Value} {sp dp n : Int32} {rest : List Value} {ar : Nat → (Nat → α) → vp_A}
    (C : zq_C G Y p s m args meth c A) (hd : decode Y.2.1 pc = .ok (.invokestatic idx, 3)) (hlk : Cond.methodLink Y.1.cls idx arraycopyName ∈ zq_T) (har : ∀ cA k h, vp_cell cA (ar k h) = arrV cA k (fun j => mk (h j))) (hty : (zq_ty G)[kd]? = some (zq_aC G kd, ty)) (hprim : refKind ty = false) (hfit : ∀ x, fits ty (mk x) = true) (hob : ∀ (x : α) (U : State) (cm : ClassId), U.takes cm (mk x))
    (hc0 : H[zq_ad G a]? = some (vp_cell (zq_aC G kd) (ar n1 f))) (hc1 : H[zq_ad G b]? = some (vp_cell (zq_aC G kd) (ar n2 g))) (h1 : ¬ sp < 0) (h2 : ¬ dp < 0) (h3 : ¬ n < 0) (h4 : sp.toNatClampNeg + n.toNatClampNeg ≤ n1) (h5 : dp.toNatClampNeg + n.toNatClampNeg ≤ n2) (hS : va_S A s.heap H locs) (hAb : A (zq_ad G b)) (hls : ls.size = Y.2.2.1) (hlv : 1 ≤ lv.1) (hcat : (rest.map fun v => v.category).sum ≤ 8)
    (K : ∀ (H1 : Heap) (locs1 : List Loc), H1[zq_ad G b]? = some (vp_cell (zq_aC G kd) (ar n2 (va_cpy f g sp.toNatClampNeg dp.toNatClampNeg n.toNatClampNeg))) → H1.size = H.size → (∀ q : Nat, q ≠ zq_ad G b → H1[q]? = H[q]?) → va_S A s.heap H1 locs1 → W p G.1 e (zq_R lv) s m args below meth c H1 locs1 kc kn Q (F0 m (pc + 3) ls rest)) : W p G.1 e (zq_R lv) s m args below meth c H locs kc kn Q (F0 m pc ls (.int n :: .int dp :: .ref (zq_ad G b) :: .int sp :: .ref (zq_ad G a) :: rest)) := by
  have nn : ∀ x : Int32, ¬ x < 0 → x.toInt = (x.toNatClampNeg : Int) := by
    intro x hx
    have hx0 : (0 : Int) ≤ x.toInt := by
      have := Int32.not_lt.mp hx
      simpa using Int32.le_iff_toInt_le.mp this
    show x.toInt = ((x.toInt.toNat : Nat) : Int)
    omega
  have hts := C.2.2.2.2.2.1
  have hK := C.2.2.2.2.2.2.2.2.1
  have hq : nativeFrameWords "java/lang/System" "arraycopy" 5 = 7 := by decide
  intro T hT X0
  rw [har] at hc0 hc1
  obtain ⟨-, k0, hk0, cm0, hkk0⟩ := (hK.2 kd _ hty).1 n1 (fun j => mk (f j))
  obtain ⟨-, k1, hk1, cm1, hkk1⟩ := (hK.2 kd _ hty).1 n2 (fun j => mk (g j))
  obtain ⟨vm', X', step⟩ := X0.arraycopy C.1 C.2.2.2.2.1 (hts _ hlk) (hts _ zx_ac1) (hts _ zx_ac2) (hts _ zx_ac3) (src := zq_ad G a) (dst := zq_ad G b) (cs := arrV (zq_aC G kd) n1 (fun j => mk (f j))) (cd := arrV (zq_aC G kd) n2 (fun j => mk (g j))) (srcPos := sp) (destPos := dp) (n := n) (by rw [hT]; exact hc0) (by rw [hT]; exact hc1)
    (fun _ h => by cases h) (fun _ h => by cases h) (fun h => by cases h) (fun h => by cases h) hk0 hk1 hkk0 hkk1 (by simp [hprim]) h1 h2 h3
    (by rw [nn sp h1, nn n h3, arrV_size]; omega)
    (by rw [nn dp h2, nn n h3, arrV_size]; omega)
    (fun vm₁ _ i hi => by
      have e : (arrV (zq_aC G kd) n1 (fun j => mk (f j))).slots.getD (sp.toNatClampNeg + i) .null = mk (f (sp.toNatClampNeg + i)) := by
        rw [Array.getD_eq_getD_getElem?, arrV_read _ _ (by omega)]
        rfl
      refine ⟨?_, ?_⟩
      · rw [e]
        exact hfit _
      · rw [e]
        exact hob _ _ _)
    (g := F0 m pc ls (.int n :: .int dp :: .ref (zq_ad G b) :: .int sp :: .ref (zq_ad G a) :: rest)) rfl (hls.trans C.2.2.2.1.symm) (rest := rest) rfl (by rw [C.2.1]; exact hd) hlv (by show 2 * 0 + _ + (nativeFrameWords "java/lang/System" "arraycopy" 5 + 11) ≤ 60 * lv.1; rw [hq]; omega)
  have e1 : copied (arrV (zq_aC G kd) n1 (fun j => mk (f j))) (arrV (zq_aC G kd) n2 (fun j => mk (g j))) sp dp n = arrV (zq_aC G kd) n2 (fun j => mk (va_cpy f g sp.toNatClampNeg dp.toNatClampNeg n.toNatClampNeg j)) := va_copied mk (zq_aC G kd) (zq_aC G kd) f g h4
  rw [e1] at X' step
  have hl : zq_ad G b < H.size := (Array.getElem?_eq_some_iff.mp hc1).1
  clear e1
  generalize hcN : arrV (zq_aC G kd) n2 (fun j => mk (va_cpy f g sp.toNatClampNeg dp.toNatClampNeg n.toNatClampNeg j)) = cN at X' step
  have hheap : ((T.setVm vm').setCell (zq_ad G b) cN).heap = H.setIfInBounds (zq_ad G b) cN := by rw [← hT]; rfl
  have oq : ∀ q : Nat, q ≠ zq_ad G b → (H.setIfInBounds (zq_ad G b) cN)[q]? = H[q]? := fun q hq => by simp [Array.getElem?_setIfInBounds, Ne.symm hq]
  obtain ⟨t, a1, b1⟩ := K (H.setIfInBounds (zq_ad G b) cN) _ (by rw [har, hcN]; simp [Array.getElem?_setIfInBounds, hl]) (by simp) oq ⟨by simp; exact hS.1, fun q g1 g2 => by
      rw [oq q (fun e => g2 (by rw [e]; exact hAb))]
      exact hS.2.1 q g1 g2, fun q hq => by
      rcases List.mem_append.mp hq with h | h
      · exact hS.2.2 q h
      · obtain ⟨y, -, hy⟩ := List.mem_map.mp h
        rw [← hy]
        exact hAb⟩ _ hheap X'
  exact ⟨t, step t a1, b1⟩
theorem zq_ac_some {sp dp n : Int32} {n1 n2 : Nat} {r : ρ} (h : zq_ac sp dp n n1 n2 o = some r) : ¬ sp < 0 ∧ ¬ dp < 0 ∧ ¬ n < 0 ∧ sp.toNatClampNeg + n.toNatClampNeg ≤ n1 ∧ dp.toNatClampNeg + n.toNatClampNeg ≤ n2 ∧ o = some r := by
  unfold zq_ac at h
  split at h
  · cases h
  · rename_i g
    refine ⟨fun q => g (Or.inl q), fun q => g (Or.inr (Or.inl q)), fun q => g (Or.inr (Or.inr (Or.inl q))), ?_, ?_, h⟩
    · exact Nat.not_lt.mp (fun q => g (Or.inr (Or.inr (Or.inr (Or.inl q)))))
    · exact Nat.not_lt.mp (fun q => g (Or.inr (Or.inr (Or.inr (Or.inr q)))))
theorem zr_max {idx : Nat} {x y : Int32} {rest : List Value} (hd : decode Y.2.1 pc = .ok (.invokestatic idx, 3)) (hlk : Cond.methodLink Y.1.cls idx Lib.Math.max.name ∈ zq_T) (h1 : Cond.static Lib.Math.max.name ∈ zq_T) (h2 : Cond.initialized "java/lang/Math" ∈ zq_T) (h3 : Cond.code Lib.Math.max.name Lib.Math.max.code 2 (some .int) ∈ zq_T) (hlv : 1 ≤ lv.1) (hcat : (rest.map fun v => v.category).sum ≤ 8) (hf : kc ≤ lv.2.1 ∧ kn ≤ lv.2.2) (K : zq_V G Y lv enc kc kn (pc + 3) lo (.int (if x < y then y else x) :: rest) sh z X o) : zq_V G Y lv enc kc kn pc lo (.int y :: .int x :: rest) sh z X o := by
  intro r hr p e s m args below meth c A H locs ls C hz hS hA hP hl
  have hts := C.2.2.2.2.2.1
  exact va_mmax C.1 C.2.1 (C.2.2.2.1.trans hl.1.symm) C.2.2.2.2.1 (hts _ hlk) (hts _ h1) (hts _ h2) (hts _ h3) hlv (by show _ + 13 ≤ 60 * lv.1; omega) hf.1 hf.2 hd (K r hr p e s m args below meth c A H locs ls C hz hS hA hP hl)
theorem zr_cpi {idx a b n1 n2 : Nat} {sp dp n : Int32} {rest : List Value} {f : zq_M → Option ρ} (hd : decode Y.2.1 pc = .ok (.invokestatic idx, 3)) (hlk : Cond.methodLink Y.1.cls idx arraycopyName ∈ zq_T) (ha : sh a = some (.inr (0, n1))) (hb : sh b = some (.inr (0, n2))) (hlv : 1 ≤ lv.1) (hcat : (rest.map fun v => v.category).sum ≤ 8) (K : ∀ X1, zq_V G Y lv enc kc kn (pc + 3) lo rest sh z X1 (f X1)) : zq_V G Y lv enc kc kn pc lo (.int n :: .int dp :: .ref (zq_ad G b) :: .int sp :: .ref (zq_ad G a) :: rest) sh z X (zq_ac sp dp n n1 n2 (zq_b (zq_cp1 X a sp b dp n) f)) := by
  intro r hr p e s m args below meth c A H locs ls C hz hS hA hP hl
  obtain ⟨g1, g2, g3, g4, g5, hr⟩ := zq_ac_some hr
  refine zq_copy (kd := 0) (ty := .int) (f := X.1 a) (g := X.1 b) (mk := Value.int) (ar := fun k h => (k, .inl h)) C hd hlk (fun _ _ _ => rfl) rfl rfl (fun _ => rfl) (fun _ _ _ => trivial) (hP a _ ha) (hP b _ hb) g1 g2 g3 g4 g5 hS (hA b _ hb) hl.1 hlv hcat ?_
  intro H1 locs1 e1 e2 e3 hS1
  refine K _ r hr p e s m args below meth c A H1 locs1 ls C (e2.trans hz) hS1 hA (hP.upd (c := b) (s1 := .inr (0, n2)) ?_ hb (fun _ _ => rfl) ?_ (fun d _ hd' _ => e3 _ (fun e => hd' (zq_ad_inj e)))) hl
  · show H1[zq_ad G b]? = some (vp_cell (zq_aC G 0) (n2, .inl ((zq_cp1 X a sp b dp n).1 b)))
    rw [show (zq_cp1 X a sp b dp n).1 b = va_cpy (X.1 a) (X.1 b) sp.toNatClampNeg dp.toNatClampNeg n.toNatClampNeg by funext k; simp [zq_cp1]]
    exact e1
  · intro d hd'
    refine ⟨?_, rfl, rfl⟩
    funext k
    simp [zq_cp1, hd']
theorem zr_cpl {idx a b n1 n2 : Nat} {sp dp n : Int32} {rest : List Value} {f : zq_M → Option ρ} (hd : decode Y.2.1 pc = .ok (.invokestatic idx, 3)) (hlk : Cond.methodLink Y.1.cls idx arraycopyName ∈ zq_T) (ha : sh a = some (.inr (2, n1))) (hb : sh b = some (.inr (2, n2))) (hlv : 1 ≤ lv.1) (hcat : (rest.map fun v => v.category).sum ≤ 8) (K : ∀ X1, zq_V G Y lv enc kc kn (pc + 3) lo rest sh z X1 (f X1)) : zq_V G Y lv enc kc kn pc lo (.int n :: .int dp :: .ref (zq_ad G b) :: .int sp :: .ref (zq_ad G a) :: rest) sh z X (zq_ac sp dp n n1 n2 (zq_b (zq_cp2 X a sp b dp n) f)) := by
  intro r hr p e s m args below meth c A H locs ls C hz hS hA hP hl
  obtain ⟨g1, g2, g3, g4, g5, hr⟩ := zq_ac_some hr
  refine zq_copy (kd := 2) (ty := .long) (f := X.2.1 a) (g := X.2.1 b) (mk := Value.long) (ar := fun k h => (k, .inr (.inl h))) C hd hlk (fun _ _ _ => rfl) rfl rfl (fun _ => rfl) (fun _ _ _ => trivial) (hP a _ ha) (hP b _ hb) g1 g2 g3 g4 g5 hS (hA b _ hb) hl.1 hlv hcat ?_
  intro H1 locs1 e1 e2 e3 hS1
  refine K _ r hr p e s m args below meth c A H1 locs1 ls C (e2.trans hz) hS1 hA (hP.upd (c := b) (s1 := .inr (2, n2)) ?_ hb (fun _ _ => rfl) ?_ (fun d _ hd' _ => e3 _ (fun e => hd' (zq_ad_inj e)))) hl
  · show H1[zq_ad G b]? = some (vp_cell (zq_aC G 2) (n2, .inr (.inl ((zq_cp2 X a sp b dp n).2.1 b))))
    rw [show (zq_cp2 X a sp b dp n).2.1 b = va_cpy (X.2.1 a) (X.2.1 b) sp.toNatClampNeg dp.toNatClampNeg n.toNatClampNeg by funext k; simp [zq_cp2]]
    exact e1
  · intro d hd'
    refine ⟨rfl, ?_, rfl⟩
    funext k
    simp [zq_cp2, hd']
theorem zq_lv {m l n : Nat} (h : m ≤ l) : m + 1 ≤ l + (n + 1) := by omega

theorem zr_ift_eq {x : Int32} {off : Int} (tgt : Nat) (hd : decode Y.2.1 pc = .ok (.ifCond .eq off, 3)) (ht : (pc : Int) + off = (tgt : Int)) (hc : x = 0) (K : zq_V G Y lv enc kc kn tgt lo st sh z X o) : zq_V G Y lv enc kc kn pc lo (.int x :: st) sh z X o := by
  intro r hr p e s m args below meth c A H locs ls C hz hS hA hP hl
  exact lv_if_eq C.1 C.2.1 hd ht (fun _ => K r hr p e s m args below meth c A H locs ls C hz hS hA hP hl) (fun h => absurd hc h)
theorem zr_iff_eq {x : Int32} {off : Int} (tgt : Nat) (hd : decode Y.2.1 pc = .ok (.ifCond .eq off, 3)) (ht : (pc : Int) + off = (tgt : Int)) (hc : ¬ x = 0) (K : zq_V G Y lv enc kc kn (pc + 3) lo st sh z X o) : zq_V G Y lv enc kc kn pc lo (.int x :: st) sh z X o := by
  intro r hr p e s m args below meth c A H locs ls C hz hS hA hP hl
  exact lv_if_eq C.1 C.2.1 hd ht (fun h => absurd h hc) (fun _ => K r hr p e s m args below meth c A H locs ls C hz hS hA hP hl)
theorem zr_ift_ne {x : Int32} {off : Int} (tgt : Nat) (hd : decode Y.2.1 pc = .ok (.ifCond .ne off, 3)) (ht : (pc : Int) + off = (tgt : Int)) (hc : ¬ x = 0) (K : zq_V G Y lv enc kc kn tgt lo st sh z X o) : zq_V G Y lv enc kc kn pc lo (.int x :: st) sh z X o := by
  intro r hr p e s m args below meth c A H locs ls C hz hS hA hP hl
  exact lv_if_ne C.1 C.2.1 hd ht (fun _ => K r hr p e s m args below meth c A H locs ls C hz hS hA hP hl) (fun h => absurd h hc)
theorem zr_iff_ne {x : Int32} {off : Int} (tgt : Nat) (hd : decode Y.2.1 pc = .ok (.ifCond .ne off, 3)) (ht : (pc : Int) + off = (tgt : Int)) (hc : x = 0) (K : zq_V G Y lv enc kc kn (pc + 3) lo st sh z X o) : zq_V G Y lv enc kc kn pc lo (.int x :: st) sh z X o := by
  intro r hr p e s m args below meth c A H locs ls C hz hS hA hP hl
  exact lv_if_ne C.1 C.2.1 hd ht (fun h => absurd hc h) (fun _ => K r hr p e s m args below meth c A H locs ls C hz hS hA hP hl)
end
