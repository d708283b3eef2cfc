theorem zq_hi0 : ∀ w ∈ u_ws RX0 TX0 5, w ∈ zq_T := by decide +kernel
theorem zq_hi1 : ∀ w ∈ u_ws RX1 TX1 7, w ∈ zq_T := by decide +kernel
theorem zq_hi2 : ∀ w ∈ u_ws RX2 TX2 7, w ∈ zq_T := by decide +kernel
theorem zq_hi3 : ∀ w ∈ u_ws RX3 TX3 4, w ∈ zq_T := by decide +kernel
theorem zq_hi4 : ∀ w ∈ u_ws RX4 TX4 2, w ∈ zq_T := by decide +kernel
theorem zq_hi5 : ∀ w ∈ u_ws RX5 TX5 15, w ∈ zq_T := by decide +kernel
theorem zq_hi6 : ∀ w ∈ u_ws RX6 TX6 7, w ∈ zq_T := by decide +kernel
theorem zq_hi7 : ∀ w ∈ u_ws RX7 TX7 3, w ∈ zq_T := by decide +kernel
theorem zq_hi8 : ∀ w ∈ u_ws RX8 TX8 1, w ∈ zq_T := by decide +kernel
theorem zq_hi9 : ∀ w ∈ u_ws RX9 TX9 8, w ∈ zq_T := by decide +kernel
theorem zq_hi10 : ∀ w ∈ u_ws RX10 TX10 16, w ∈ zq_T := by decide +kernel
theorem zq_hi11 : ∀ w ∈ u_ws RX11 TX11 67, w ∈ zq_T := by decide +kernel
theorem zq_hin : ∀ (ci : Nat) (q : vw_C), vwCl[ci]? = some q → ∀ w ∈ u_ws q.1 q.2.1 q.2.2, w ∈ zq_T := by
  intro ci q h
  match ci, h with
  | 0, h => cases h; exact zq_hi0
  | 1, h => cases h; exact zq_hi1
  | 2, h => cases h; exact zq_hi2
  | 3, h => cases h; exact zq_hi3
  | 4, h => cases h; exact zq_hi4
  | 5, h => cases h; exact zq_hi5
  | 6, h => cases h; exact zq_hi6
  | 7, h => cases h; exact zq_hi7
  | 8, h => cases h; exact zq_hi8
  | 9, h => cases h; exact zq_hi9
  | 10, h => cases h; exact zq_hi10
  | 11, h => cases h; exact zq_hi11
  | k + 12, h => cases h
def zq_tyf (ci : Nat) : Nat → FieldType := match ci with
  | 0 => tyX0
  | 1 => tyX1
  | 2 => tyX2
  | 3 => tyX3
  | 4 => tyX4
  | 5 => tyX5
  | 6 => tyX6
  | 7 => tyX7
  | 8 => tyX8
  | 9 => tyX9
  | 10 => tyX10
  | 11 => tyX11
  | _ => fun _ => .int
theorem zq_tyo : ∀ (ci : Nat) (q : vw_C), vwCl[ci]? = some q → (∀ k, k < q.2.2 → parseFieldDescriptor (q.2.1 k).2.2.1 = some (zq_tyf ci k)) ∧ ∀ a, a < q.2.2 → ∀ b, b < q.2.2 → a ≠ b → (q.2.1 a).2.1 ≠ (q.2.1 b).2.1 := by
  intro ci q h
  match ci, h with
  | 0, h => cases h; exact ⟨tyX0_ok, nmX0⟩
  | 1, h => cases h; exact ⟨tyX1_ok, nmX1⟩
  | 2, h => cases h; exact ⟨tyX2_ok, nmX2⟩
  | 3, h => cases h; exact ⟨tyX3_ok, nmX3⟩
  | 4, h => cases h; exact ⟨tyX4_ok, nmX4⟩
  | 5, h => cases h; exact ⟨tyX5_ok, nmX5⟩
  | 6, h => cases h; exact ⟨tyX6_ok, nmX6⟩
  | 7, h => cases h; exact ⟨tyX7_ok, nmX7⟩
  | 8, h => cases h; exact ⟨tyX8_ok, nmX8⟩
  | 9, h => cases h; exact ⟨tyX9_ok, nmX9⟩
  | 10, h => cases h; exact ⟨tyX10_ok, nmX10⟩
  | 11, h => cases h; exact ⟨tyX11_ok, nmX11⟩
  | k + 12, h => cases h

theorem zq_ad_inj {G : zq_G} {a b : Nat} (h : zq_ad G a = zq_ad G b) : a = b := by
  unfold zq_ad zq_prm at h
  repeat' split at h
  all_goals omega
theorem zq_one {G : zq_G} {sh : zq_H} {X : zq_M} {H : Heap} {c : Nat} {s : zq_S} (hP : zq_P G sh X H) (hs : sh c = some s) : va_P G.2.1 vwCl [(zq_ad G c, zq_cell G X c s)] H := by
  intro k q hq
  match k, hq with
  | 0, hq => cases hq; exact hP c s hs
  | k + 1, hq => simp at hq
theorem zq_P.upd {G : zq_G} {sh sh1 : zq_H} {X X1 : zq_M} {H H1 : Heap} {c : Nat} {s1 : zq_S} (hP : zq_P G sh X H) (hc : va_at G.2.1 vwCl (zq_ad G c, zq_cell G X1 c s1) H1) (hs : sh1 c = some s1) (hsh : ∀ d, d ≠ c → sh1 d = sh d)
    (hX : ∀ d, d ≠ c → X1.1 d = X.1 d ∧ X1.2.1 d = X.2.1 d ∧ X1.2.2 d = X.2.2 d) (hq : ∀ d s, d ≠ c → sh d = some s → H1[zq_ad G d]? = H[zq_ad G d]?) : zq_P G sh1 X1 H1 := by
  intro d s hd
  by_cases h : d = c
  · subst h
    rw [hs] at hd
    cases hd
    exact hc
  · rw [hsh d h] at hd
    obtain ⟨e1, e2, e3⟩ := hX d h
    have h1 := hP d s hd
    have h2 : va_at G.2.1 vwCl (zq_ad G d, zq_cell G X d s) H1 := h1.kept (hq d s h hd)
    unfold zq_cell at h2 ⊢
    rw [e1, e2, e3]
    exact h2
theorem zq_up_ne {α : Type} {f : Nat → Nat → α} {c k d : Nat} {v : α} (h : d ≠ c) : zq_up f c k v d = f d := by
  funext j
  simp [zq_up, h]
theorem zq_up_eq {α : Type} {f : Nat → Nat → α} {c k : Nat} {v : α} : zq_up f c k v c = fun j => if j = k then v else f c j := by
  funext j
  simp [zq_up]
theorem zq_u1_ne {X : zq_M} {c k d : Nat} {v : Int32} (h : d ≠ c) : (zq_u1 X c k v).1 d = X.1 d ∧ (zq_u1 X c k v).2.1 d = X.2.1 d ∧ (zq_u1 X c k v).2.2 d = X.2.2 d := ⟨zq_up_ne h, rfl, rfl⟩
theorem zq_u2_ne {X : zq_M} {c k d : Nat} {v : Int64} (h : d ≠ c) : (zq_u2 X c k v).1 d = X.1 d ∧ (zq_u2 X c k v).2.1 d = X.2.1 d ∧ (zq_u2 X c k v).2.2 d = X.2.2 d := ⟨rfl, zq_up_ne h, rfl⟩
theorem zq_u3_ne {X : zq_M} {c k d : Nat} {v : Option Nat} (h : d ≠ c) : (zq_u3 X c k v).1 d = X.1 d ∧ (zq_u3 X c k v).2.1 d = X.2.1 d ∧ (zq_u3 X c k v).2.2 d = X.2.2 d := ⟨rfl, rfl, zq_up_ne h⟩
theorem zq_z_ne {X : zq_M} {c d : Nat} (h : d ≠ c) : (zq_z X c).1 d = X.1 d ∧ (zq_z X c).2.1 d = X.2.1 d ∧ (zq_z X c).2.2 d = X.2.2 d := by
  refine ⟨?_, ?_, ?_⟩ <;> (funext j; simp [zq_z, h])
theorem zq_fs_get {G : zq_G} {f1 : Nat → Int32} {f2 : Nat → Int64} {f3 : Nat → Option Nat} {ks : List Nat} {k kd : Nat} (h : ks[k]? = some kd) : (zq_fs G f1 f2 f3 ks)[k]? = some (zq_fv G f1 f2 f3 k kd) := by
  unfold zq_fs
  rw [List.getElem?_mapIdx, h]
  rfl
theorem zq_fs_len {G : zq_G} {f1 : Nat → Int32} {f2 : Nat → Int64} {f3 : Nat → Option Nat} {ks : List Nat} : (zq_fs G f1 f2 f3 ks).length = ks.length := by
  unfold zq_fs
  simp
theorem zq_fs_set {G : zq_G} {f1 g1 : Nat → Int32} {f2 g2 : Nat → Int64} {f3 g3 : Nat → Option Nat} {ks : List Nat} {k kd : Nat} {v : Value} (hk : k < ks.length) (hv : zq_fv G g1 g2 g3 k kd = v) (h1 : ∀ j, j ≠ k → g1 j = f1 j) (h2 : ∀ j, j ≠ k → g2 j = f2 j) (h3 : ∀ j, j ≠ k → g3 j = f3 j) : (zq_fs G f1 f2 f3 ks).set k v = zq_fs G g1 g2 g3 (ks.set k kd) := by
  apply List.ext_getElem?
  intro j
  by_cases hj : k = j
  · subst hj
    rw [List.getElem?_set_self (by rw [zq_fs_len]; exact hk)]
    rw [zq_fs_get (kd := kd) (by rw [List.getElem?_set_self hk]), hv]
  · rw [List.getElem?_set_ne hj]
    unfold zq_fs
    rw [List.getElem?_mapIdx, List.getElem?_mapIdx, List.getElem?_set_ne hj]
    cases ks[j]? with
    | none => rfl
    | some d =>
      have hj' : j ≠ k := fun e => hj e.symm
      show some _ = some _
      congr 1
      unfold zq_fv
      rw [h1 j hj', h2 j hj', h3 j hj']
theorem zq_kd_spec {sh : zq_H} {c k ci kd : Nat} (h : zq_kd sh c k = some (ci, kd)) : ∃ ks : List Nat, sh c = some (.inl (ci, ks)) ∧ ks[k]? = some kd := by
  unfold zq_kd at h
  split at h
  · rename_i ci' ks hs
    cases hk : ks[k]? with
    | none => rw [hk] at h; cases h
    | some d =>
      rw [hk] at h
      cases h
      exact ⟨ks, hs, hk⟩
  · cases h
section
variable {ρ : Type} {G : zq_G} {Y : zq_Y} {lv : zq_L} {enc : ρ → Option Value × zq_W} {kc kn pc : Nat} {lo : List (Nat × Value)} {st : List Value} {sh : zq_H} {z : Nat} {X : zq_M} {o : Option ρ}
theorem zr_getG {c k ci kd idx : Nat} (hk : zq_kd sh c k = some (ci, kd)) (hf : zq_FL Y.1.cls idx ci k) (hd : decode Y.2.1 pc = .ok (.getfield idx, 3)) (K : zq_V G Y lv enc kc kn (pc + 3) lo (zq_fv G (X.1 c) (X.2.1 c) (X.2.2 c) k kd :: st) sh z X o) : zq_V G Y lv enc kc kn pc lo (.ref (zq_ad G c) :: st) sh z X o := by
  intro r hr p e s m args below meth c' A H locs ls C hz hS hA hP hl
  obtain ⟨ks, h1, h2⟩ := zq_kd_spec hk
  obtain ⟨q, hq, hk2, hw⟩ := hf
  exact va_get (ci := ci) (C := q.1) (T := q.2.1) (N := q.2.2) C.1 C.2.1 C.2.2.2.2.2.1 (zq_hin ci q hq) C.2.2.2.2.1 C.2.2.2.2.2.2.2.2.1 (zq_one hP h1) 0 rfl hq k hk2 (C.2.2.2.2.2.1 _ hw) (fun x h => h) (zq_fs_get h2) hd (K r hr p e s m args below meth c' A H locs ls C hz hS hA hP hl)
theorem zr_getI {c k ci idx : Nat} (hd : decode Y.2.1 pc = .ok (.getfield idx, 3)) (hf : zq_FL Y.1.cls idx ci k) (hk : zq_kd sh c k = some (ci, 0)) (K : zq_V G Y lv enc kc kn (pc + 3) lo (.int (X.1 c k) :: st) sh z X o) : zq_V G Y lv enc kc kn pc lo (.ref (zq_ad G c) :: st) sh z X o := zr_getG hk hf hd K
theorem zr_getL {c k ci idx : Nat} (hd : decode Y.2.1 pc = .ok (.getfield idx, 3)) (hf : zq_FL Y.1.cls idx ci k) (hk : zq_kd sh c k = some (ci, 1)) (K : zq_V G Y lv enc kc kn (pc + 3) lo (.long (X.2.1 c k) :: st) sh z X o) : zq_V G Y lv enc kc kn pc lo (.ref (zq_ad G c) :: st) sh z X o := zr_getG hk hf hd K
theorem zr_getC {c k ci j idx : Nat} (hd : decode Y.2.1 pc = .ok (.getfield idx, 3)) (hf : zq_FL Y.1.cls idx ci k) (hk : zq_kd sh c k = some (ci, j + 4)) (K : zq_V G Y lv enc kc kn (pc + 3) lo (.ref (zq_ad G j) :: st) sh z X o) : zq_V G Y lv enc kc kn pc lo (.ref (zq_ad G c) :: st) sh z X o := zr_getG hk hf hd K
theorem zr_getR {c k ci idx : Nat} {b : Nat → Bool} {f : Nat → Option ρ} (hd : decode Y.2.1 pc = .ok (.getfield idx, 3)) (hf : zq_FL Y.1.cls idx ci k) (hk : zq_kd sh c k = some (ci, 2)) (K : ∀ h, b h = true → zq_V G Y lv enc kc kn (pc + 3) lo (.ref (zq_ad G h) :: st) sh z X (f h)) : zq_V G Y lv enc kc kn pc lo (.ref (zq_ad G c) :: st) sh z X (zq_nn (X.2.2 c k) b f) := by
  intro r hr
  unfold zq_nn at hr
  cases hX : X.2.2 c k with
  | none => rw [hX] at hr; cases hr
  | some h =>
    rw [hX] at hr
    by_cases hb : b h = true
    · simp only [hb, if_true] at hr
      refine zr_getG (o := some r) hk hf hd ?_ r rfl
      show zq_V G Y lv enc kc kn (pc + 3) lo (va_rf ((X.2.2 c k).map (zq_ad G)) :: st) sh z X (some r)
      rw [hX, ← hr]
      exact K h hb
    · simp only [hb] at hr
      cases hr
theorem zq_putG {c k ci idx : Nat} {ks : List Nat} {X1 : zq_M} {kd1 : Nat} {v : Value} {ty : FieldType} (fin : Bool) (hs : sh c = some (.inl (ci, ks))) (hk : k < ks.length) (hf : zq_FL Y.1.cls idx ci k) (hd : decode Y.2.1 pc = .ok (.putfield idx, 3))
    (hty : zq_tyf ci k = ty) (hn : narrow ty v = v) (hfit : fits ty v = true) (hfin : ∀ q : vw_C, vwCl[ci]? = some q → (q.2.1 k).2.2.2 = fin) (hin : fin = true → Y.1.name = "<init>" ∧ ∀ q : vw_C, vwCl[ci]? = some q → (q.2.1 k).1 = Y.1.cls)
    (hv : zq_fv G (X1.1 c) (X1.2.1 c) (X1.2.2 c) k kd1 = v) (h1 : ∀ j, j ≠ k → X1.1 c j = X.1 c j) (h2 : ∀ j, j ≠ k → X1.2.1 c j = X.2.1 c j) (h3 : ∀ j, j ≠ k → X1.2.2 c j = X.2.2 c j) (hX : ∀ d, d ≠ c → X1.1 d = X.1 d ∧ X1.2.1 d = X.2.1 d ∧ X1.2.2 d = X.2.2 d)
    (K : zq_V G Y lv enc kc kn (pc + 3) lo st (zq_us sh c (.inl (ci, ks.set k kd1))) z X1 o) : zq_V G Y lv enc kc kn pc lo (v :: .ref (zq_ad G c) :: st) sh z X o := by
  intro r hr p e s m args below meth c' A H locs ls C hz hS hA hP hl
  obtain ⟨q, hq, hk2, hw⟩ := hf
  have hts := C.2.2.2.2.2.1
  have hK := C.2.2.2.2.2.2.2.2.1
  have hcl := zq_hin ci q hq
  obtain ⟨hto, hnm⟩ := zq_tyo ci q hq
  have hpd : parseFieldDescriptor (q.2.1 k).2.2.1 = some ty := by rw [← hty]; exact hto k hk2
  have hap := va_apart (own := Y.1.cls) hts hcl (zq_tyf ci) hto hnm hK hq
  obtain ⟨r', g1, cell, q1, q2, q3, q4⟩ := hP c _ hs
  have hr' : r' = q := Option.some.inj (g1.symm.trans hq)
  subst hr'
  obtain ⟨hSl, hfc, kC, hkC, hkind⟩ := hK.1 ci _ hq
  obtain ⟨cf, kf, fi, f, hi, hsl⟩ := hSl k hk2
  have hst := (u_facts hfc hkC (u_lays hts hcl hk2) hi).1
  have hlen : k < (zq_fs G (X.1 c) (X.2.1 c) (X.2.2 c) ks).length := by rw [zq_fs_len]; exact hk
  have hset : (zq_fs G (X.1 c) (X.2.1 c) (X.2.2 c) ks).set k v = zq_fs G (X1.1 c) (X1.2.1 c) (X1.2.2 c) (ks.set k kd1) := zq_fs_set hk hv h1 h2 h3
  have fin2 : ∀ H1 : Heap, H1[zq_ad G c]? = some (cell.setSlot (G.2.1.2 ci k) v) → H1.size = H.size → (∀ q : Nat, q ≠ zq_ad G c → H1[q]? = H[q]?) → W p G.1 e (zq_R lv) s m args below meth c' H1 (locs ++ [⟨zq_ad G c, G.2.1.2 ci k⟩]) kc kn (MQ below (zq_Q G A (enc r)) args s lv.2.1 lv.2.2 A) (F0 m (pc + 3) ls st) := by
    intro H1 e1 e2 e3
    refine K r hr p e s m args below meth c' A H1 _ ls C (e2.trans hz) (hS.put e2 e3 (hA c _ hs)) ?_ ?_ hl
    · intro d s' hd'
      by_cases hdc : d = c
      · subst hdc
        exact hA d _ hs
      · rw [show zq_us sh c (.inl (ci, ks.set k kd1)) d = sh d from if_neg hdc] at hd'
        exact hA d _ hd'
    · refine hP.upd (c := c) (s1 := .inl (ci, ks.set k kd1)) ?_ (if_pos rfl) (fun d hd' => if_neg hd') hX (fun d _ hd' _ => e3 _ (fun e => hd' (zq_ad_inj e)))
      show va_at G.2.1 vwCl (zq_ad G c, .inr (ci, zq_fs G (X1.1 c) (X1.2.1 c) (X1.2.2 c) (ks.set k kd1))) H1
      rw [← hset]
      exact ⟨_, hq, t_OB.to (V := updV (vp_V (zq_fs G (X.1 c) (X.2.1 c) (X.2.2 c) ks)) k v) ⟨_, e1, q2, q3, t_set q4 hap hk2 v⟩ (fun j _ => vp_updV_set hlen v j)⟩
  cases fin with
  | false =>
    have hlay := hts _ (hcl _ (u_in_lay hk2))
    unfold u_lay at hlay
    rw [if_neg (by rw [hfin _ hq]; decide)] at hlay
    have h6 := u_store hfc hkC hkind hlay hi hpd hn hfit
    refine W.putK C.1 C.2.1 (f := f) ⟨C.2.2.2.2.1, hts _ hw, ⟨_, _, _, hi⟩, hst⟩ (by rw [q2]; exact h6) q1 q3 (by rw [hsl]; exact k2_hasslot (q4 k hk2)) rfl rfl hd fun H' e1 e2 e3 => ?_
    rw [hsl] at e1 ⊢
    exact fin2 H' e1 e2 e3
  | true =>
    have hlay := hts _ (hcl _ (u_in_lay hk2))
    unfold u_lay at hlay
    rw [if_pos (hfin _ hq)] at hlay
    obtain ⟨hn1, hn2⟩ := hin rfl
    have hcf : m.cls = cf := by
      obtain ⟨_, _, c2, _, _, _, -, -, hf', -, -, -, hown2, -⟩ := Cond.laysFinal_spec hlay
      have e1 : c2 = cf := by have := hi.symm.trans hf'; simp at this; exact this.1.symm
      rw [hn2 _ hq] at hown2
      rw [← e1]; exact Option.some.inj (C.2.2.2.2.1.symm.trans hown2)
    have h6 := u_fits hfc hkC hkind (Or.inr hlay) hi hpd hn hfit
    refine W.putFinK C.1 C.2.1 C.2.2.2.2.1 (hts _ hw) hi hst hcf (C.2.2.2.2.2.2.2.1.trans hn1) (by rw [q2]; exact h6) q1 q3 (by rw [hsl]; exact k2_hasslot (q4 k hk2)) rfl rfl hd fun H' e1 e2 e3 => ?_
    rw [hsl] at e1 ⊢
    exact fin2 H' e1 e2 e3
theorem zq_us_self {sh : zq_H} {c : Nat} {s : zq_S} (h : sh c = some s) : zq_us sh c s = sh := by
  funext d
  unfold zq_us
  by_cases hd : d = c
  · subst hd; rw [if_pos rfl, h]
  · rw [if_neg hd]
theorem zq_set_self {ks : List Nat} {k kd : Nat} (h : ks[k]? = some kd) : ks.set k kd = ks := by
  apply List.ext_getElem?
  intro j
  by_cases hj : k = j
  · subst hj
    rw [List.getElem?_set_self (List.getElem?_eq_some_iff.mp h).1, h]
  · rw [List.getElem?_set_ne hj]
def zq_nf (ci k : Nat) (fin : Bool) (ty : FieldType) : Prop := zq_tyf ci k = ty ∧ ∀ q : vw_C, vwCl[ci]? = some q → (q.2.1 k).2.2.2 = fin
theorem zr_putI {c k ci idx : Nat} {v : Int32} {f : zq_M → Option ρ} (hd : decode Y.2.1 pc = .ok (.putfield idx, 3)) (hf : zq_FL Y.1.cls idx ci k) (hk : zq_kd sh c k = some (ci, 0)) (ht : zq_nf ci k false .int) (K : ∀ X1, zq_V G Y lv enc kc kn (pc + 3) lo st sh z X1 (f X1)) : zq_V G Y lv enc kc kn pc lo (.int v :: .ref (zq_ad G c) :: st) sh z X (zq_b (zq_u1 X c k v) f) := by
  obtain ⟨ks, h1, h2⟩ := zq_kd_spec hk
  refine zq_putG (X1 := zq_u1 X c k v) (kd1 := 0) false h1 (List.getElem?_eq_some_iff.mp h2).1 hf hd ht.1 rfl rfl ht.2 (fun h => by cases h) ?_ ?_ (fun _ _ => rfl) (fun _ _ => rfl) (fun d hd' => zq_u1_ne hd') ?_
  · show Value.int (zq_up X.1 c k v c k) = _
    simp [zq_up]
  · intro j hj
    show zq_up X.1 c k v c j = X.1 c j
    simp [zq_up, hj]
  · rw [zq_set_self h2, zq_us_self h1]
    exact K _
theorem zr_putL {c k ci idx : Nat} {v : Int64} {f : zq_M → Option ρ} (hd : decode Y.2.1 pc = .ok (.putfield idx, 3)) (hf : zq_FL Y.1.cls idx ci k) (hk : zq_kd sh c k = some (ci, 1)) (ht : zq_nf ci k false .long) (K : ∀ X1, zq_V G Y lv enc kc kn (pc + 3) lo st sh z X1 (f X1)) : zq_V G Y lv enc kc kn pc lo (.long v :: .ref (zq_ad G c) :: st) sh z X (zq_b (zq_u2 X c k v) f) := by
  obtain ⟨ks, h1, h2⟩ := zq_kd_spec hk
  refine zq_putG (X1 := zq_u2 X c k v) (kd1 := 1) false h1 (List.getElem?_eq_some_iff.mp h2).1 hf hd ht.1 rfl rfl ht.2 (fun h => by cases h) ?_ (fun _ _ => rfl) ?_ (fun _ _ => rfl) (fun d hd' => zq_u2_ne hd') ?_
  · show Value.long (zq_up X.2.1 c k v c k) = _
    simp [zq_up]
  · intro j hj
    show zq_up X.2.1 c k v c j = X.2.1 c j
    simp [zq_up, hj]
  · rw [zq_set_self h2, zq_us_self h1]
    exact K _
theorem zr_putZ {c k ci idx : Nat} {v : Int32} {f : zq_M → Option ρ} (hd : decode Y.2.1 pc = .ok (.putfield idx, 3)) (hf : zq_FL Y.1.cls idx ci k) (hk : zq_kd sh c k = some (ci, 0)) (ht : zq_nf ci k false .boolean) (K : ∀ X1, zq_V G Y lv enc kc kn (pc + 3) lo st sh z X1 (f X1)) : zq_V G Y lv enc kc kn pc lo (.int v :: .ref (zq_ad G c) :: st) sh z X (zq_gz v (zq_b (zq_u1 X c k v) f)) := by
  intro r hr
  unfold zq_gz at hr
  by_cases hv : v = 0 ∨ v = 1
  · rw [if_pos hv] at hr
    obtain ⟨ks, h1, h2⟩ := zq_kd_spec hk
    have hn : narrow .boolean (.int v) = .int v := by rcases hv with h | h <;> (subst h; rfl)
    have hfit : fits .boolean (.int v) = true := by rcases hv with h | h <;> (subst h; rfl)
    have key : zq_V G Y lv enc kc kn pc lo (.int v :: .ref (zq_ad G c) :: st) sh z X (zq_b (zq_u1 X c k v) f) := by
      refine zq_putG (X1 := zq_u1 X c k v) (kd1 := 0) false h1 (List.getElem?_eq_some_iff.mp h2).1 hf hd ht.1 hn hfit ht.2 (fun h => by cases h) ?_ ?_ (fun _ _ => rfl) (fun _ _ => rfl) (fun d hd' => zq_u1_ne hd') ?_
      · show Value.int (zq_up X.1 c k v c k) = _
        simp [zq_up]
      · intro j hj
        show zq_up X.1 c k v c j = X.1 c j
        simp [zq_up, hj]
      · rw [zq_set_self h2, zq_us_self h1]
        exact K _
    exact key r hr
  · rw [if_neg hv] at hr
    cases hr
theorem zr_putR {c k ci idx j : Nat} {ty : FieldType} {f : zq_M → Option ρ} (hd : decode Y.2.1 pc = .ok (.putfield idx, 3)) (hf : zq_FL Y.1.cls idx ci k) (hk : zq_kd sh c k = some (ci, 2)) (ht : zq_nf ci k false ty) (hn : narrow ty (.ref (zq_ad G j)) = .ref (zq_ad G j)) (hfit : fits ty (.ref (zq_ad G j)) = true) (K : ∀ X1, zq_V G Y lv enc kc kn (pc + 3) lo st sh z X1 (f X1)) : zq_V G Y lv enc kc kn pc lo (.ref (zq_ad G j) :: .ref (zq_ad G c) :: st) sh z X (zq_b (zq_u3 X c k (some j)) f) := by
  obtain ⟨ks, h1, h2⟩ := zq_kd_spec hk
  refine zq_putG (X1 := zq_u3 X c k (some j)) (kd1 := 2) false h1 (List.getElem?_eq_some_iff.mp h2).1 hf hd ht.1 hn hfit ht.2 (fun h => by cases h) ?_ (fun _ _ => rfl) (fun _ _ => rfl) ?_ (fun d hd' => zq_u3_ne hd') ?_
  · show va_rf ((zq_up X.2.2 c k (some j) c k).map (zq_ad G)) = _
    simp [zq_up, va_rf]
  · intro i hi
    show zq_up X.2.2 c k (some j) c i = X.2.2 c i
    simp [zq_up, hi]
  · rw [zq_set_self h2, zq_us_self h1]
    exact K _
theorem zr_putC {c k ci idx j : Nat} {ty : FieldType} {ks : List Nat} (hd : decode Y.2.1 pc = .ok (.putfield idx, 3)) (hf : zq_FL Y.1.cls idx ci k) (hk : zq_kd sh c k = some (ci, 3)) (hs : sh c = some (.inl (ci, ks))) (ht : zq_nf ci k true ty) (hi : Y.1.name = "<init>") (ho : ∀ q : vw_C, vwCl[ci]? = some q → (q.2.1 k).1 = Y.1.cls) (hn : narrow ty (.ref (zq_ad G j)) = .ref (zq_ad G j)) (hfit : fits ty (.ref (zq_ad G j)) = true) (K : zq_V G Y lv enc kc kn (pc + 3) lo st (zq_us sh c (.inl (ci, ks.set k (j + 4)))) z X o) : zq_V G Y lv enc kc kn pc lo (.ref (zq_ad G j) :: .ref (zq_ad G c) :: st) sh z X o := by
  obtain ⟨ks', h1, h2⟩ := zq_kd_spec hk
  cases h1.symm.trans hs
  exact zq_putG (X1 := X) (kd1 := j + 4) true hs (List.getElem?_eq_some_iff.mp h2).1 hf hd ht.1 hn hfit ht.2 (fun _ => ⟨hi, ho⟩) rfl (fun _ _ => rfl) (fun _ _ => rfl) (fun _ _ => rfl) (fun d _ => ⟨rfl, rfl, rfl⟩) K
end
section
variable {ρ : Type} {G : zq_G} {Y : zq_Y} {lv : zq_L} {enc : ρ → Option Value × zq_W} {kc kn pc : Nat} {lo : List (Nat × Value)} {st : List Value} {sh : zq_H} {z : Nat} {X : zq_M} {o : Option ρ}
def zq_tk (kd : Nat) : FieldType := match kd with
  | 0 => .int
  | 1 => .boolean
  | 2 => .long
  | 3 => .object "MiddleSpeaks$House"
  | _ => .object "MiddleSpeaks$Tape"
theorem zq_ck_some {i : Int32} {n : Nat} {r : ρ} (h : zq_ck i n o = some r) : vp_in i n ∧ o = some r := by
  unfold zq_ck at h
  split at h
  · cases h
  · rename_i g
    exact ⟨g, h⟩
theorem zr_iald {a n : Nat} {i : Int32} (hd : decode Y.2.1 pc = .ok (.iaload, 1)) (ha : sh a = some (.inr (0, n))) (K : zq_V G Y lv enc kc kn (pc + 1) lo (.int (X.1 a (zq_ix i)) :: st) sh z X o) : zq_V G Y lv enc kc kn pc lo (.int i :: .ref (zq_ad G a) :: st) sh z X (zq_ck i n o) := by
  intro r hr p e s m args below meth c A H locs ls C hz hS hA hP hl
  obtain ⟨hi, hr⟩ := zq_ck_some hr
  exact va_iald C.1 C.2.1 C.2.2.2.2.2.2.2.2.1 (zq_one hP ha) 0 0 rfl rfl hi hd (K r hr p e s m args below meth c A H locs ls C hz hS hA hP hl)
theorem zr_zald {a n : Nat} {i : Int32} (hd : decode Y.2.1 pc = .ok (.baload, 1)) (ha : sh a = some (.inr (1, n))) (K : zq_V G Y lv enc kc kn (pc + 1) lo (.int (X.1 a (zq_ix i)) :: st) sh z X o) : zq_V G Y lv enc kc kn pc lo (.int i :: .ref (zq_ad G a) :: st) sh z X (zq_ck i n o) := by
  intro r hr p e s m args below meth c A H locs ls C hz hS hA hP hl
  obtain ⟨hi, hr⟩ := zq_ck_some hr
  exact va_zald C.1 C.2.1 C.2.2.2.2.2.2.2.2.1 (zq_one hP ha) 0 1 rfl rfl hi hd (K r hr p e s m args below meth c A H locs ls C hz hS hA hP hl)
theorem zr_lald {a n : Nat} {i : Int32} (hd : decode Y.2.1 pc = .ok (.laload, 1)) (ha : sh a = some (.inr (2, n))) (K : zq_V G Y lv enc kc kn (pc + 1) lo (.long (X.2.1 a (zq_ix i)) :: st) sh z X o) : zq_V G Y lv enc kc kn pc lo (.int i :: .ref (zq_ad G a) :: st) sh z X (zq_ck i n o) := by
  intro r hr p e s m args below meth c A H locs ls C hz hS hA hP hl
  obtain ⟨hi, hr⟩ := zq_ck_some hr
  exact va_lald C.1 C.2.1 C.2.2.2.2.2.2.2.2.1 (zq_one hP ha) 0 2 rfl rfl hi hd (K r hr p e s m args below meth c A H locs ls C hz hS hA hP hl)
theorem zr_aald {a n kd : Nat} {C0 : String} {i : Int32} {b : Nat → Bool} {f : Nat → Option ρ} (hd : decode Y.2.1 pc = .ok (.aaload, 1)) (ha : sh a = some (.inr (kd, n))) (hk : (zq_ty G)[kd]? = some (zq_aC G kd, .object C0)) (hk3 : ∀ f1 f2 f3, zq_ar G f1 f2 f3 kd n = (n, .inr (.inr (.inr (.inr (fun j => (f3 j).map (zq_ad G))))))) (K : ∀ h, b h = true → zq_V G Y lv enc kc kn (pc + 1) lo (.ref (zq_ad G h) :: st) sh z X (f h)) : zq_V G Y lv enc kc kn pc lo (.int i :: .ref (zq_ad G a) :: st) sh z X (zq_ck i n (zq_nn (X.2.2 a (zq_ix i)) b f)) := by
  intro r hr p e s m args below meth c A H locs ls C hz hS hA hP hl
  obtain ⟨hi, hr⟩ := zq_ck_some hr
  have h1 := zq_one hP ha
  unfold zq_cell zq_cel at h1
  simp only [hk3] at h1
  refine va_aldq C.1 C.2.1 C.2.2.2.2.2.2.2.2.1 h1 0 kd rfl hk hi hd ?_
  unfold zq_nn at hr
  show W p G.1 e (zq_R lv) s m args below meth c H locs kc kn _ (F0 m (pc + 1) ls (va_rf ((X.2.2 a (zq_ix i)).map (zq_ad G)) :: st))
  cases hX : X.2.2 a (zq_ix i) with
  | none => rw [hX] at hr; cases hr
  | some h =>
    rw [hX] at hr
    by_cases hb : b h = true
    · simp only [hb, if_true] at hr
      exact K h hb r hr p e s m args below meth c A H locs ls C hz hS hA hP hl
    · simp only [hb] at hr
      cases hr
theorem zq_arW {c a n kd : Nat} {X1 : zq_M} {H1 : Heap} {p : Program} {e : Env} {s : State} {m : MethodId} {args : Array Value} {below : List Frame} {meth : Method} {c' : Code} {A : Nat → Prop} {H : Heap} {locs : List Loc} {ls : Array Slot} {r : ρ} (hr : o = some r) (ha : sh a = some (.inr (kd, n))) (C : zq_C G Y p s m args meth c' A) (hz : H.size = z) (hS : va_S A s.heap H locs) (hA : ∀ c s, sh c = some s → A (zq_ad G c)) (hP : zq_P G sh X H) (hl : lv_has ls Y.2.2.1 lo) (K : zq_V G Y lv enc kc kn c lo st sh z X1 o) (hX : ∀ d, d ≠ a → X1.1 d = X.1 d ∧ X1.2.1 d = X.2.1 d ∧ X1.2.2 d = X.2.2 d) {k : Nat} (hc : H1[zq_ad G a]? = some (vp_cell (zq_aC G kd) (zq_ar G (X1.1 a) (X1.2.1 a) (X1.2.2 a) kd n))) (e2 : H1.size = H.size) (e3 : ∀ q : Nat, q ≠ zq_ad G a → H1[q]? = H[q]?) : W p G.1 e (zq_R lv) s m args below meth c' H1 (locs ++ [⟨zq_ad G a, k⟩]) kc kn (MQ below (zq_Q G A (enc r)) args s lv.2.1 lv.2.2 A) (F0 m c ls st) :=
  K r hr p e s m args below meth c' A H1 _ ls C (e2.trans hz) (hS.put e2 e3 (hA a _ ha)) hA (hP.upd (c := a) (s1 := .inr (kd, n)) hc ha (fun _ _ => rfl) hX (fun d _ hd' _ => e3 _ (fun e => hd' (zq_ad_inj e)))) hl
theorem zr_iast {a n : Nat} {i v : Int32} {f : zq_M → Option ρ} (hd : decode Y.2.1 pc = .ok (.iastore, 1)) (ha : sh a = some (.inr (0, n))) (K : ∀ X1, zq_V G Y lv enc kc kn (pc + 1) lo st sh z X1 (f X1)) : zq_V G Y lv enc kc kn pc lo (.int v :: .int i :: .ref (zq_ad G a) :: st) sh z X (zq_ck i n (zq_b (zq_u1 X a (zq_ix i) v) f)) := by
  intro r hr p e s m args below meth c A H locs ls C hz hS hA hP hl
  obtain ⟨hi, hr⟩ := zq_ck_some hr
  refine W.iast C.1 C.2.1 (hP a _ ha) ((C.2.2.2.2.2.2.2.2.1.2 0 _ rfl).1 n (fun j => .int (X.1 a j))) (fun q => by cases q) (by show ¬ (i < 0 ∨ (arrV _ _ _).slots.size ≤ _); rw [arrV_size]; exact hi) rfl rfl hd fun H1 e1 e2 e3 => ?_
  refine zq_arW hr ha C hz hS hA hP hl (K (zq_u1 X a (zq_ix i) v)) (fun d hd' => zq_u1_ne hd') ?_ e2 e3
  rw [e1]
  show some ((arrV (zq_aC G 0) n (fun j => .int (X.1 a j))).setSlot _ _) = some (arrV (zq_aC G 0) n (fun j => .int (zq_up X.1 a (zq_ix i) v a j)))
  rw [arrV_store]
  congr 2
  funext q
  by_cases hq : q = i.toNatClampNeg
  · subst hq
    simp [updV, zq_up, zq_ix]
  · simp [updV, zq_up, zq_ix, hq]
theorem zr_zast {a n : Nat} {i v : Int32} {f : zq_M → Option ρ} (hd : decode Y.2.1 pc = .ok (.bastore, 1)) (ha : sh a = some (.inr (1, n))) (K : ∀ X1, zq_V G Y lv enc kc kn (pc + 1) lo st sh z X1 (f X1)) : zq_V G Y lv enc kc kn pc lo (.int v :: .int i :: .ref (zq_ad G a) :: st) sh z X (zq_ck i n (zq_b (zq_u1 X a (zq_ix i) (vp_nar .boolean v)) f)) := by
  intro r hr p e s m args below meth c A H locs ls C hz hS hA hP hl
  obtain ⟨hi, hr⟩ := zq_ck_some hr
  refine W.zast C.1 C.2.1 (hP a _ ha) ((C.2.2.2.2.2.2.2.2.1.2 1 _ rfl).1 n (fun j => .int (X.1 a j))) (fun q => by cases q) (by show ¬ (i < 0 ∨ (arrV _ _ _).slots.size ≤ _); rw [arrV_size]; exact hi) rfl rfl hd fun H1 e1 e2 e3 => ?_
  refine zq_arW hr ha C hz hS hA hP hl (K (zq_u1 X a (zq_ix i) (vp_nar .boolean v))) (fun d hd' => zq_u1_ne hd') ?_ e2 e3
  rw [e1]
  show some ((arrV (zq_aC G 1) n (fun j => .int (X.1 a j))).setSlot _ _) = some (arrV (zq_aC G 1) n (fun j => .int (zq_up X.1 a (zq_ix i) (vp_nar .boolean v) a j)))
  rw [arrV_store]
  congr 2
  funext q
  by_cases hq : q = i.toNatClampNeg
  · subst hq
    simp [updV, zq_up, zq_ix, vp_nar]
    try rfl
  · simp [updV, zq_up, zq_ix, hq]
theorem zr_last {a n : Nat} {i : Int32} {v : Int64} {f : zq_M → Option ρ} (hd : decode Y.2.1 pc = .ok (.lastore, 1)) (ha : sh a = some (.inr (2, n))) (K : ∀ X1, zq_V G Y lv enc kc kn (pc + 1) lo st sh z X1 (f X1)) : zq_V G Y lv enc kc kn pc lo (.long v :: .int i :: .ref (zq_ad G a) :: st) sh z X (zq_ck i n (zq_b (zq_u2 X a (zq_ix i) v) f)) := by
  intro r hr p e s m args below meth c A H locs ls C hz hS hA hP hl
  obtain ⟨hi, hr⟩ := zq_ck_some hr
  refine W.last C.1 C.2.1 (hP a _ ha) ((C.2.2.2.2.2.2.2.2.1.2 2 _ rfl).1 n (fun j => .long (X.2.1 a j))) (fun q => by cases q) (by show ¬ (i < 0 ∨ (arrV _ _ _).slots.size ≤ _); rw [arrV_size]; exact hi) rfl rfl hd fun H1 e1 e2 e3 => ?_
  refine zq_arW hr ha C hz hS hA hP hl (K (zq_u2 X a (zq_ix i) v)) (fun d hd' => zq_u2_ne hd') ?_ e2 e3
  rw [e1]
  show some ((arrV (zq_aC G 2) n (fun j => .long (X.2.1 a j))).setSlot _ _) = some (arrV (zq_aC G 2) n (fun j => .long (zq_up X.2.1 a (zq_ix i) v a j)))
  rw [arrV_store]
  congr 2
  funext q
  by_cases hq : q = i.toNatClampNeg
  · subst hq
    simp [updV, zq_up, zq_ix]
  · simp [updV, zq_up, zq_ix, hq]
theorem zr_alen {a n kd : Nat} {v : Int32} (hd : decode Y.2.1 pc = .ok (.arraylength, 1)) (ha : sh a = some (.inr (kd, n))) (hk : kd < 5) (hv : Int32.ofNat n = v) (K : zq_V G Y lv enc kc kn (pc + 1) lo (.int v :: st) sh z X o) : zq_V G Y lv enc kc kn pc lo (.ref (zq_ad G a) :: st) sh z X o := by
  intro r hr p e s m args below meth c A H locs ls C hz hS hA hP hl
  obtain ⟨ty, hty⟩ : ∃ ty, (zq_ty G)[kd]? = some (zq_aC G kd, ty) := by
    match kd, hk with
    | 0, _ => exact ⟨_, rfl⟩
    | 1, _ => exact ⟨_, rfl⟩
    | 2, _ => exact ⟨_, rfl⟩
    | 3, _ => exact ⟨_, rfl⟩
    | 4, _ => exact ⟨_, rfl⟩
  refine va_alen C.1 C.2.1 C.2.2.2.2.2.2.2.2.1 (zq_one hP ha) 0 kd (cA := zq_aC G kd) (x := zq_ar G (X.1 a) (X.2.1 a) (X.2.2 a) kd n) rfl hty ?_ hd (K r hr p e s m args below meth c A H locs ls C hz hS hA hP hl)
  rw [← hv]
  unfold zq_ar
  split <;> rfl
theorem zr_nm {v : Int32} {f : Int32 → Option ρ} (K : ∀ x, zq_V G Y lv enc kc kn pc lo (.int x :: st) sh z X (f x)) : zq_V G Y lv enc kc kn pc lo (.int v :: st) sh z X (zq_b v f) := K v
theorem zr_nml {v : Int64} {f : Int64 → Option ρ} (K : ∀ x, zq_V G Y lv enc kc kn pc lo (.long x :: st) sh z X (f x)) : zq_V G Y lv enc kc kn pc lo (.long v :: st) sh z X (zq_b v f) := K v
theorem zr_lo {l2 : List (Nat × Value)} (ks : List Nat) (h : lv_pick lo ks = l2) (K : zq_V G Y lv enc kc kn pc l2 st sh z X o) : zq_V G Y lv enc kc kn pc lo st sh z X o := by
  intro r hr p e s m args below meth c A H locs ls C hz hS hA hP hl
  exact K r hr p e s m args below meth c A H locs ls C hz hS hA hP (lv_sub hl ks h)
theorem zq_end {p : Program} {e : Env} {s : State} {m : MethodId} {args : Array Value} {below : List Frame} {meth : Method} {c : Code} {A : Nat → Prop} {H : Heap} {locs : List Loc} {g : JFrame} {w : Option Value × zq_W} {mc ms : Nat} (h1 : kc ≤ mc) (h2 : kn ≤ ms) (K : W p G.1 e (zq_R lv) s m args below meth c H locs mc ms (MQ below (zq_Q G A w) args s mc ms A) g) : W p G.1 e (zq_R lv) s m args below meth c H locs kc kn (MQ below (zq_Q G A w) args s mc ms A) g := W.widen h1 h2 K
theorem zr_ireturn {v : Int32} {q : ρ} (hd : decode Y.2.1 pc = .ok (.ireturn, 1)) (hy : Y.2.2.2 = some .int) (he : enc q = (some (.int v), sh, z, X)) (h1 : kc ≤ lv.2.1) (h2 : kn ≤ lv.2.2) : zq_V G Y lv enc kc kn pc lo [.int v] sh z X (some q) := by
  intro r hr p e s m args below meth c A H locs ls C hz hS hA hP hl
  cases hr
  refine zq_end h1 h2 (W.iret C.1 C.2.1 (C.2.2.1.trans hy) (fun t ht hW => ?_) hS.2.2 hd C.2.2.2.2.2.2.1)
  rw [he]
  exact ⟨rfl, by rw [ht]; exact hz, by rw [ht]; exact hP, hA, hS.F ht⟩
theorem zr_zreturn {v : Int32} {q : ρ} {ty : FieldType} (hd : decode Y.2.1 pc = .ok (.ireturn, 1)) (hy : Y.2.2.2 = some ty) (hn : narrow ty (.int v) = .int v) (he : enc q = (some (.int v), sh, z, X)) (h1 : kc ≤ lv.2.1) (h2 : kn ≤ lv.2.2) : zq_V G Y lv enc kc kn pc lo [.int v] sh z X (some q) := by
  intro r hr p e s m args below meth c A H locs ls C hz hS hA hP hl
  cases hr
  refine zq_end h1 h2 (W.zret C.1 C.2.1 (C.2.2.1.trans hy) hn (fun t ht hW => ?_) hS.2.2 hd C.2.2.2.2.2.2.1)
  rw [he]
  exact ⟨rfl, by rw [ht]; exact hz, by rw [ht]; exact hP, hA, hS.F ht⟩
theorem zr_zreturnG {v : Int32} {q : ρ} (hd : decode Y.2.1 pc = .ok (.ireturn, 1)) (hy : Y.2.2.2 = some .boolean) (he : enc q = (some (.int v), sh, z, X)) (h1 : kc ≤ lv.2.1) (h2 : kn ≤ lv.2.2) : zq_V G Y lv enc kc kn pc lo [.int v] sh z X (zq_gz v (some q)) := by
  intro r hr
  unfold zq_gz at hr
  by_cases hv : v = 0 ∨ v = 1
  · rw [if_pos hv] at hr
    have hn : narrow .boolean (.int v) = .int v := by rcases hv with h | h <;> (subst h; rfl)
    exact zr_zreturn (q := q) hd hy hn he h1 h2 r hr
  · rw [if_neg hv] at hr
    cases hr
theorem zr_lreturn {v : Int64} {q : ρ} (hd : decode Y.2.1 pc = .ok (.lreturn, 1)) (hy : Y.2.2.2 = some .long) (he : enc q = (some (.long v), sh, z, X)) (h1 : kc ≤ lv.2.1) (h2 : kn ≤ lv.2.2) : zq_V G Y lv enc kc kn pc lo [.long v] sh z X (some q) := by
  intro r hr p e s m args below meth c A H locs ls C hz hS hA hP hl
  cases hr
  refine zq_end h1 h2 (W.lret C.1 C.2.1 (C.2.2.1.trans hy) (fun t ht hW => ?_) hS.2.2 hd C.2.2.2.2.2.2.1)
  rw [he]
  exact ⟨rfl, by rw [ht]; exact hz, by rw [ht]; exact hP, hA, hS.F ht⟩
theorem zr_vreturn {q : ρ} (hd : decode Y.2.1 pc = .ok (.return_, 1)) (hy : Y.2.2.2 = none) (he : enc q = (none, sh, z, X)) (h1 : kc ≤ lv.2.1) (h2 : kn ≤ lv.2.2) : zq_V G Y lv enc kc kn pc lo [] sh z X (some q) := by
  intro r hr p e s m args below meth c A H locs ls C hz hS hA hP hl
  cases hr
  refine zq_end h1 h2 (W.vret C.1 C.2.1 (C.2.2.1.trans hy) (fun t ht hW => ?_) hS.2.2 hd C.2.2.2.2.2.2.1)
  rw [he]
  exact ⟨rfl, by rw [ht]; exact hz, by rw [ht]; exact hP, hA, hS.F ht⟩
theorem zr_areturn {j : Nat} {q : ρ} {C0 : String} (hd : decode Y.2.1 pc = .ok (.areturn, 1)) (hy : Y.2.2.2 = some (.object C0)) (he : enc q = (some (.ref (zq_ad G j)), sh, z, X)) (h1 : kc ≤ lv.2.1) (h2 : kn ≤ lv.2.2) : zq_V G Y lv enc kc kn pc lo [.ref (zq_ad G j)] sh z X (some q) := by
  intro r hr p e s m args below meth c A H locs ls C hz hS hA hP hl
  cases hr
  refine zq_end h1 h2 (W.aret C.1 C.2.1 (C.2.2.1.trans hy) (Or.inl ⟨_, rfl⟩) (Or.inr ⟨_, rfl⟩) (fun t ht hW => ?_) hS.2.2 hd C.2.2.2.2.2.2.1)
  rw [he]
  exact ⟨rfl, by rw [ht]; exact hz, by rw [ht]; exact hP, hA, hS.F ht⟩
end
