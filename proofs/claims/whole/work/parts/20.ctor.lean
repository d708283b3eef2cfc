section
variable {ρ : Type} {G : zq_G} {Y Y1 : zq_Y} {lv lv1 : zq_L} {l1 : Nat} {enc : ρ → Option Value × zq_W} {kc kn pc : Nat} {lo : List (Nat × Value)} {st : List Value} {sh : zq_H} {z : Nat} {X : zq_M} {o : Option ρ}
theorem zr_sz {sh2 : zq_H} {z2 : Nat} (h1 : sh = sh2) (h2 : z = z2) (K : zq_V G Y lv enc kc kn pc lo st sh2 z2 X o) : zq_V G Y lv enc kc kn pc lo st sh z X o := by subst h1; subst h2; exact K
theorem zr_icmpt_ge {x y : Int32} {off : Int} (tgt : Nat) (hd : decode Y.2.1 pc = .ok (.if_icmp .ge off, 3)) (ht : (pc : Int) + off = (tgt : Int)) (hc : y ≤ x) (K : zq_V G Y lv enc kc kn tgt lo st sh z X o) : zq_V G Y lv enc kc kn pc lo (.int y :: .int x :: st) sh z X o := by
  intro r hr p e s m args below meth c A H locs ls C hz hS hA hP hl
  exact lv_icmp_ge C.1 C.2.1 hd ht (fun _ => K r hr p e s m args below meth c A H locs ls C hz hS hA hP hl) (fun h => absurd hc h)
theorem zr_icmpf_ge {x y : Int32} {off : Int} (tgt : Nat) (hd : decode Y.2.1 pc = .ok (.if_icmp .ge off, 3)) (ht : (pc : Int) + off = (tgt : Int)) (hc : ¬ y ≤ x) (K : zq_V G Y lv enc kc kn (pc + 3) lo st sh z X o) : zq_V G Y lv enc kc kn pc lo (.int y :: .int x :: st) sh z X o := by
  intro r hr p e s m args below meth c A H locs ls C hz hS hA hP hl
  exact lv_icmp_ge C.1 C.2.1 hd ht (fun h => absurd h hc) (fun _ => K r hr p e s m args below meth c A H locs ls C hz hS hA hP hl)
end
theorem zq_dz {G : zq_G} {ks : List Nat} {k kd ci : Nat} (h : ks[k]? = some kd) (hv : defaultValue (zq_tyf ci k) = zq_fv G (fun _ => 0) (fun _ => 0) (fun _ => none) k kd) : defaultValue (zq_tyf ci k) = vp_V (zq_fs G (fun _ => 0) (fun _ => 0) (fun _ => none) ks) k := by
  rw [hv]
  unfold vp_V
  rw [List.getD_eq_getElem?_getD, zq_fs_get h]
  rfl
theorem zw_0 (G : zq_G) : ∀ k, k < 5 → defaultValue (zq_tyf 0 k) = vp_V (zq_fs G (fun _ => 0) (fun _ => 0) (fun _ => none) [3, 0, 0, 0, 0]) k := (lt_s (lt_s (lt_s (lt_s (lt_s lt_0 (zq_dz rfl rfl)) (zq_dz rfl rfl)) (zq_dz rfl rfl)) (zq_dz rfl rfl)) (zq_dz rfl rfl))
theorem zw_1 (G : zq_G) : ∀ k, k < 7 → defaultValue (zq_tyf 1 k) = vp_V (zq_fs G (fun _ => 0) (fun _ => 0) (fun _ => none) [3, 3, 3, 3, 3, 3, 0]) k := (lt_s (lt_s (lt_s (lt_s (lt_s (lt_s (lt_s lt_0 (zq_dz rfl rfl)) (zq_dz rfl rfl)) (zq_dz rfl rfl)) (zq_dz rfl rfl)) (zq_dz rfl rfl)) (zq_dz rfl rfl)) (zq_dz rfl rfl))
theorem zw_2 (G : zq_G) : ∀ k, k < 7 → defaultValue (zq_tyf 2 k) = vp_V (zq_fs G (fun _ => 0) (fun _ => 0) (fun _ => none) [0, 3, 3, 3, 3, 0, 0]) k := (lt_s (lt_s (lt_s (lt_s (lt_s (lt_s (lt_s lt_0 (zq_dz rfl rfl)) (zq_dz rfl rfl)) (zq_dz rfl rfl)) (zq_dz rfl rfl)) (zq_dz rfl rfl)) (zq_dz rfl rfl)) (zq_dz rfl rfl))
theorem zw_3 (G : zq_G) : ∀ k, k < 4 → defaultValue (zq_tyf 3 k) = vp_V (zq_fs G (fun _ => 0) (fun _ => 0) (fun _ => none) [2, 0, 0, 2]) k := (lt_s (lt_s (lt_s (lt_s lt_0 (zq_dz rfl rfl)) (zq_dz rfl rfl)) (zq_dz rfl rfl)) (zq_dz rfl rfl))
theorem zw_4 (G : zq_G) : ∀ k, k < 2 → defaultValue (zq_tyf 4 k) = vp_V (zq_fs G (fun _ => 0) (fun _ => 0) (fun _ => none) [3, 3]) k := (lt_s (lt_s lt_0 (zq_dz rfl rfl)) (zq_dz rfl rfl))
theorem zw_5 (G : zq_G) : ∀ k, k < 15 → defaultValue (zq_tyf 5 k) = vp_V (zq_fs G (fun _ => 0) (fun _ => 0) (fun _ => none) [0, 3, 3, 3, 3, 3, 3, 0, 0, 3, 3, 0, 3, 0, 0]) k := (lt_s (lt_s (lt_s (lt_s (lt_s (lt_s (lt_s (lt_s (lt_s (lt_s (lt_s (lt_s (lt_s (lt_s (lt_s lt_0 (zq_dz rfl rfl)) (zq_dz rfl rfl)) (zq_dz rfl rfl)) (zq_dz rfl rfl)) (zq_dz rfl rfl)) (zq_dz rfl rfl)) (zq_dz rfl rfl)) (zq_dz rfl rfl)) (zq_dz rfl rfl)) (zq_dz rfl rfl)) (zq_dz rfl rfl)) (zq_dz rfl rfl)) (zq_dz rfl rfl)) (zq_dz rfl rfl)) (zq_dz rfl rfl))
theorem zw_6 (G : zq_G) : ∀ k, k < 7 → defaultValue (zq_tyf 6 k) = vp_V (zq_fs G (fun _ => 0) (fun _ => 0) (fun _ => none) [3, 2, 3, 3, 3, 3, 3]) k := (lt_s (lt_s (lt_s (lt_s (lt_s (lt_s (lt_s lt_0 (zq_dz rfl rfl)) (zq_dz rfl rfl)) (zq_dz rfl rfl)) (zq_dz rfl rfl)) (zq_dz rfl rfl)) (zq_dz rfl rfl)) (zq_dz rfl rfl))
theorem zw_7 (G : zq_G) : ∀ k, k < 3 → defaultValue (zq_tyf 7 k) = vp_V (zq_fs G (fun _ => 0) (fun _ => 0) (fun _ => none) [0, 0, 3]) k := (lt_s (lt_s (lt_s lt_0 (zq_dz rfl rfl)) (zq_dz rfl rfl)) (zq_dz rfl rfl))
theorem zw_8 (G : zq_G) : ∀ k, k < 1 → defaultValue (zq_tyf 8 k) = vp_V (zq_fs G (fun _ => 0) (fun _ => 0) (fun _ => none) [3]) k := (lt_s lt_0 (zq_dz rfl rfl))
theorem zw_9 (G : zq_G) : ∀ k, k < 8 → defaultValue (zq_tyf 9 k) = vp_V (zq_fs G (fun _ => 0) (fun _ => 0) (fun _ => none) [3, 3, 3, 3, 0, 0, 0, 0]) k := (lt_s (lt_s (lt_s (lt_s (lt_s (lt_s (lt_s (lt_s lt_0 (zq_dz rfl rfl)) (zq_dz rfl rfl)) (zq_dz rfl rfl)) (zq_dz rfl rfl)) (zq_dz rfl rfl)) (zq_dz rfl rfl)) (zq_dz rfl rfl)) (zq_dz rfl rfl))
theorem zw_10 (G : zq_G) : ∀ k, k < 16 → defaultValue (zq_tyf 10 k) = vp_V (zq_fs G (fun _ => 0) (fun _ => 0) (fun _ => none) [3, 3, 0, 3, 0, 3, 0, 3, 3, 3, 3, 3, 3, 3, 3, 3]) k := (lt_s (lt_s (lt_s (lt_s (lt_s (lt_s (lt_s (lt_s (lt_s (lt_s (lt_s (lt_s (lt_s (lt_s (lt_s (lt_s lt_0 (zq_dz rfl rfl)) (zq_dz rfl rfl)) (zq_dz rfl rfl)) (zq_dz rfl rfl)) (zq_dz rfl rfl)) (zq_dz rfl rfl)) (zq_dz rfl rfl)) (zq_dz rfl rfl)) (zq_dz rfl rfl)) (zq_dz rfl rfl)) (zq_dz rfl rfl)) (zq_dz rfl rfl)) (zq_dz rfl rfl)) (zq_dz rfl rfl)) (zq_dz rfl rfl)) (zq_dz rfl rfl))
theorem zw_11 (G : zq_G) : ∀ k, k < 67 → defaultValue (zq_tyf 11 k) = vp_V (zq_fs G (fun _ => 0) (fun _ => 0) (fun _ => none) [0, 0, 0, 0, 3, 3, 3, 3, 3, 0, 0, 0, 0, 0, 0, 3, 3, 3, 3, 3, 3, 3, 3, 0, 0, 0, 3, 3, 3, 3, 3, 3, 3, 3, 3, 3, 0, 3, 3, 3, 1, 1, 0, 3, 3, 0, 0, 0, 0, 0, 0, 0, 0, 3, 3, 3, 3, 3, 3, 3, 3, 0, 3, 3, 3, 3, 3]) k := (lt_s (lt_s (lt_s (lt_s (lt_s (lt_s (lt_s (lt_s (lt_s (lt_s (lt_s (lt_s (lt_s (lt_s (lt_s (lt_s (lt_s (lt_s (lt_s (lt_s (lt_s (lt_s (lt_s (lt_s (lt_s (lt_s (lt_s (lt_s (lt_s (lt_s (lt_s (lt_s (lt_s (lt_s (lt_s (lt_s (lt_s (lt_s (lt_s (lt_s (lt_s (lt_s (lt_s (lt_s (lt_s (lt_s (lt_s (lt_s (lt_s (lt_s (lt_s (lt_s (lt_s (lt_s (lt_s (lt_s (lt_s (lt_s (lt_s (lt_s (lt_s (lt_s (lt_s (lt_s (lt_s (lt_s (lt_s lt_0 (zq_dz rfl rfl)) (zq_dz rfl rfl)) (zq_dz rfl rfl)) (zq_dz rfl rfl)) (zq_dz rfl rfl)) (zq_dz rfl rfl)) (zq_dz rfl rfl)) (zq_dz rfl rfl)) (zq_dz rfl rfl)) (zq_dz rfl rfl)) (zq_dz rfl rfl)) (zq_dz rfl rfl)) (zq_dz rfl rfl)) (zq_dz rfl rfl)) (zq_dz rfl rfl)) (zq_dz rfl rfl)) (zq_dz rfl rfl)) (zq_dz rfl rfl)) (zq_dz rfl rfl)) (zq_dz rfl rfl)) (zq_dz rfl rfl)) (zq_dz rfl rfl)) (zq_dz rfl rfl)) (zq_dz rfl rfl)) (zq_dz rfl rfl)) (zq_dz rfl rfl)) (zq_dz rfl rfl)) (zq_dz rfl rfl)) (zq_dz rfl rfl)) (zq_dz rfl rfl)) (zq_dz rfl rfl)) (zq_dz rfl rfl)) (zq_dz rfl rfl)) (zq_dz rfl rfl)) (zq_dz rfl rfl)) (zq_dz rfl rfl)) (zq_dz rfl rfl)) (zq_dz rfl rfl)) (zq_dz rfl rfl)) (zq_dz rfl rfl)) (zq_dz rfl rfl)) (zq_dz rfl rfl)) (zq_dz rfl rfl)) (zq_dz rfl rfl)) (zq_dz rfl rfl)) (zq_dz rfl rfl)) (zq_dz rfl rfl)) (zq_dz rfl rfl)) (zq_dz rfl rfl)) (zq_dz rfl rfl)) (zq_dz rfl rfl)) (zq_dz rfl rfl)) (zq_dz rfl rfl)) (zq_dz rfl rfl)) (zq_dz rfl rfl)) (zq_dz rfl rfl)) (zq_dz rfl rfl)) (zq_dz rfl rfl)) (zq_dz rfl rfl)) (zq_dz rfl rfl)) (zq_dz rfl rfl)) (zq_dz rfl rfl)) (zq_dz rfl rfl)) (zq_dz rfl rfl)) (zq_dz rfl rfl)) (zq_dz rfl rfl)) (zq_dz rfl rfl))
def zq_fin_X2_init (h : Nat) (sh0 : zq_H) : zq_H := zq_us (zq_us (zq_us (zq_us (zq_us (sh0) h (.inl (2, [0, h + 5, h + 6, h + 7, h + 8, 0, 0]))) (h + 1) (.inr (0, 10))) (h + 2) (.inr (0, 10))) (h + 3) (.inr (0, 10))) (h + 4) (.inr (0, 100))
def f_X2_init (h : Nat) (X : zq_M) : Option zq_M :=
  zq_b (zq_z X (h + 1)) (fun X1 => zq_b (zq_z X1 (h + 2)) (fun X2 => zq_b (zq_z X2 (h + 3)) (fun X3 => zq_b (zq_z X3 (h + 4)) (fun X4 => some X4))))
set_option maxRecDepth 20000 in
set_option maxHeartbeats 8000000 in
theorem s_X2_init (G : zq_G) (h : Nat) (hh : h + 5 ≤ 69 ∨ 111 ≤ h ∧ h + 5 ≤ 141) (sh0 : zq_H) (X : zq_M) : zq_V G YX2_init (2, 4, 130) (zq_ev (zq_fin_X2_init h sh0) (zq_ad G h + 5)) 0 0 0 (lv_args 0 [.ref (zq_ad G h)]) [] (zq_us sh0 h (.inl (2, [0, 3, 3, 3, 3, 0, 0]))) (zq_ad G h + 1) X (f_X2_init h X) := by
  unfold f_X2_init
  refine zr_lo (l2 := [(0, .ref (zq_ad G h))]) [0] rfl ?_
  refine zr_aload_n (pc := 0) (zq_d eX2_init 0 rfl) 0 rfl rfl ?_
  refine zr_oinit (pc := 1) (zq_d eX2_init 1 rfl) zl_RX2_3 zx_oi1 zx_oi2 (Nat.le_of_ble_eq_true rfl) (Nat.le_of_ble_eq_true rfl) ?_
  refine zr_aload_n (pc := 4) (zq_d eX2_init 2 rfl) 0 rfl rfl ?_
  refine zr_bipush (pc := 5) (zq_d eX2_init 3 rfl) zc_b10 ?_
  refine zr_newa (pc := 7) (c := (h + 1)) (kd := 0) (N1 := 10) (zq_d eX2_init 4 rfl) (zq_m1 117 rfl rfl) rfl (by decide) (by decide) (by decide) (by decide) (by simp only [zq_ev, zq_ad, zq_prm] <;> (repeat' split) <;> omega) (Nat.le_of_ble_eq_true rfl) (Nat.le_of_ble_eq_true rfl) (fun X1 => ?_)
  refine zr_putC (pc := 9) (ks := [0, 3, 3, 3, 3, 0, 0]) (j := (h + 1)) (zq_d eX2_init 5 rfl) zf_RX2_9 (by simp [zq_kd, zq_us]) (by simp [zq_us]) zn_2_1 rfl (fun q h => by cases h; rfl) rfl rfl ?_
  refine zr_aload_n (pc := 12) (zq_d eX2_init 6 rfl) 0 rfl rfl ?_
  refine zr_bipush (pc := 13) (zq_d eX2_init 7 rfl) zc_b10 ?_
  refine zr_newa (pc := 15) (c := (h + 2)) (kd := 0) (N1 := 10) (zq_d eX2_init 8 rfl) (zq_m1 117 rfl rfl) rfl (by decide) (by decide) (by decide) (by decide) (by simp only [zq_ev, zq_ad, zq_prm] <;> (repeat' split) <;> omega) (Nat.le_of_ble_eq_true rfl) (Nat.le_of_ble_eq_true rfl) (fun X2 => ?_)
  refine zr_putC (pc := 17) (ks := [0, h + 5, 3, 3, 3, 0, 0]) (j := (h + 2)) (zq_d eX2_init 9 rfl) zf_RX2_15 (by simp [zq_kd, zq_us]) (by simp [zq_us]) zn_2_2 rfl (fun q h => by cases h; rfl) rfl rfl ?_
  refine zr_aload_n (pc := 20) (zq_d eX2_init 10 rfl) 0 rfl rfl ?_
  refine zr_bipush (pc := 21) (zq_d eX2_init 11 rfl) zc_b10 ?_
  refine zr_newa (pc := 23) (c := (h + 3)) (kd := 0) (N1 := 10) (zq_d eX2_init 12 rfl) (zq_m1 117 rfl rfl) rfl (by decide) (by decide) (by decide) (by decide) (by simp only [zq_ev, zq_ad, zq_prm] <;> (repeat' split) <;> omega) (Nat.le_of_ble_eq_true rfl) (Nat.le_of_ble_eq_true rfl) (fun X3 => ?_)
  refine zr_putC (pc := 25) (ks := [0, h + 5, h + 6, 3, 3, 0, 0]) (j := (h + 3)) (zq_d eX2_init 13 rfl) zf_RX2_18 (by simp [zq_kd, zq_us]) (by simp [zq_us]) zn_2_3 rfl (fun q h => by cases h; rfl) rfl rfl ?_
  refine zr_aload_n (pc := 28) (zq_d eX2_init 14 rfl) 0 rfl rfl ?_
  refine zr_bipush (pc := 29) (zq_d eX2_init 15 rfl) zc_b100 ?_
  refine zr_newa (pc := 31) (c := (h + 4)) (kd := 0) (N1 := 100) (zq_d eX2_init 16 rfl) (zq_m1 117 rfl rfl) rfl (by decide) (by decide) (by decide) (by decide) (by simp only [zq_ev, zq_ad, zq_prm] <;> (repeat' split) <;> omega) (Nat.le_of_ble_eq_true rfl) (Nat.le_of_ble_eq_true rfl) (fun X4 => ?_)
  refine zr_putC (pc := 33) (ks := [0, h + 5, h + 6, h + 7, 3, 0, 0]) (j := (h + 4)) (zq_d eX2_init 17 rfl) zf_RX2_21 (by simp [zq_kd, zq_us]) (by simp [zq_us]) zn_2_4 rfl (fun q h => by cases h; rfl) rfl rfl ?_
  refine zr_sz (sh2 := (zq_fin_X2_init h sh0)) (z2 := zq_ad G h + 5) (by funext d; simp only [zq_ev, zq_fin_X2_init, zq_us] <;> (repeat' split) <;> first | rfl | (exfalso; omega)) (by simp only [zq_ev, zq_ad, zq_prm] <;> (repeat' split) <;> omega) ?_
  exact zr_vreturn (pc := 36) (zq_d eX2_init 18 rfl) rfl rfl (Nat.le_of_ble_eq_true rfl) (Nat.le_of_ble_eq_true rfl)
def zq_fin_X5_init (h : Nat) (sh0 : zq_H) : zq_H := zq_us (zq_us (zq_us (zq_us (zq_us (zq_us (zq_us (zq_us (zq_us (zq_us (sh0) h (.inl (5, [0, h + 5, h + 6, h + 7, h + 8, h + 9, h + 10, 0, 0, h + 11, h + 12, 0, h + 13, 0, 0]))) (h + 1) (.inr (0, 5))) (h + 2) (.inr (0, 5))) (h + 3) (.inr (0, 5))) (h + 4) (.inr (0, 5))) (h + 5) (.inr (0, 3))) (h + 6) (.inr (0, 3))) (h + 7) (.inr (0, 12))) (h + 8) (.inr (0, 12))) (h + 9) (.inr (0, 12))
def f_X5_init (h : Nat) (X : zq_M) : Option zq_M :=
  zq_b (zq_z X (h + 1)) (fun X1 => zq_b (zq_z X1 (h + 2)) (fun X2 => zq_b (zq_z X2 (h + 3)) (fun X3 => zq_b (zq_z X3 (h + 4)) (fun X4 => zq_b (zq_z X4 (h + 5)) (fun X5 => zq_b (zq_z X5 (h + 6)) (fun X6 => zq_b (zq_z X6 (h + 7)) (fun X7 => zq_b (zq_z X7 (h + 8)) (fun X8 => zq_b (zq_z X8 (h + 9)) (fun X9 => zq_b (zq_u1 X9 h 14 (-1 : Int32)) (fun X10 => some X10))))))))))
set_option maxRecDepth 20000 in
set_option maxHeartbeats 8000000 in
theorem s_X5_init (G : zq_G) (h : Nat) (hh : h + 10 ≤ 69 ∨ 111 ≤ h ∧ h + 10 ≤ 141) (sh0 : zq_H) (X : zq_M) : zq_V G YX5_init (2, 9, 62) (zq_ev (zq_fin_X5_init h sh0) (zq_ad G h + 10)) 0 0 0 (lv_args 0 [.ref (zq_ad G h)]) [] (zq_us sh0 h (.inl (5, [0, 3, 3, 3, 3, 3, 3, 0, 0, 3, 3, 0, 3, 0, 0]))) (zq_ad G h + 1) X (f_X5_init h X) := by
  unfold f_X5_init
  refine zr_lo (l2 := [(0, .ref (zq_ad G h))]) [0] rfl ?_
  refine zr_aload_n (pc := 0) (zq_d eX5_init 0 rfl) 0 rfl rfl ?_
  refine zr_oinit (pc := 1) (zq_d eX5_init 1 rfl) zl_RX5_3 zx_oi1 zx_oi2 (Nat.le_of_ble_eq_true rfl) (Nat.le_of_ble_eq_true rfl) ?_
  refine zr_aload_n (pc := 4) (zq_d eX5_init 2 rfl) 0 rfl rfl ?_
  refine zr_iconst (pc := 5) (zq_d eX5_init 3 rfl) zc_i5 ?_
  refine zr_newa (pc := 6) (c := (h + 1)) (kd := 0) (N1 := 5) (zq_d eX5_init 4 rfl) (zq_m1 117 rfl rfl) rfl (by decide) (by decide) (by decide) (by decide) (by simp only [zq_ev, zq_ad, zq_prm] <;> (repeat' split) <;> omega) (Nat.le_of_ble_eq_true rfl) (Nat.le_of_ble_eq_true rfl) (fun X1 => ?_)
  refine zr_putC (pc := 8) (ks := [0, 3, 3, 3, 3, 3, 3, 0, 0, 3, 3, 0, 3, 0, 0]) (j := (h + 1)) (zq_d eX5_init 5 rfl) zf_RX5_9 (by simp [zq_kd, zq_us]) (by simp [zq_us]) zn_5_1 rfl (fun q h => by cases h; rfl) rfl rfl ?_
  refine zr_aload_n (pc := 11) (zq_d eX5_init 6 rfl) 0 rfl rfl ?_
  refine zr_iconst (pc := 12) (zq_d eX5_init 7 rfl) zc_i5 ?_
  refine zr_newa (pc := 13) (c := (h + 2)) (kd := 0) (N1 := 5) (zq_d eX5_init 8 rfl) (zq_m1 117 rfl rfl) rfl (by decide) (by decide) (by decide) (by decide) (by simp only [zq_ev, zq_ad, zq_prm] <;> (repeat' split) <;> omega) (Nat.le_of_ble_eq_true rfl) (Nat.le_of_ble_eq_true rfl) (fun X2 => ?_)
  refine zr_putC (pc := 15) (ks := [0, h + 5, 3, 3, 3, 3, 3, 0, 0, 3, 3, 0, 3, 0, 0]) (j := (h + 2)) (zq_d eX5_init 9 rfl) zf_RX5_15 (by simp [zq_kd, zq_us]) (by simp [zq_us]) zn_5_2 rfl (fun q h => by cases h; rfl) rfl rfl ?_
  refine zr_aload_n (pc := 18) (zq_d eX5_init 10 rfl) 0 rfl rfl ?_
  refine zr_iconst (pc := 19) (zq_d eX5_init 11 rfl) zc_i5 ?_
  refine zr_newa (pc := 20) (c := (h + 3)) (kd := 0) (N1 := 5) (zq_d eX5_init 12 rfl) (zq_m1 117 rfl rfl) rfl (by decide) (by decide) (by decide) (by decide) (by simp only [zq_ev, zq_ad, zq_prm] <;> (repeat' split) <;> omega) (Nat.le_of_ble_eq_true rfl) (Nat.le_of_ble_eq_true rfl) (fun X3 => ?_)
  refine zr_putC (pc := 22) (ks := [0, h + 5, h + 6, 3, 3, 3, 3, 0, 0, 3, 3, 0, 3, 0, 0]) (j := (h + 3)) (zq_d eX5_init 13 rfl) zf_RX5_18 (by simp [zq_kd, zq_us]) (by simp [zq_us]) zn_5_3 rfl (fun q h => by cases h; rfl) rfl rfl ?_
  refine zr_aload_n (pc := 25) (zq_d eX5_init 14 rfl) 0 rfl rfl ?_
  refine zr_iconst (pc := 26) (zq_d eX5_init 15 rfl) zc_i5 ?_
  refine zr_newa (pc := 27) (c := (h + 4)) (kd := 0) (N1 := 5) (zq_d eX5_init 16 rfl) (zq_m1 117 rfl rfl) rfl (by decide) (by decide) (by decide) (by decide) (by simp only [zq_ev, zq_ad, zq_prm] <;> (repeat' split) <;> omega) (Nat.le_of_ble_eq_true rfl) (Nat.le_of_ble_eq_true rfl) (fun X4 => ?_)
  refine zr_putC (pc := 29) (ks := [0, h + 5, h + 6, h + 7, 3, 3, 3, 0, 0, 3, 3, 0, 3, 0, 0]) (j := (h + 4)) (zq_d eX5_init 17 rfl) zf_RX5_21 (by simp [zq_kd, zq_us]) (by simp [zq_us]) zn_5_4 rfl (fun q h => by cases h; rfl) rfl rfl ?_
  refine zr_aload_n (pc := 32) (zq_d eX5_init 18 rfl) 0 rfl rfl ?_
  refine zr_iconst (pc := 33) (zq_d eX5_init 19 rfl) zc_i3 ?_
  refine zr_newa (pc := 34) (c := (h + 5)) (kd := 0) (N1 := 3) (zq_d eX5_init 20 rfl) (zq_m1 117 rfl rfl) rfl (by decide) (by decide) (by decide) (by decide) (by simp only [zq_ev, zq_ad, zq_prm] <;> (repeat' split) <;> omega) (Nat.le_of_ble_eq_true rfl) (Nat.le_of_ble_eq_true rfl) (fun X5 => ?_)
  refine zr_putC (pc := 36) (ks := [0, h + 5, h + 6, h + 7, h + 8, 3, 3, 0, 0, 3, 3, 0, 3, 0, 0]) (j := (h + 5)) (zq_d eX5_init 21 rfl) zf_RX5_24 (by simp [zq_kd, zq_us]) (by simp [zq_us]) zn_5_5 rfl (fun q h => by cases h; rfl) rfl rfl ?_
  refine zr_aload_n (pc := 39) (zq_d eX5_init 22 rfl) 0 rfl rfl ?_
  refine zr_iconst (pc := 40) (zq_d eX5_init 23 rfl) zc_i3 ?_
  refine zr_newa (pc := 41) (c := (h + 6)) (kd := 0) (N1 := 3) (zq_d eX5_init 24 rfl) (zq_m1 117 rfl rfl) rfl (by decide) (by decide) (by decide) (by decide) (by simp only [zq_ev, zq_ad, zq_prm] <;> (repeat' split) <;> omega) (Nat.le_of_ble_eq_true rfl) (Nat.le_of_ble_eq_true rfl) (fun X6 => ?_)
  refine zr_putC (pc := 43) (ks := [0, h + 5, h + 6, h + 7, h + 8, h + 9, 3, 0, 0, 3, 3, 0, 3, 0, 0]) (j := (h + 6)) (zq_d eX5_init 25 rfl) zf_RX5_27 (by simp [zq_kd, zq_us]) (by simp [zq_us]) zn_5_6 rfl (fun q h => by cases h; rfl) rfl rfl ?_
  refine zr_aload_n (pc := 46) (zq_d eX5_init 26 rfl) 0 rfl rfl ?_
  refine zr_bipush (pc := 47) (zq_d eX5_init 27 rfl) zc_b12 ?_
  refine zr_newa (pc := 49) (c := (h + 7)) (kd := 0) (N1 := 12) (zq_d eX5_init 28 rfl) (zq_m1 117 rfl rfl) rfl (by decide) (by decide) (by decide) (by decide) (by simp only [zq_ev, zq_ad, zq_prm] <;> (repeat' split) <;> omega) (Nat.le_of_ble_eq_true rfl) (Nat.le_of_ble_eq_true rfl) (fun X7 => ?_)
  refine zr_putC (pc := 51) (ks := [0, h + 5, h + 6, h + 7, h + 8, h + 9, h + 10, 0, 0, 3, 3, 0, 3, 0, 0]) (j := (h + 7)) (zq_d eX5_init 29 rfl) zf_RX5_30 (by simp [zq_kd, zq_us]) (by simp [zq_us]) zn_5_9 rfl (fun q h => by cases h; rfl) rfl rfl ?_
  refine zr_aload_n (pc := 54) (zq_d eX5_init 30 rfl) 0 rfl rfl ?_
  refine zr_bipush (pc := 55) (zq_d eX5_init 31 rfl) zc_b12 ?_
  refine zr_newa (pc := 57) (c := (h + 8)) (kd := 0) (N1 := 12) (zq_d eX5_init 32 rfl) (zq_m1 117 rfl rfl) rfl (by decide) (by decide) (by decide) (by decide) (by simp only [zq_ev, zq_ad, zq_prm] <;> (repeat' split) <;> omega) (Nat.le_of_ble_eq_true rfl) (Nat.le_of_ble_eq_true rfl) (fun X8 => ?_)
  refine zr_putC (pc := 59) (ks := [0, h + 5, h + 6, h + 7, h + 8, h + 9, h + 10, 0, 0, h + 11, 3, 0, 3, 0, 0]) (j := (h + 8)) (zq_d eX5_init 33 rfl) zf_RX5_33 (by simp [zq_kd, zq_us]) (by simp [zq_us]) zn_5_10 rfl (fun q h => by cases h; rfl) rfl rfl ?_
  refine zr_aload_n (pc := 62) (zq_d eX5_init 34 rfl) 0 rfl rfl ?_
  refine zr_bipush (pc := 63) (zq_d eX5_init 35 rfl) zc_b12 ?_
  refine zr_newa (pc := 65) (c := (h + 9)) (kd := 0) (N1 := 12) (zq_d eX5_init 36 rfl) (zq_m1 117 rfl rfl) rfl (by decide) (by decide) (by decide) (by decide) (by simp only [zq_ev, zq_ad, zq_prm] <;> (repeat' split) <;> omega) (Nat.le_of_ble_eq_true rfl) (Nat.le_of_ble_eq_true rfl) (fun X9 => ?_)
  refine zr_putC (pc := 67) (ks := [0, h + 5, h + 6, h + 7, h + 8, h + 9, h + 10, 0, 0, h + 11, h + 12, 0, 3, 0, 0]) (j := (h + 9)) (zq_d eX5_init 37 rfl) zf_RX5_36 (by simp [zq_kd, zq_us]) (by simp [zq_us]) zn_5_12 rfl (fun q h => by cases h; rfl) rfl rfl ?_
  refine zr_aload_n (pc := 70) (zq_d eX5_init 38 rfl) 0 rfl rfl ?_
  refine zr_iconst (pc := 71) (zq_d eX5_init 39 rfl) zc_im1 ?_
  refine zr_putI (pc := 72) (zq_d eX5_init 40 rfl) zf_RX5_39 (by simp [zq_kd, zq_us]) zn_5_14 (fun X10 => ?_)
  refine zr_sz (sh2 := (zq_fin_X5_init h sh0)) (z2 := zq_ad G h + 10) (by funext d; simp only [zq_ev, zq_fin_X5_init, zq_us] <;> (repeat' split) <;> first | rfl | (exfalso; omega)) (by simp only [zq_ev, zq_ad, zq_prm] <;> (repeat' split) <;> omega) ?_
  exact zr_vreturn (pc := 75) (zq_d eX5_init 41 rfl) rfl rfl (Nat.le_of_ble_eq_true rfl) (Nat.le_of_ble_eq_true rfl)
def zq_fin_X7_init (h : Nat) (sh0 : zq_H) : zq_H := zq_us (zq_us (sh0) h (.inl (7, [0, 0, h + 5]))) (h + 1) (.inr (2, 60))
def f_X7_init (h : Nat) (X : zq_M) : Option zq_M :=
  zq_b (zq_u1 X h 0 (-1 : Int32)) (fun X1 => zq_b (zq_z X1 (h + 1)) (fun X2 => some X2))
set_option maxRecDepth 20000 in
set_option maxHeartbeats 8000000 in
theorem s_X7_init (G : zq_G) (h : Nat) (hh : h + 2 ≤ 69 ∨ 111 ≤ h ∧ h + 2 ≤ 141) (sh0 : zq_H) (X : zq_M) : zq_V G YX7_init (2, 1, 60) (zq_ev (zq_fin_X7_init h sh0) (zq_ad G h + 2)) 0 0 0 (lv_args 0 [.ref (zq_ad G h)]) [] (zq_us sh0 h (.inl (7, [0, 0, 3]))) (zq_ad G h + 1) X (f_X7_init h X) := by
  unfold f_X7_init
  refine zr_lo (l2 := [(0, .ref (zq_ad G h))]) [0] rfl ?_
  refine zr_aload_n (pc := 0) (zq_d eX7_init 0 rfl) 0 rfl rfl ?_
  refine zr_oinit (pc := 1) (zq_d eX7_init 1 rfl) zl_RX7_3 zx_oi1 zx_oi2 (Nat.le_of_ble_eq_true rfl) (Nat.le_of_ble_eq_true rfl) ?_
  refine zr_aload_n (pc := 4) (zq_d eX7_init 2 rfl) 0 rfl rfl ?_
  refine zr_iconst (pc := 5) (zq_d eX7_init 3 rfl) zc_im1 ?_
  refine zr_putI (pc := 6) (zq_d eX7_init 4 rfl) zf_RX7_9 (by simp [zq_kd, zq_us]) zn_7_0 (fun X1 => ?_)
  refine zr_aload_n (pc := 9) (zq_d eX7_init 5 rfl) 0 rfl rfl ?_
  refine zr_bipush (pc := 10) (zq_d eX7_init 6 rfl) zc_b60 ?_
  refine zr_newa (pc := 12) (c := (h + 1)) (kd := 2) (N1 := 60) (zq_d eX7_init 7 rfl) (zq_m2 86 rfl rfl) rfl (by decide) (by decide) (by decide) (by decide) (by simp only [zq_ev, zq_ad, zq_prm] <;> (repeat' split) <;> omega) (Nat.le_of_ble_eq_true rfl) (Nat.le_of_ble_eq_true rfl) (fun X2 => ?_)
  refine zr_putC (pc := 14) (ks := [0, 0, 3]) (j := (h + 1)) (zq_d eX7_init 8 rfl) zf_RX7_15 (by simp [zq_kd, zq_us]) (by simp [zq_us]) zn_7_2 rfl (fun q h => by cases h; rfl) rfl rfl ?_
  refine zr_sz (sh2 := (zq_fin_X7_init h sh0)) (z2 := zq_ad G h + 2) (by funext d; simp only [zq_ev, zq_fin_X7_init, zq_us] <;> (repeat' split) <;> first | rfl | (exfalso; omega)) (by simp only [zq_ev, zq_ad, zq_prm] <;> (repeat' split) <;> omega) ?_
  exact zr_vreturn (pc := 17) (zq_d eX7_init 9 rfl) rfl rfl (Nat.le_of_ble_eq_true rfl) (Nat.le_of_ble_eq_true rfl)
def zq_fin_X3_init (sh0 : zq_H) : zq_H := zq_us (zq_us (zq_us (zq_us (zq_us (zq_us (zq_us (sh0) 28 (.inl (3, [2, 0, 0, 2]))) 29 (.inr (0, 0))) 30 (.inl (2, [0, 35, 36, 37, 38, 0, 0]))) 31 (.inr (0, 10))) 32 (.inr (0, 10))) 33 (.inr (0, 10))) 34 (.inr (0, 100))
def f_X3_init (X : zq_M) : Option zq_M :=
  zq_b (zq_z X 29) (fun X1 => zq_b (zq_u3 X1 28 0 (some 29)) (fun X2 => zq_b (zq_z X2 30) (fun X3 => (f_X2_init 30 X3).bind (fun X4 => zq_b (zq_u3 X4 28 3 (some 30)) (fun X5 => some X5)))))
set_option maxRecDepth 20000 in
set_option maxHeartbeats 8000000 in
theorem s_X3_init (G : zq_G) (sh0 : zq_H) (X : zq_M) : zq_V G YX3_init (3, 6, 137) (zq_ev (zq_fin_X3_init sh0) (zq_ad G 28 + 7)) 0 0 0 (lv_args 0 [.ref (zq_ad G 28)]) [] (zq_us sh0 28 (.inl (3, [2, 0, 0, 2]))) (zq_ad G 28 + 1) X (f_X3_init X) := by
  unfold f_X3_init
  refine zr_lo (l2 := [(0, .ref (zq_ad G 28))]) [0] rfl ?_
  refine zr_aload_n (pc := 0) (zq_d eX3_init 0 rfl) 0 rfl rfl ?_
  refine zr_oinit (pc := 1) (zq_d eX3_init 1 rfl) zl_RX3_3 zx_oi1 zx_oi2 (Nat.le_of_ble_eq_true rfl) (Nat.le_of_ble_eq_true rfl) ?_
  refine zr_aload_n (pc := 4) (zq_d eX3_init 2 rfl) 0 rfl rfl ?_
  refine zr_iconst (pc := 5) (zq_d eX3_init 3 rfl) zc_i0 ?_
  refine zr_newa (pc := 6) (c := 29) (kd := 0) (N1 := 0) (zq_d eX3_init 4 rfl) (zq_m1 117 rfl rfl) rfl (by decide) (by decide) (by decide) (by decide) (by simp only [zq_ev, zq_ad, zq_prm] <;> (repeat' split) <;> omega) (Nat.le_of_ble_eq_true rfl) (Nat.le_of_ble_eq_true rfl) (fun X1 => ?_)
  refine zr_putR (pc := 8) (zq_d eX3_init 5 rfl) zf_RX3_9 rfl zn_3_0 rfl rfl (fun X2 => ?_)
  refine zr_aload_n (pc := 11) (zq_d eX3_init 6 rfl) 0 rfl rfl ?_
  refine zr_new (pc := 12) (c := 30) (ks := [0, 3, 3, 3, 3, 0, 0]) (zq_d eX3_init 7 rfl) (q := (RX2, TX2, 7)) rfl (zq_m1 155 rfl rfl) (zq_m1 120 rfl rfl) (zq_m1 3 rfl rfl) (zw_2 G) (by simp only [zq_ev, zq_ad, zq_prm] <;> (repeat' split) <;> omega) (Nat.le_of_ble_eq_true rfl) (Nat.le_of_ble_eq_true rfl) (fun X3 => ?_)
  refine zr_dup (pc := 15) (zq_d eX3_init 8 rfl) rfl ?_
  refine zr_sz (sh2 := zq_us _ 30 (.inl (2, [0, 3, 3, 3, 3, 0, 0]))) (z2 := zq_ad G 30 + 1) rfl (by simp only [zq_ev, zq_ad, zq_prm] <;> (repeat' split) <;> omega) ?_
  refine zr_callIN (pc := 16) (host := "MiddleSpeaks") (As := []) (zq_d eX3_init 9 rfl) (s_X2_init G 30 (by decide) _ X3) zd_X2_init.1 zd_X2_init.2 rfl rfl (List.mem_of_getElem? (i := 3) rfl) rfl rfl (Nat.le_of_ble_eq_true rfl) (Nat.le_of_ble_eq_true rfl) (Nat.le_of_ble_eq_true rfl) ⟨(Nat.le_of_ble_eq_true rfl), (Nat.le_of_ble_eq_true rfl)⟩ (fun X4 _ => ?_)
  refine zr_putR (pc := 19) (zq_d eX3_init 10 rfl) zf_RX3_18 rfl zn_3_3 rfl rfl (fun X5 => ?_)
  refine zr_sz (sh2 := (zq_fin_X3_init sh0)) (z2 := zq_ad G 28 + 7) (by funext d; simp only [zq_ev, zq_fin_X3_init, zq_us, zq_fin_X2_init] <;> (repeat' split) <;> first | rfl | (exfalso; omega)) (by simp only [zq_ev, zq_ad, zq_prm] <;> (repeat' split) <;> omega) ?_
  exact zr_vreturn (pc := 22) (zq_d eX3_init 11 rfl) rfl rfl (Nat.le_of_ble_eq_true rfl) (Nat.le_of_ble_eq_true rfl)
def zq_fin_X6_init (sh0 : zq_H) : zq_H := zq_us (zq_us (zq_us (zq_us (zq_us (zq_us (sh0) 35 (.inl (6, [5, 2, 40, 41, 42, 43, 44]))) 36 (.inr (0, 6))) 37 (.inr (0, 5))) 38 (.inr (0, 5))) 39 (.inr (0, 100))) 40 (.inr (1, 100))
def f_X6_init (X : zq_M) : Option zq_M :=
  zq_b (zq_z X 36) (fun X1 => zq_b (zq_z X1 37) (fun X2 => zq_b (zq_z X2 38) (fun X3 => zq_b (zq_z X3 39) (fun X4 => zq_b (zq_z X4 40) (fun X5 => zq_b (zq_u3 X5 35 1 (some 23)) (fun X6 => some X6))))))
set_option maxRecDepth 20000 in
set_option maxHeartbeats 8000000 in
theorem s_X6_init (G : zq_G) (sh0 : zq_H) (X : zq_M) : zq_V G YX6_init (2, 5, 216) (zq_ev (zq_fin_X6_init sh0) (zq_ad G 35 + 6)) 0 0 0 (lv_args 0 [.ref (zq_ad G 35), .ref (zq_ad G 1), .ref (zq_ad G 23)]) [] (zq_us sh0 35 (.inl (6, [3, 2, 3, 3, 3, 3, 3]))) (zq_ad G 35 + 1) X (f_X6_init X) := by
  unfold f_X6_init
  refine zr_lo (l2 := [(0, .ref (zq_ad G 35)), (1, .ref (zq_ad G 1)), (2, .ref (zq_ad G 23))]) [0, 1, 2] rfl ?_
  refine zr_aload_n (pc := 0) (zq_d eX6_init 0 rfl) 0 rfl rfl ?_
  refine zr_oinit (pc := 1) (zq_d eX6_init 1 rfl) zl_RX6_3 zx_oi1 zx_oi2 (Nat.le_of_ble_eq_true rfl) (Nat.le_of_ble_eq_true rfl) ?_
  refine zr_aload_n (pc := 4) (zq_d eX6_init 2 rfl) 0 rfl rfl ?_
  refine zr_bipush (pc := 5) (zq_d eX6_init 3 rfl) zc_b6 ?_
  refine zr_newa (pc := 7) (c := 36) (kd := 0) (N1 := 6) (zq_d eX6_init 4 rfl) (zq_m1 117 rfl rfl) rfl (by decide) (by decide) (by decide) (by decide) (by simp only [zq_ev, zq_ad, zq_prm] <;> (repeat' split) <;> omega) (Nat.le_of_ble_eq_true rfl) (Nat.le_of_ble_eq_true rfl) (fun X1 => ?_)
  refine zr_putC (pc := 9) (ks := [3, 2, 3, 3, 3, 3, 3]) (j := 36) (zq_d eX6_init 5 rfl) zf_RX6_11 rfl rfl zn_6_2 rfl (fun q h => by cases h; rfl) rfl rfl ?_
  refine zr_aload_n (pc := 12) (zq_d eX6_init 6 rfl) 0 rfl rfl ?_
  refine zr_iconst (pc := 13) (zq_d eX6_init 7 rfl) zc_i5 ?_
  refine zr_newa (pc := 14) (c := 37) (kd := 0) (N1 := 5) (zq_d eX6_init 8 rfl) (zq_m1 117 rfl rfl) rfl (by decide) (by decide) (by decide) (by decide) (by simp only [zq_ev, zq_ad, zq_prm] <;> (repeat' split) <;> omega) (Nat.le_of_ble_eq_true rfl) (Nat.le_of_ble_eq_true rfl) (fun X2 => ?_)
  refine zr_putC (pc := 16) (ks := [3, 2, 40, 3, 3, 3, 3]) (j := 37) (zq_d eX6_init 9 rfl) zf_RX6_17 rfl rfl zn_6_3 rfl (fun q h => by cases h; rfl) rfl rfl ?_
  refine zr_aload_n (pc := 19) (zq_d eX6_init 10 rfl) 0 rfl rfl ?_
  refine zr_iconst (pc := 20) (zq_d eX6_init 11 rfl) zc_i5 ?_
  refine zr_newa (pc := 21) (c := 38) (kd := 0) (N1 := 5) (zq_d eX6_init 12 rfl) (zq_m1 117 rfl rfl) rfl (by decide) (by decide) (by decide) (by decide) (by simp only [zq_ev, zq_ad, zq_prm] <;> (repeat' split) <;> omega) (Nat.le_of_ble_eq_true rfl) (Nat.le_of_ble_eq_true rfl) (fun X3 => ?_)
  refine zr_putC (pc := 23) (ks := [3, 2, 40, 41, 3, 3, 3]) (j := 38) (zq_d eX6_init 13 rfl) zf_RX6_20 rfl rfl zn_6_4 rfl (fun q h => by cases h; rfl) rfl rfl ?_
  refine zr_aload_n (pc := 26) (zq_d eX6_init 14 rfl) 0 rfl rfl ?_
  refine zr_bipush (pc := 27) (zq_d eX6_init 15 rfl) zc_b100 ?_
  refine zr_newa (pc := 29) (c := 39) (kd := 0) (N1 := 100) (zq_d eX6_init 16 rfl) (zq_m1 117 rfl rfl) rfl (by decide) (by decide) (by decide) (by decide) (by simp only [zq_ev, zq_ad, zq_prm] <;> (repeat' split) <;> omega) (Nat.le_of_ble_eq_true rfl) (Nat.le_of_ble_eq_true rfl) (fun X4 => ?_)
  refine zr_putC (pc := 31) (ks := [3, 2, 40, 41, 42, 3, 3]) (j := 39) (zq_d eX6_init 17 rfl) zf_RX6_23 rfl rfl zn_6_5 rfl (fun q h => by cases h; rfl) rfl rfl ?_
  refine zr_aload_n (pc := 34) (zq_d eX6_init 18 rfl) 0 rfl rfl ?_
  refine zr_bipush (pc := 35) (zq_d eX6_init 19 rfl) zc_b100 ?_
  refine zr_newa (pc := 37) (c := 40) (kd := 1) (N1 := 100) (zq_d eX6_init 20 rfl) (zq_m1 201 rfl rfl) rfl (by decide) (by decide) (by decide) (by decide) (by simp only [zq_ev, zq_ad, zq_prm] <;> (repeat' split) <;> omega) (Nat.le_of_ble_eq_true rfl) (Nat.le_of_ble_eq_true rfl) (fun X5 => ?_)
  refine zr_putC (pc := 39) (ks := [3, 2, 40, 41, 42, 43, 3]) (j := 40) (zq_d eX6_init 21 rfl) zf_RX6_26 rfl rfl zn_6_6 rfl (fun q h => by cases h; rfl) rfl rfl ?_
  refine zr_aload_n (pc := 42) (zq_d eX6_init 22 rfl) 0 rfl rfl ?_
  refine zr_aload_n (pc := 43) (zq_d eX6_init 23 rfl) 1 rfl rfl ?_
  refine zr_putC (pc := 44) (ks := [3, 2, 40, 41, 42, 43, 44]) (j := 1) (zq_d eX6_init 24 rfl) zf_RX6_30 rfl rfl zn_6_0 rfl (fun q h => by cases h; rfl) rfl rfl ?_
  refine zr_aload_n (pc := 47) (zq_d eX6_init 25 rfl) 0 rfl rfl ?_
  refine zr_aload_n (pc := 48) (zq_d eX6_init 26 rfl) 2 rfl rfl ?_
  refine zr_putR (pc := 49) (zq_d eX6_init 27 rfl) zf_RX6_34 rfl zn_6_1 rfl rfl (fun X6 => ?_)
  refine zr_sz (sh2 := (zq_fin_X6_init sh0)) (z2 := zq_ad G 35 + 6) (by funext d; simp only [zq_ev, zq_fin_X6_init, zq_us] <;> (repeat' split) <;> first | rfl | (exfalso; omega)) (by simp only [zq_ev, zq_ad, zq_prm] <;> (repeat' split) <;> omega) ?_
  exact zr_vreturn (pc := 52) (zq_d eX6_init 28 rfl) rfl rfl (Nat.le_of_ble_eq_true rfl) (Nat.le_of_ble_eq_true rfl)
def zq_fin_X9_init (sh0 : zq_H) : zq_H := zq_us (zq_us (zq_us (zq_us (sh0) 41 (.inl (9, [39, 46, 47, 48, 0, 0, 0, 0]))) 42 (.inr (0, 1024))) 43 (.inr (0, 1024))) 44 (.inr (0, 32))
def f_X9_init (X : zq_M) : Option zq_M :=
  zq_b (zq_z X 42) (fun X1 => zq_b (zq_z X1 43) (fun X2 => zq_b (zq_z X2 44) (fun X3 => some X3)))
set_option maxRecDepth 20000 in
set_option maxHeartbeats 8000000 in
theorem s_X9_init (G : zq_G) (sh0 : zq_H) (X : zq_M) : zq_V G YX9_init (2, 3, 2080) (zq_ev (zq_fin_X9_init sh0) (zq_ad G 41 + 4)) 0 0 0 (lv_args 0 [.ref (zq_ad G 41), .ref (zq_ad G 35)]) [] (zq_us sh0 41 (.inl (9, [3, 3, 3, 3, 0, 0, 0, 0]))) (zq_ad G 41 + 1) X (f_X9_init X) := by
  unfold f_X9_init
  refine zr_lo (l2 := [(0, .ref (zq_ad G 41)), (1, .ref (zq_ad G 35))]) [0, 1] rfl ?_
  refine zr_aload_n (pc := 0) (zq_d eX9_init 0 rfl) 0 rfl rfl ?_
  refine zr_oinit (pc := 1) (zq_d eX9_init 1 rfl) zl_RX9_3 zx_oi1 zx_oi2 (Nat.le_of_ble_eq_true rfl) (Nat.le_of_ble_eq_true rfl) ?_
  refine zr_aload_n (pc := 4) (zq_d eX9_init 2 rfl) 0 rfl rfl ?_
  refine zr_sipush (pc := 5) (zq_d eX9_init 3 rfl) zc_s1024 ?_
  refine zr_newa (pc := 8) (c := 42) (kd := 0) (N1 := 1024) (zq_d eX9_init 4 rfl) (zq_m1 117 rfl rfl) rfl (by decide) (by decide) (by decide) (by decide) (by simp only [zq_ev, zq_ad, zq_prm] <;> (repeat' split) <;> omega) (Nat.le_of_ble_eq_true rfl) (Nat.le_of_ble_eq_true rfl) (fun X1 => ?_)
  refine zr_putC (pc := 10) (ks := [3, 3, 3, 3, 0, 0, 0, 0]) (j := 42) (zq_d eX9_init 5 rfl) zf_RX9_11 rfl rfl zn_9_1 rfl (fun q h => by cases h; rfl) rfl rfl ?_
  refine zr_aload_n (pc := 13) (zq_d eX9_init 6 rfl) 0 rfl rfl ?_
  refine zr_sipush (pc := 14) (zq_d eX9_init 7 rfl) zc_s1024 ?_
  refine zr_newa (pc := 17) (c := 43) (kd := 0) (N1 := 1024) (zq_d eX9_init 8 rfl) (zq_m1 117 rfl rfl) rfl (by decide) (by decide) (by decide) (by decide) (by simp only [zq_ev, zq_ad, zq_prm] <;> (repeat' split) <;> omega) (Nat.le_of_ble_eq_true rfl) (Nat.le_of_ble_eq_true rfl) (fun X2 => ?_)
  refine zr_putC (pc := 19) (ks := [3, 46, 3, 3, 0, 0, 0, 0]) (j := 43) (zq_d eX9_init 9 rfl) zf_RX9_17 rfl rfl zn_9_2 rfl (fun q h => by cases h; rfl) rfl rfl ?_
  refine zr_aload_n (pc := 22) (zq_d eX9_init 10 rfl) 0 rfl rfl ?_
  refine zr_bipush (pc := 23) (zq_d eX9_init 11 rfl) zc_b32 ?_
  refine zr_newa (pc := 25) (c := 44) (kd := 0) (N1 := 32) (zq_d eX9_init 12 rfl) (zq_m1 117 rfl rfl) rfl (by decide) (by decide) (by decide) (by decide) (by simp only [zq_ev, zq_ad, zq_prm] <;> (repeat' split) <;> omega) (Nat.le_of_ble_eq_true rfl) (Nat.le_of_ble_eq_true rfl) (fun X3 => ?_)
  refine zr_putC (pc := 27) (ks := [3, 46, 47, 3, 0, 0, 0, 0]) (j := 44) (zq_d eX9_init 13 rfl) zf_RX9_20 rfl rfl zn_9_3 rfl (fun q h => by cases h; rfl) rfl rfl ?_
  refine zr_aload_n (pc := 30) (zq_d eX9_init 14 rfl) 0 rfl rfl ?_
  refine zr_aload_n (pc := 31) (zq_d eX9_init 15 rfl) 1 rfl rfl ?_
  refine zr_putC (pc := 32) (ks := [3, 46, 47, 48, 0, 0, 0, 0]) (j := 35) (zq_d eX9_init 16 rfl) zf_RX9_23 rfl rfl zn_9_0 rfl (fun q h => by cases h; rfl) rfl rfl ?_
  refine zr_sz (sh2 := (zq_fin_X9_init sh0)) (z2 := zq_ad G 41 + 4) (by funext d; simp only [zq_ev, zq_fin_X9_init, zq_us] <;> (repeat' split) <;> first | rfl | (exfalso; omega)) (by simp only [zq_ev, zq_ad, zq_prm] <;> (repeat' split) <;> omega) ?_
  exact zr_vreturn (pc := 35) (zq_d eX9_init 17 rfl) rfl rfl (Nat.le_of_ble_eq_true rfl) (Nat.le_of_ble_eq_true rfl)
def zq_fin_X1_init (sh0 : zq_H) : zq_H := zq_us (zq_us (zq_us (zq_us (zq_us (zq_us (sh0) 45 (.inl (1, [39, 50, 51, 52, 53, 54, 0]))) 46 (.inr (0, 1024))) 47 (.inr (0, 1024))) 48 (.inr (0, 96))) 49 (.inr (0, 3))) 50 (.inr (0, 3))
def f_X1_init (X : zq_M) : Option zq_M :=
  zq_b (zq_z X 46) (fun X1 => zq_b (zq_z X1 47) (fun X2 => zq_b (zq_z X2 48) (fun X3 => zq_b (zq_z X3 49) (fun X4 => zq_b (zq_z X4 50) (fun X5 => some X5)))))
set_option maxRecDepth 20000 in
set_option maxHeartbeats 8000000 in
theorem s_X1_init (G : zq_G) (sh0 : zq_H) (X : zq_M) : zq_V G YX1_init (2, 5, 2150) (zq_ev (zq_fin_X1_init sh0) (zq_ad G 45 + 6)) 0 0 0 (lv_args 0 [.ref (zq_ad G 45), .ref (zq_ad G 35)]) [] (zq_us sh0 45 (.inl (1, [3, 3, 3, 3, 3, 3, 0]))) (zq_ad G 45 + 1) X (f_X1_init X) := by
  unfold f_X1_init
  refine zr_lo (l2 := [(0, .ref (zq_ad G 45)), (1, .ref (zq_ad G 35))]) [0, 1] rfl ?_
  refine zr_aload_n (pc := 0) (zq_d eX1_init 0 rfl) 0 rfl rfl ?_
  refine zr_oinit (pc := 1) (zq_d eX1_init 1 rfl) zl_RX1_3 zx_oi1 zx_oi2 (Nat.le_of_ble_eq_true rfl) (Nat.le_of_ble_eq_true rfl) ?_
  refine zr_aload_n (pc := 4) (zq_d eX1_init 2 rfl) 0 rfl rfl ?_
  refine zr_sipush (pc := 5) (zq_d eX1_init 3 rfl) zc_s1024 ?_
  refine zr_newa (pc := 8) (c := 46) (kd := 0) (N1 := 1024) (zq_d eX1_init 4 rfl) (zq_m1 117 rfl rfl) rfl (by decide) (by decide) (by decide) (by decide) (by simp only [zq_ev, zq_ad, zq_prm] <;> (repeat' split) <;> omega) (Nat.le_of_ble_eq_true rfl) (Nat.le_of_ble_eq_true rfl) (fun X1 => ?_)
  refine zr_putC (pc := 10) (ks := [3, 3, 3, 3, 3, 3, 0]) (j := 46) (zq_d eX1_init 5 rfl) zf_RX1_11 rfl rfl zn_1_1 rfl (fun q h => by cases h; rfl) rfl rfl ?_
  refine zr_aload_n (pc := 13) (zq_d eX1_init 6 rfl) 0 rfl rfl ?_
  refine zr_sipush (pc := 14) (zq_d eX1_init 7 rfl) zc_s1024 ?_
  refine zr_newa (pc := 17) (c := 47) (kd := 0) (N1 := 1024) (zq_d eX1_init 8 rfl) (zq_m1 117 rfl rfl) rfl (by decide) (by decide) (by decide) (by decide) (by simp only [zq_ev, zq_ad, zq_prm] <;> (repeat' split) <;> omega) (Nat.le_of_ble_eq_true rfl) (Nat.le_of_ble_eq_true rfl) (fun X2 => ?_)
  refine zr_putC (pc := 19) (ks := [3, 50, 3, 3, 3, 3, 0]) (j := 47) (zq_d eX1_init 9 rfl) zf_RX1_17 rfl rfl zn_1_2 rfl (fun q h => by cases h; rfl) rfl rfl ?_
  refine zr_aload_n (pc := 22) (zq_d eX1_init 10 rfl) 0 rfl rfl ?_
  refine zr_bipush (pc := 23) (zq_d eX1_init 11 rfl) zc_b96 ?_
  refine zr_newa (pc := 25) (c := 48) (kd := 0) (N1 := 96) (zq_d eX1_init 12 rfl) (zq_m1 117 rfl rfl) rfl (by decide) (by decide) (by decide) (by decide) (by simp only [zq_ev, zq_ad, zq_prm] <;> (repeat' split) <;> omega) (Nat.le_of_ble_eq_true rfl) (Nat.le_of_ble_eq_true rfl) (fun X3 => ?_)
  refine zr_putC (pc := 27) (ks := [3, 50, 51, 3, 3, 3, 0]) (j := 48) (zq_d eX1_init 13 rfl) zf_RX1_20 rfl rfl zn_1_3 rfl (fun q h => by cases h; rfl) rfl rfl ?_
  refine zr_aload_n (pc := 30) (zq_d eX1_init 14 rfl) 0 rfl rfl ?_
  refine zr_iconst (pc := 31) (zq_d eX1_init 15 rfl) zc_i3 ?_
  refine zr_newa (pc := 32) (c := 49) (kd := 0) (N1 := 3) (zq_d eX1_init 16 rfl) (zq_m1 117 rfl rfl) rfl (by decide) (by decide) (by decide) (by decide) (by simp only [zq_ev, zq_ad, zq_prm] <;> (repeat' split) <;> omega) (Nat.le_of_ble_eq_true rfl) (Nat.le_of_ble_eq_true rfl) (fun X4 => ?_)
  refine zr_putC (pc := 34) (ks := [3, 50, 51, 52, 3, 3, 0]) (j := 49) (zq_d eX1_init 17 rfl) zf_RX1_23 rfl rfl zn_1_4 rfl (fun q h => by cases h; rfl) rfl rfl ?_
  refine zr_aload_n (pc := 37) (zq_d eX1_init 18 rfl) 0 rfl rfl ?_
  refine zr_iconst (pc := 38) (zq_d eX1_init 19 rfl) zc_i3 ?_
  refine zr_newa (pc := 39) (c := 50) (kd := 0) (N1 := 3) (zq_d eX1_init 20 rfl) (zq_m1 117 rfl rfl) rfl (by decide) (by decide) (by decide) (by decide) (by simp only [zq_ev, zq_ad, zq_prm] <;> (repeat' split) <;> omega) (Nat.le_of_ble_eq_true rfl) (Nat.le_of_ble_eq_true rfl) (fun X5 => ?_)
  refine zr_putC (pc := 41) (ks := [3, 50, 51, 52, 53, 3, 0]) (j := 50) (zq_d eX1_init 21 rfl) zf_RX1_26 rfl rfl zn_1_5 rfl (fun q h => by cases h; rfl) rfl rfl ?_
  refine zr_aload_n (pc := 44) (zq_d eX1_init 22 rfl) 0 rfl rfl ?_
  refine zr_aload_n (pc := 45) (zq_d eX1_init 23 rfl) 1 rfl rfl ?_
  refine zr_putC (pc := 46) (ks := [3, 50, 51, 52, 53, 54, 0]) (j := 35) (zq_d eX1_init 24 rfl) zf_RX1_29 rfl rfl zn_1_0 rfl (fun q h => by cases h; rfl) rfl rfl ?_
  refine zr_sz (sh2 := (zq_fin_X1_init sh0)) (z2 := zq_ad G 45 + 6) (by funext d; simp only [zq_ev, zq_fin_X1_init, zq_us] <;> (repeat' split) <;> first | rfl | (exfalso; omega)) (by simp only [zq_ev, zq_ad, zq_prm] <;> (repeat' split) <;> omega) ?_
  exact zr_vreturn (pc := 49) (zq_d eX1_init 25 rfl) rfl rfl (Nat.le_of_ble_eq_true rfl) (Nat.le_of_ble_eq_true rfl)
def zq_fin_X8_init (sh0 : zq_H) : zq_H := zq_us (sh0) 51 (.inl (8, [39]))
def f_X8_init (X : zq_M) : Option zq_M :=
  some X
set_option maxRecDepth 20000 in
set_option maxHeartbeats 8000000 in
theorem s_X8_init (G : zq_G) (sh0 : zq_H) (X : zq_M) : zq_V G YX8_init (2, 0, 0) (zq_ev (zq_fin_X8_init sh0) (zq_ad G 51 + 1)) 0 0 0 (lv_args 0 [.ref (zq_ad G 51), .ref (zq_ad G 35)]) [] (zq_us sh0 51 (.inl (8, [3]))) (zq_ad G 51 + 1) X (f_X8_init X) := by
  unfold f_X8_init
  refine zr_lo (l2 := [(0, .ref (zq_ad G 51)), (1, .ref (zq_ad G 35))]) [0, 1] rfl ?_
  refine zr_aload_n (pc := 0) (zq_d eX8_init 0 rfl) 0 rfl rfl ?_
  refine zr_oinit (pc := 1) (zq_d eX8_init 1 rfl) zl_RX8_3 zx_oi1 zx_oi2 (Nat.le_of_ble_eq_true rfl) (Nat.le_of_ble_eq_true rfl) ?_
  refine zr_aload_n (pc := 4) (zq_d eX8_init 2 rfl) 0 rfl rfl ?_
  refine zr_aload_n (pc := 5) (zq_d eX8_init 3 rfl) 1 rfl rfl ?_
  refine zr_putC (pc := 6) (ks := [3]) (j := 35) (zq_d eX8_init 4 rfl) zf_RX8_9 rfl rfl zn_8_0 rfl (fun q h => by cases h; rfl) rfl rfl ?_
  refine zr_sz (sh2 := (zq_fin_X8_init sh0)) (z2 := zq_ad G 51 + 1) (by funext d; simp only [zq_ev, zq_fin_X8_init, zq_us] <;> (repeat' split) <;> first | rfl | (exfalso; omega)) (by simp only [zq_ev, zq_ad, zq_prm] <;> (repeat' split) <;> omega) ?_
  exact zr_vreturn (pc := 9) (zq_d eX8_init 5 rfl) rfl rfl (Nat.le_of_ble_eq_true rfl) (Nat.le_of_ble_eq_true rfl)
def zq_fin_X4_init (sh0 : zq_H) : zq_H := zq_us (zq_us (sh0) 52 (.inl (4, [5, 57]))) 53 (.inr (0, 5))
def f_X4_init (X : zq_M) : Option zq_M :=
  zq_b (zq_z X 53) (fun X1 => some X1)
set_option maxRecDepth 20000 in
set_option maxHeartbeats 8000000 in
theorem s_X4_init (G : zq_G) (sh0 : zq_H) (X : zq_M) : zq_V G YX4_init (2, 1, 5) (zq_ev (zq_fin_X4_init sh0) (zq_ad G 52 + 2)) 0 0 0 (lv_args 0 [.ref (zq_ad G 52), .ref (zq_ad G 1)]) [] (zq_us sh0 52 (.inl (4, [3, 3]))) (zq_ad G 52 + 1) X (f_X4_init X) := by
  unfold f_X4_init
  refine zr_lo (l2 := [(0, .ref (zq_ad G 52)), (1, .ref (zq_ad G 1))]) [0, 1] rfl ?_
  refine zr_aload_n (pc := 0) (zq_d eX4_init 0 rfl) 0 rfl rfl ?_
  refine zr_oinit (pc := 1) (zq_d eX4_init 1 rfl) zl_RX4_3 zx_oi1 zx_oi2 (Nat.le_of_ble_eq_true rfl) (Nat.le_of_ble_eq_true rfl) ?_
  refine zr_aload_n (pc := 4) (zq_d eX4_init 2 rfl) 0 rfl rfl ?_
  refine zr_iconst (pc := 5) (zq_d eX4_init 3 rfl) zc_i5 ?_
  refine zr_newa (pc := 6) (c := 53) (kd := 0) (N1 := 5) (zq_d eX4_init 4 rfl) (zq_m1 117 rfl rfl) rfl (by decide) (by decide) (by decide) (by decide) (by simp only [zq_ev, zq_ad, zq_prm] <;> (repeat' split) <;> omega) (Nat.le_of_ble_eq_true rfl) (Nat.le_of_ble_eq_true rfl) (fun X1 => ?_)
  refine zr_putC (pc := 8) (ks := [3, 3]) (j := 53) (zq_d eX4_init 5 rfl) zf_RX4_9 rfl rfl zn_4_1 rfl (fun q h => by cases h; rfl) rfl rfl ?_
  refine zr_aload_n (pc := 11) (zq_d eX4_init 6 rfl) 0 rfl rfl ?_
  refine zr_aload_n (pc := 12) (zq_d eX4_init 7 rfl) 1 rfl rfl ?_
  refine zr_putC (pc := 13) (ks := [3, 57]) (j := 1) (zq_d eX4_init 8 rfl) zf_RX4_15 rfl rfl zn_4_0 rfl (fun q h => by cases h; rfl) rfl rfl ?_
  refine zr_sz (sh2 := (zq_fin_X4_init sh0)) (z2 := zq_ad G 52 + 2) (by funext d; simp only [zq_ev, zq_fin_X4_init, zq_us] <;> (repeat' split) <;> first | rfl | (exfalso; omega)) (by simp only [zq_ev, zq_ad, zq_prm] <;> (repeat' split) <;> omega) ?_
  exact zr_vreturn (pc := 16) (zq_d eX4_init 9 rfl) rfl rfl (Nat.le_of_ble_eq_true rfl) (Nat.le_of_ble_eq_true rfl)
def zq_fin_X0_init (sh0 : zq_H) : zq_H := zq_us (zq_us (sh0) 54 (.inl (0, [59, 0, 0, 0, 0]))) 55 (.inr (0, 20))
def f_X0_init (X : zq_M) : Option zq_M :=
  zq_b (zq_z X 55) (fun X1 => some X1)
set_option maxRecDepth 20000 in
set_option maxHeartbeats 8000000 in
theorem s_X0_init (G : zq_G) (sh0 : zq_H) (X : zq_M) : zq_V G YX0_init (2, 1, 20) (zq_ev (zq_fin_X0_init sh0) (zq_ad G 54 + 2)) 0 0 0 (lv_args 0 [.ref (zq_ad G 54)]) [] (zq_us sh0 54 (.inl (0, [3, 0, 0, 0, 0]))) (zq_ad G 54 + 1) X (f_X0_init X) := by
  unfold f_X0_init
  refine zr_lo (l2 := [(0, .ref (zq_ad G 54))]) [0] rfl ?_
  refine zr_aload_n (pc := 0) (zq_d eX0_init 0 rfl) 0 rfl rfl ?_
  refine zr_oinit (pc := 1) (zq_d eX0_init 1 rfl) zl_RX0_3 zx_oi1 zx_oi2 (Nat.le_of_ble_eq_true rfl) (Nat.le_of_ble_eq_true rfl) ?_
  refine zr_aload_n (pc := 4) (zq_d eX0_init 2 rfl) 0 rfl rfl ?_
  refine zr_bipush (pc := 5) (zq_d eX0_init 3 rfl) zc_b20 ?_
  refine zr_newa (pc := 7) (c := 55) (kd := 0) (N1 := 20) (zq_d eX0_init 4 rfl) (zq_m1 117 rfl rfl) rfl (by decide) (by decide) (by decide) (by decide) (by simp only [zq_ev, zq_ad, zq_prm] <;> (repeat' split) <;> omega) (Nat.le_of_ble_eq_true rfl) (Nat.le_of_ble_eq_true rfl) (fun X1 => ?_)
  refine zr_putC (pc := 9) (ks := [3, 0, 0, 0, 0]) (j := 55) (zq_d eX0_init 5 rfl) zf_RX0_11 rfl rfl zn_0_0 rfl (fun q h => by cases h; rfl) rfl rfl ?_
  refine zr_sz (sh2 := (zq_fin_X0_init sh0)) (z2 := zq_ad G 54 + 2) (by funext d; simp only [zq_ev, zq_fin_X0_init, zq_us] <;> (repeat' split) <;> first | rfl | (exfalso; omega)) (by simp only [zq_ev, zq_ad, zq_prm] <;> (repeat' split) <;> omega) ?_
  exact zr_vreturn (pc := 12) (zq_d eX0_init 6 rfl) rfl rfl (Nat.le_of_ble_eq_true rfl) (Nat.le_of_ble_eq_true rfl)
