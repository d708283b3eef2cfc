def f_X11_within (N : Nat) (X : zq_M) (a1 : Int32) (a2 : Int32) (a3 : Int32) : Option Int32 :=
  if a1 < a2 then (some (0 : Int32)) else (if a3 < a1 then (some (0 : Int32)) else (some (1 : Int32)))
set_option maxRecDepth 20000 in
set_option maxHeartbeats 8000000 in
theorem s_X11_within (G : zq_G) (N z : Nat) (X : zq_M) (a1 : Int32) (a2 : Int32) (a3 : Int32) : zq_V G YX11_within (1, 0, 0) (zq_ei zq_shM z X) 0 0 0 (lv_args 0 [.ref (zq_ad G 69), .int a1, .int a2, .int a3]) [] zq_shM z X (f_X11_within N X a1 a2 a3) := by
  unfold f_X11_within
  refine zr_lo (l2 := [(1, .int a1), (2, .int a2), (3, .int a3)]) [1, 2, 3] rfl ?_
  refine zr_iload_n (pc := 0) (zq_d eX11_within 0 rfl) 0 rfl rfl ?_
  refine zr_iload_n (pc := 1) (zq_d eX11_within 1 rfl) 1 rfl rfl ?_
  refine zr_icmp_lt (pc := 2) 14 (zq_d eX11_within 2 rfl) (by decide) (fun _ => ?_) (fun _ => ?_)
  · refine zr_iconst (pc := 14) (zq_d eX11_within 8 rfl) zc_i0 ?_
    exact zr_zreturn (pc := 15) (zq_d eX11_within 9 rfl) rfl rfl rfl (Nat.zero_le _) (Nat.zero_le _)
  · refine zr_iload_n (pc := 5) (zq_d eX11_within 3 rfl) 0 rfl rfl ?_
    refine zr_iload_n (pc := 6) (zq_d eX11_within 4 rfl) 2 rfl rfl ?_
    refine zr_icmp_gt (pc := 7) 14 (zq_d eX11_within 5 rfl) (by decide) (fun _ => ?_) (fun _ => ?_)
    · refine zr_iconst (pc := 14) (zq_d eX11_within 8 rfl) zc_i0 ?_
      exact zr_zreturn (pc := 15) (zq_d eX11_within 9 rfl) rfl rfl rfl (Nat.zero_le _) (Nat.zero_le _)
    · refine zr_iconst (pc := 10) (zq_d eX11_within 6 rfl) zc_i1 ?_
      refine zr_goto (pc := 11) 15 (zq_d eX11_within 7 rfl) (by decide) ?_
      exact zr_zreturn (pc := 15) (zq_d eX11_within 9 rfl) rfl rfl rfl (Nat.zero_le _) (Nat.zero_le _)
def f_X11_has (N : Nat) (X : zq_M) (a1 : Int32) (a2 : Int32) : Option Int32 :=
  if ¬ ((zq_shr a1 a2) &&& (1 : Int32)) = (1 : Int32) then (some (0 : Int32)) else (some (1 : Int32))
set_option maxRecDepth 20000 in
set_option maxHeartbeats 8000000 in
theorem s_X11_has (G : zq_G) (N z : Nat) (X : zq_M) (a1 : Int32) (a2 : Int32) : zq_V G YX11_has (1, 0, 0) (zq_ei zq_shM z X) 0 0 0 (lv_args 0 [.ref (zq_ad G 69), .int a1, .int a2]) [] zq_shM z X (f_X11_has N X a1 a2) := by
  unfold f_X11_has
  refine zr_lo (l2 := [(1, .int a1), (2, .int a2)]) [1, 2] rfl ?_
  refine zr_iload_n (pc := 0) (zq_d eX11_has 0 rfl) 0 rfl rfl ?_
  refine zr_iload_n (pc := 1) (zq_d eX11_has 1 rfl) 1 rfl rfl ?_
  refine zr_ishr (pc := 2) (zq_d eX11_has 2 rfl) ?_
  refine zr_iconst (pc := 3) (zq_d eX11_has 3 rfl) zc_i1 ?_
  refine zr_iand (pc := 4) (zq_d eX11_has 4 rfl) ?_
  refine zr_iconst (pc := 5) (zq_d eX11_has 5 rfl) zc_i1 ?_
  refine zr_icmp_ne (pc := 6) 13 (zq_d eX11_has 6 rfl) (by decide) (fun _ => ?_) (fun _ => ?_)
  · refine zr_iconst (pc := 13) (zq_d eX11_has 9 rfl) zc_i0 ?_
    exact zr_zreturn (pc := 14) (zq_d eX11_has 10 rfl) rfl rfl rfl (Nat.zero_le _) (Nat.zero_le _)
  · refine zr_iconst (pc := 9) (zq_d eX11_has 7 rfl) zc_i1 ?_
    refine zr_goto (pc := 10) 14 (zq_d eX11_has 8 rfl) (by decide) ?_
    exact zr_zreturn (pc := 14) (zq_d eX11_has 10 rfl) rfl rfl rfl (Nat.zero_le _) (Nat.zero_le _)
def b_X11_ones_4  (rc4_1 : Int32 → Int32 → Option Int32) (v1 : Int32) (v2 : Int32) : Option Int32 :=
  if v2 = 0 then (some v1) else (rc4_1 (v1 + (1 : Int32)) (v2 &&& (v2 - (1 : Int32))))
def f_X11_ones (N : Nat) (X : zq_M) (a1 : Int32) : Option Int32 :=
  zq_loop (fun _ _ => none) (b_X11_ones_4) N (0 : Int32) a1
set_option maxRecDepth 20000 in
set_option maxHeartbeats 8000000 in
theorem s_X11_ones (G : zq_G) (N z : Nat) (X : zq_M) (a1 : Int32) : zq_V G YX11_ones (1, 0, 0) (zq_ei zq_shM z X) 0 0 0 (lv_args 0 [.ref (zq_ad G 69), .int a1]) [] zq_shM z X (f_X11_ones N X a1) := by
  unfold f_X11_ones
  refine zr_lo (l2 := [(1, .int a1)]) [1] rfl ?_
  refine zr_iconst (pc := 0) (zq_d eX11_ones 0 rfl) zc_i0 ?_
  refine zr_istore_n (pc := 1) (lo2 := [(2, .int (0 : Int32)), (1, .int a1)]) (zq_d eX11_ones 1 rfl) rfl (Nat.le_of_ble_eq_true rfl) rfl ?_
  refine zr_iload_n (pc := 2) (zq_d eX11_ones 2 rfl) 1 rfl rfl ?_
  refine zr_istore_n (pc := 3) (lo2 := [(3, .int a1), (2, .int (0 : Int32)), (1, .int a1)]) (zq_d eX11_ones 3 rfl) rfl (Nat.le_of_ble_eq_true rfl) rfl ?_
  have hbrc4_1 : ∀ rc4_1 : Int32 → Int32 → Option Int32, (∀ (v1 : Int32) (v2 : Int32), zq_V G YX11_ones (1, 0, 0) (zq_ei zq_shM z X) 0 0 4 [(2, .int v1), (3, .int v2)] [] zq_shM z X (rc4_1 v1 v2)) → ∀ (v1 : Int32) (v2 : Int32), zq_V G YX11_ones (1, 0, 0) (zq_ei zq_shM z X) 0 0 4 [(2, .int v1), (3, .int v2)] [] zq_shM z X (b_X11_ones_4 rc4_1 v1 v2) := by
    intro rc4_1 hrc4_1 v1 v2
    unfold b_X11_ones_4
    refine zr_iload_n (pc := 4) (zq_d eX11_ones 4 rfl) 1 rfl rfl ?_
    refine zr_if_eq (pc := 5) 20 (zq_d eX11_ones 5 rfl) (by decide) (fun _ => ?_) (fun _ => ?_)
    · refine zr_iload_n (pc := 20) (zq_d eX11_ones 14 rfl) 0 rfl rfl ?_
      exact zr_ireturn (pc := 21) (zq_d eX11_ones 15 rfl) rfl rfl (Nat.zero_le _) (Nat.zero_le _)
    · refine zr_iinc (pc := 8) (j := 0) (v := (v1 + (1 : Int32))) (lo2 := [(2, .int (v1 + (1 : Int32))), (3, .int v2)]) (zq_d eX11_ones 6 rfl) rfl (by rw [zc_i1]) (Nat.le_of_ble_eq_true rfl) rfl ?_
      refine zr_iload_n (pc := 11) (zq_d eX11_ones 7 rfl) 1 rfl rfl ?_
      refine zr_iload_n (pc := 12) (zq_d eX11_ones 8 rfl) 1 rfl rfl ?_
      refine zr_iconst (pc := 13) (zq_d eX11_ones 9 rfl) zc_i1 ?_
      refine zr_isub (pc := 14) (zq_d eX11_ones 10 rfl) ?_
      refine zr_iand (pc := 15) (zq_d eX11_ones 11 rfl) ?_
      refine zr_istore_n (pc := 16) (lo2 := [(3, .int (v2 &&& (v2 - (1 : Int32)))), (2, .int (v1 + (1 : Int32)))]) (zq_d eX11_ones 12 rfl) rfl (Nat.le_of_ble_eq_true rfl) rfl ?_
      refine zr_goto (pc := 17) 4 (zq_d eX11_ones 13 rfl) (by decide) ?_
      exact zr_lo [1, 0] rfl (hrc4_1 (v1 + (1 : Int32)) (v2 &&& (v2 - (1 : Int32))))
  have hlrc4_1 := zr_loop (P := fun (rc4_1 : Int32 → Int32 → Option Int32) => ∀ (v1 : Int32) (v2 : Int32), zq_V G YX11_ones (1, 0, 0) (zq_ei zq_shM z X) 0 0 4 [(2, .int v1), (3, .int v2)] [] zq_shM z X (rc4_1 v1 v2)) (fun _ _ => none) (b_X11_ones_4) (fun _ _ => zr_none) hbrc4_1 N
  exact zr_lo [1, 0] rfl (hlrc4_1 (0 : Int32) a1)
def f_X11_isPerson (N : Nat) (X : zq_M) (a1 : Int32) : Option Int32 :=
  (f_X11_within N X a1 (0 : Int32) ((X.1 69 0) - (1 : Int32))).bind (fun v1 => zq_gz v1 (some v1))
set_option maxRecDepth 20000 in
set_option maxHeartbeats 8000000 in
theorem s_X11_isPerson (G : zq_G) (N z : Nat) (X : zq_M) (a1 : Int32) : zq_V G YX11_isPerson (2, 0, 0) (zq_ei zq_shM z X) 0 0 0 (lv_args 0 [.ref (zq_ad G 69), .int a1]) [] zq_shM z X (f_X11_isPerson N X a1) := by
  unfold f_X11_isPerson
  refine zr_lo (l2 := [(0, .ref (zq_ad G 69)), (1, .int a1)]) [0, 1] rfl ?_
  refine zr_aload_n (pc := 0) (zq_d eX11_isPerson 0 rfl) 0 rfl rfl ?_
  refine zr_iload_n (pc := 1) (zq_d eX11_isPerson 1 rfl) 1 rfl rfl ?_
  refine zr_iconst (pc := 2) (zq_d eX11_isPerson 2 rfl) zc_i0 ?_
  refine zr_aload_n (pc := 3) (zq_d eX11_isPerson 3 rfl) 0 rfl rfl ?_
  refine zr_getI (pc := 4) (zq_d eX11_isPerson 4 rfl) zf_RX11_7 km_69_0 ?_
  refine zr_iconst (pc := 7) (zq_d eX11_isPerson 5 rfl) zc_i1 ?_
  refine zr_isub (pc := 8) (zq_d eX11_isPerson 6 rfl) ?_
  refine zr_Vi (pc := 9) [_, _, _] (zq_d eX11_isPerson 7 rfl) (s_X11_within G N z X _ _ _) zd_X11_within zl_RX11_217 om_69 rfl rfl rfl rfl (Nat.le_of_ble_eq_true rfl) (Nat.le_of_ble_eq_true rfl) (Nat.le_of_ble_eq_true rfl) ⟨Nat.le_refl _, Nat.le_refl _⟩ (fun v1 => ?_)
  exact zr_zreturnG (pc := 12) (zq_d eX11_isPerson 8 rfl) rfl rfl (Nat.zero_le _) (Nat.zero_le _)
def f_X11_isRoom (N : Nat) (X : zq_M) (a1 : Int32) : Option Int32 :=
  (f_X11_within N X a1 (0 : Int32) (2 : Int32)).bind (fun v1 => zq_gz v1 (some v1))
set_option maxRecDepth 20000 in
set_option maxHeartbeats 8000000 in
theorem s_X11_isRoom (G : zq_G) (N z : Nat) (X : zq_M) (a1 : Int32) : zq_V G YX11_isRoom (2, 0, 0) (zq_ei zq_shM z X) 0 0 0 (lv_args 0 [.ref (zq_ad G 69), .int a1]) [] zq_shM z X (f_X11_isRoom N X a1) := by
  unfold f_X11_isRoom
  refine zr_lo (l2 := [(0, .ref (zq_ad G 69)), (1, .int a1)]) [0, 1] rfl ?_
  refine zr_aload_n (pc := 0) (zq_d eX11_isRoom 0 rfl) 0 rfl rfl ?_
  refine zr_iload_n (pc := 1) (zq_d eX11_isRoom 1 rfl) 1 rfl rfl ?_
  refine zr_iconst (pc := 2) (zq_d eX11_isRoom 2 rfl) zc_i0 ?_
  refine zr_iconst (pc := 3) (zq_d eX11_isRoom 3 rfl) zc_i2 ?_
  refine zr_Vi (pc := 4) [_, _, _] (zq_d eX11_isRoom 4 rfl) (s_X11_within G N z X _ _ _) zd_X11_within zl_RX11_217 om_69 rfl rfl rfl rfl (Nat.le_of_ble_eq_true rfl) (Nat.le_of_ble_eq_true rfl) (Nat.le_of_ble_eq_true rfl) ⟨Nat.le_refl _, Nat.le_refl _⟩ (fun v1 => ?_)
  exact zr_zreturnG (pc := 7) (zq_d eX11_isRoom 5 rfl) rfl rfl (Nat.zero_le _) (Nat.zero_le _)
def f_X11_isPlace (N : Nat) (X : zq_M) (a1 : Int32) : Option Int32 :=
  (f_X11_within N X a1 (0 : Int32) (3 : Int32)).bind (fun v1 => zq_gz v1 (some v1))
set_option maxRecDepth 20000 in
set_option maxHeartbeats 8000000 in
theorem s_X11_isPlace (G : zq_G) (N z : Nat) (X : zq_M) (a1 : Int32) : zq_V G YX11_isPlace (2, 0, 0) (zq_ei zq_shM z X) 0 0 0 (lv_args 0 [.ref (zq_ad G 69), .int a1]) [] zq_shM z X (f_X11_isPlace N X a1) := by
  unfold f_X11_isPlace
  refine zr_lo (l2 := [(0, .ref (zq_ad G 69)), (1, .int a1)]) [0, 1] rfl ?_
  refine zr_aload_n (pc := 0) (zq_d eX11_isPlace 0 rfl) 0 rfl rfl ?_
  refine zr_iload_n (pc := 1) (zq_d eX11_isPlace 1 rfl) 1 rfl rfl ?_
  refine zr_iconst (pc := 2) (zq_d eX11_isPlace 2 rfl) zc_i0 ?_
  refine zr_iconst (pc := 3) (zq_d eX11_isPlace 3 rfl) zc_i3 ?_
  refine zr_Vi (pc := 4) [_, _, _] (zq_d eX11_isPlace 4 rfl) (s_X11_within G N z X _ _ _) zd_X11_within zl_RX11_217 om_69 rfl rfl rfl rfl (Nat.le_of_ble_eq_true rfl) (Nat.le_of_ble_eq_true rfl) (Nat.le_of_ble_eq_true rfl) ⟨Nat.le_refl _, Nat.le_refl _⟩ (fun v1 => ?_)
  exact zr_zreturnG (pc := 7) (zq_d eX11_isPlace 5 rfl) rfl rfl (Nat.zero_le _) (Nat.zero_le _)
def f_X11_isThing (N : Nat) (X : zq_M) (a1 : Int32) : Option Int32 :=
  (f_X11_within N X a1 (0 : Int32) (7 : Int32)).bind (fun v1 => zq_gz v1 (some v1))
set_option maxRecDepth 20000 in
set_option maxHeartbeats 8000000 in
theorem s_X11_isThing (G : zq_G) (N z : Nat) (X : zq_M) (a1 : Int32) : zq_V G YX11_isThing (2, 0, 0) (zq_ei zq_shM z X) 0 0 0 (lv_args 0 [.ref (zq_ad G 69), .int a1]) [] zq_shM z X (f_X11_isThing N X a1) := by
  unfold f_X11_isThing
  refine zr_lo (l2 := [(0, .ref (zq_ad G 69)), (1, .int a1)]) [0, 1] rfl ?_
  refine zr_aload_n (pc := 0) (zq_d eX11_isThing 0 rfl) 0 rfl rfl ?_
  refine zr_iload_n (pc := 1) (zq_d eX11_isThing 1 rfl) 1 rfl rfl ?_
  refine zr_iconst (pc := 2) (zq_d eX11_isThing 2 rfl) zc_i0 ?_
  refine zr_bipush (pc := 3) (zq_d eX11_isThing 3 rfl) zc_b7 ?_
  refine zr_Vi (pc := 5) [_, _, _] (zq_d eX11_isThing 4 rfl) (s_X11_within G N z X _ _ _) zd_X11_within zl_RX11_217 om_69 rfl rfl rfl rfl (Nat.le_of_ble_eq_true rfl) (Nat.le_of_ble_eq_true rfl) (Nat.le_of_ble_eq_true rfl) ⟨Nat.le_refl _, Nat.le_refl _⟩ (fun v1 => ?_)
  exact zr_zreturnG (pc := 8) (zq_d eX11_isThing 5 rfl) rfl rfl (Nat.zero_le _) (Nat.zero_le _)
def f_X11_placeOf (N : Nat) (X : zq_M) (a1 : Int32) (a2 : Int32) : Option Int32 :=
  some ((zq_shr a1 ((2 : Int32) * a2)) &&& (3 : Int32))
set_option maxRecDepth 20000 in
set_option maxHeartbeats 8000000 in
theorem s_X11_placeOf (G : zq_G) (N z : Nat) (X : zq_M) (a1 : Int32) (a2 : Int32) : zq_V G YX11_placeOf (1, 0, 0) (zq_ei zq_shM z X) 0 0 0 (lv_args 0 [.ref (zq_ad G 69), .int a1, .int a2]) [] zq_shM z X (f_X11_placeOf N X a1 a2) := by
  unfold f_X11_placeOf
  refine zr_lo (l2 := [(1, .int a1), (2, .int a2)]) [1, 2] rfl ?_
  refine zr_iload_n (pc := 0) (zq_d eX11_placeOf 0 rfl) 0 rfl rfl ?_
  refine zr_iconst (pc := 1) (zq_d eX11_placeOf 1 rfl) zc_i2 ?_
  refine zr_iload_n (pc := 2) (zq_d eX11_placeOf 2 rfl) 1 rfl rfl ?_
  refine zr_imul (pc := 3) (zq_d eX11_placeOf 3 rfl) ?_
  refine zr_ishr (pc := 4) (zq_d eX11_placeOf 4 rfl) ?_
  refine zr_iconst (pc := 5) (zq_d eX11_placeOf 5 rfl) zc_i3 ?_
  refine zr_iand (pc := 6) (zq_d eX11_placeOf 6 rfl) ?_
  exact zr_ireturn (pc := 7) (zq_d eX11_placeOf 7 rfl) rfl rfl (Nat.zero_le _) (Nat.zero_le _)
def f_X11_moved (N : Nat) (X : zq_M) (a1 : Int32) (a2 : Int32) (a3 : Int32) : Option Int32 :=
  some ((a1 &&& ((zq_shl (3 : Int32) ((2 : Int32) * a2)) ^^^ (-1 : Int32))) ||| (zq_shl a3 ((2 : Int32) * a2)))
set_option maxRecDepth 20000 in
set_option maxHeartbeats 8000000 in
theorem s_X11_moved (G : zq_G) (N z : Nat) (X : zq_M) (a1 : Int32) (a2 : Int32) (a3 : Int32) : zq_V G YX11_moved (1, 0, 0) (zq_ei zq_shM z X) 0 0 0 (lv_args 0 [.ref (zq_ad G 69), .int a1, .int a2, .int a3]) [] zq_shM z X (f_X11_moved N X a1 a2 a3) := by
  unfold f_X11_moved
  refine zr_lo (l2 := [(1, .int a1), (2, .int a2), (3, .int a3)]) [1, 2, 3] rfl ?_
  refine zr_iload_n (pc := 0) (zq_d eX11_moved 0 rfl) 0 rfl rfl ?_
  refine zr_iconst (pc := 1) (zq_d eX11_moved 1 rfl) zc_i3 ?_
  refine zr_iconst (pc := 2) (zq_d eX11_moved 2 rfl) zc_i2 ?_
  refine zr_iload_n (pc := 3) (zq_d eX11_moved 3 rfl) 1 rfl rfl ?_
  refine zr_imul (pc := 4) (zq_d eX11_moved 4 rfl) ?_
  refine zr_ishl (pc := 5) (zq_d eX11_moved 5 rfl) ?_
  refine zr_iconst (pc := 6) (zq_d eX11_moved 6 rfl) zc_im1 ?_
  refine zr_ixor (pc := 7) (zq_d eX11_moved 7 rfl) ?_
  refine zr_iand (pc := 8) (zq_d eX11_moved 8 rfl) ?_
  refine zr_iload_n (pc := 9) (zq_d eX11_moved 9 rfl) 2 rfl rfl ?_
  refine zr_iconst (pc := 10) (zq_d eX11_moved 10 rfl) zc_i2 ?_
  refine zr_iload_n (pc := 11) (zq_d eX11_moved 11 rfl) 1 rfl rfl ?_
  refine zr_imul (pc := 12) (zq_d eX11_moved 12 rfl) ?_
  refine zr_ishl (pc := 13) (zq_d eX11_moved 13 rfl) ?_
  refine zr_ior (pc := 14) (zq_d eX11_moved 14 rfl) ?_
  exact zr_ireturn (pc := 15) (zq_d eX11_moved 15 rfl) rfl rfl (Nat.zero_le _) (Nat.zero_le _)
def b_X11_manyIn_5 (N : Nat) (X : zq_M) (a1 : Int32) (a2 : Int32) (rc5_1 : Int32 → Int32 → Option Int32) (v1 : Int32) (v2 : Int32) : Option Int32 :=
  if (X.1 69 0) ≤ v2 then (some v1) else ((f_X11_placeOf N X a1 v2).bind (fun v3 => if ¬ v3 = a2 then (rc5_1 (v1 + (0 : Int32)) (v2 + (1 : Int32))) else (rc5_1 (v1 + (1 : Int32)) (v2 + (1 : Int32)))))
def f_X11_manyIn (N : Nat) (X : zq_M) (a1 : Int32) (a2 : Int32) : Option Int32 :=
  zq_loop (fun _ _ => none) (b_X11_manyIn_5 N X a1 a2) N (0 : Int32) (0 : Int32)
set_option maxRecDepth 20000 in
set_option maxHeartbeats 8000000 in
theorem s_X11_manyIn (G : zq_G) (N z : Nat) (X : zq_M) (a1 : Int32) (a2 : Int32) : zq_V G YX11_manyIn (2, 0, 0) (zq_ei zq_shM z X) 0 0 0 (lv_args 0 [.ref (zq_ad G 69), .int a1, .int a2]) [] zq_shM z X (f_X11_manyIn N X a1 a2) := by
  unfold f_X11_manyIn
  refine zr_lo (l2 := [(0, .ref (zq_ad G 69)), (1, .int a1), (2, .int a2)]) [0, 1, 2] rfl ?_
  refine zr_iconst (pc := 0) (zq_d eX11_manyIn 0 rfl) zc_i0 ?_
  refine zr_istore_n (pc := 1) (lo2 := [(3, .int (0 : Int32)), (0, .ref (zq_ad G 69)), (1, .int a1), (2, .int a2)]) (zq_d eX11_manyIn 1 rfl) rfl (Nat.le_of_ble_eq_true rfl) rfl ?_
  refine zr_iconst (pc := 2) (zq_d eX11_manyIn 2 rfl) zc_i0 ?_
  refine zr_istore (pc := 3) (lo2 := [(4, .int (0 : Int32)), (3, .int (0 : Int32)), (0, .ref (zq_ad G 69)), (1, .int a1), (2, .int a2)]) (zq_d eX11_manyIn 3 rfl) (Nat.le_of_ble_eq_true rfl) rfl ?_
  have hbrc5_1 : ∀ rc5_1 : Int32 → Int32 → Option Int32, (∀ (v1 : Int32) (v2 : Int32), zq_V G YX11_manyIn (2, 0, 0) (zq_ei zq_shM z X) 0 0 5 [(0, .ref (zq_ad G 69)), (1, .int a1), (2, .int a2), (3, .int v1), (4, .int v2)] [] zq_shM z X (rc5_1 v1 v2)) → ∀ (v1 : Int32) (v2 : Int32), zq_V G YX11_manyIn (2, 0, 0) (zq_ei zq_shM z X) 0 0 5 [(0, .ref (zq_ad G 69)), (1, .int a1), (2, .int a2), (3, .int v1), (4, .int v2)] [] zq_shM z X (b_X11_manyIn_5 N X a1 a2 rc5_1 v1 v2) := by
    intro rc5_1 hrc5_1 v1 v2
    unfold b_X11_manyIn_5
    refine zr_iload (pc := 5) (zq_d eX11_manyIn 4 rfl) 4 rfl ?_
    refine zr_aload_n (pc := 7) (zq_d eX11_manyIn 5 rfl) 0 rfl rfl ?_
    refine zr_getI (pc := 8) (zq_d eX11_manyIn 6 rfl) zf_RX11_7 km_69_0 ?_
    refine zr_icmp_ge (pc := 11) 39 (zq_d eX11_manyIn 7 rfl) (by decide) (fun _ => ?_) (fun _ => ?_)
    · refine zr_iload_n (pc := 39) (zq_d eX11_manyIn 22 rfl) 3 rfl rfl ?_
      exact zr_ireturn (pc := 40) (zq_d eX11_manyIn 23 rfl) rfl rfl (Nat.zero_le _) (Nat.zero_le _)
    · refine zr_iload_n (pc := 14) (zq_d eX11_manyIn 8 rfl) 3 rfl rfl ?_
      refine zr_aload_n (pc := 15) (zq_d eX11_manyIn 9 rfl) 0 rfl rfl ?_
      refine zr_iload_n (pc := 16) (zq_d eX11_manyIn 10 rfl) 1 rfl rfl ?_
      refine zr_iload (pc := 17) (zq_d eX11_manyIn 11 rfl) 4 rfl ?_
      refine zr_Vi (pc := 19) [_, _] (zq_d eX11_manyIn 12 rfl) (s_X11_placeOf G N z X _ _) zd_X11_placeOf zl_RX11_221 om_69 rfl rfl rfl rfl (Nat.le_of_ble_eq_true rfl) (Nat.le_of_ble_eq_true rfl) (Nat.le_of_ble_eq_true rfl) ⟨Nat.le_refl _, Nat.le_refl _⟩ (fun v3 => ?_)
      refine zr_iload_n (pc := 22) (zq_d eX11_manyIn 13 rfl) 2 rfl rfl ?_
      refine zr_icmp_ne (pc := 23) 30 (zq_d eX11_manyIn 14 rfl) (by decide) (fun _ => ?_) (fun _ => ?_)
      · refine zr_iconst (pc := 30) (zq_d eX11_manyIn 17 rfl) zc_i0 ?_
        refine zr_iadd (pc := 31) (zq_d eX11_manyIn 18 rfl) ?_
        refine zr_istore_n (pc := 32) (lo2 := [(3, .int (v1 + (0 : Int32))), (0, .ref (zq_ad G 69)), (1, .int a1), (2, .int a2), (4, .int v2)]) (zq_d eX11_manyIn 19 rfl) rfl (Nat.le_of_ble_eq_true rfl) rfl ?_
        refine zr_iinc (pc := 33) (j := 4) (v := (v2 + (1 : Int32))) (lo2 := [(4, .int (v2 + (1 : Int32))), (3, .int (v1 + (0 : Int32))), (0, .ref (zq_ad G 69)), (1, .int a1), (2, .int a2)]) (zq_d eX11_manyIn 20 rfl) rfl (by rw [zc_i1]) (Nat.le_of_ble_eq_true rfl) rfl ?_
        refine zr_goto (pc := 36) 5 (zq_d eX11_manyIn 21 rfl) (by decide) ?_
        exact zr_lo [2, 3, 4, 1, 0] rfl (hrc5_1 (v1 + (0 : Int32)) (v2 + (1 : Int32)))
      · refine zr_iconst (pc := 26) (zq_d eX11_manyIn 15 rfl) zc_i1 ?_
        refine zr_goto (pc := 27) 31 (zq_d eX11_manyIn 16 rfl) (by decide) ?_
        refine zr_iadd (pc := 31) (zq_d eX11_manyIn 18 rfl) ?_
        refine zr_istore_n (pc := 32) (lo2 := [(3, .int (v1 + (1 : Int32))), (0, .ref (zq_ad G 69)), (1, .int a1), (2, .int a2), (4, .int v2)]) (zq_d eX11_manyIn 19 rfl) rfl (Nat.le_of_ble_eq_true rfl) rfl ?_
        refine zr_iinc (pc := 33) (j := 4) (v := (v2 + (1 : Int32))) (lo2 := [(4, .int (v2 + (1 : Int32))), (3, .int (v1 + (1 : Int32))), (0, .ref (zq_ad G 69)), (1, .int a1), (2, .int a2)]) (zq_d eX11_manyIn 20 rfl) rfl (by rw [zc_i1]) (Nat.le_of_ble_eq_true rfl) rfl ?_
        refine zr_goto (pc := 36) 5 (zq_d eX11_manyIn 21 rfl) (by decide) ?_
        exact zr_lo [2, 3, 4, 1, 0] rfl (hrc5_1 (v1 + (1 : Int32)) (v2 + (1 : Int32)))
  have hlrc5_1 := zr_loop (P := fun (rc5_1 : Int32 → Int32 → Option Int32) => ∀ (v1 : Int32) (v2 : Int32), zq_V G YX11_manyIn (2, 0, 0) (zq_ei zq_shM z X) 0 0 5 [(0, .ref (zq_ad G 69)), (1, .int a1), (2, .int a2), (3, .int v1), (4, .int v2)] [] zq_shM z X (rc5_1 v1 v2)) (fun _ _ => none) (b_X11_manyIn_5 N X a1 a2) (fun _ _ => zr_none) hbrc5_1 N
  exact zr_lo [2, 3, 4, 1, 0] rfl (hlrc5_1 (0 : Int32) (0 : Int32))
def f_X11_person (N : Nat) (X : zq_M) (a1 : Int32) (a2 : Int32) (a3 : Int32) : Option (Int32 × zq_M) :=
  (f_X11_within N X a1 (0 : Int32) (99 : Int32)).bind (fun v1 => if v1 = 0 then (some ((-2 : Int32), X)) else ((f_X11_within N X a2 (0 : Int32) (99 : Int32)).bind (fun v2 => if ¬ v2 = 0 then ((f_X11_isPlace N X a3).bind (fun v3 => if ¬ v3 = 0 then (if ¬ (X.1 69 0) = (5 : Int32) then (zq_ck (X.1 69 0) 5 (zq_b (zq_u1 X 70 (zq_ix (X.1 69 0)) a1) (fun X4 => zq_ck (X.1 69 0) 5 (zq_b (zq_u1 X4 71 (zq_ix (X.1 69 0)) a2) (fun X5 => zq_ck (X.1 69 0) 5 (zq_b (zq_u1 X5 72 (zq_ix (X.1 69 0)) (0 : Int32)) (fun X6 => (f_X11_moved N X6 (X6.1 69 1) (X.1 69 0) a3).bind (fun v7 => zq_b (zq_u1 X6 69 1 v7) (fun X8 => zq_b (zq_u1 X8 69 0 ((X8.1 69 0) + (1 : Int32))) (fun X9 => some ((X.1 69 0), X9))))))))))) else (some ((-4 : Int32), X))) else (some ((-1 : Int32), X)))) else (some ((-2 : Int32), X)))))
set_option maxRecDepth 20000 in
set_option maxHeartbeats 8000000 in
theorem s_X11_person (G : zq_G) (N z : Nat) (X : zq_M) (a1 : Int32) (a2 : Int32) (a3 : Int32) : zq_V G YX11_person (3, 0, 0) (zq_si zq_shM z) 0 0 0 (lv_args 0 [.ref (zq_ad G 69), .int a1, .int a2, .int a3]) [] zq_shM z X (f_X11_person N X a1 a2 a3) := by
  unfold f_X11_person
  refine zr_lo (l2 := [(0, .ref (zq_ad G 69)), (1, .int a1), (2, .int a2), (3, .int a3)]) [0, 1, 2, 3] rfl ?_
  refine zr_aload_n (pc := 0) (zq_d eX11_person 0 rfl) 0 rfl rfl ?_
  refine zr_iload_n (pc := 1) (zq_d eX11_person 1 rfl) 1 rfl rfl ?_
  refine zr_iconst (pc := 2) (zq_d eX11_person 2 rfl) zc_i0 ?_
  refine zr_bipush (pc := 3) (zq_d eX11_person 3 rfl) zc_b99 ?_
  refine zr_Vi (pc := 5) [_, _, _] (zq_d eX11_person 4 rfl) (s_X11_within G N z X _ _ _) zd_X11_within zl_RX11_217 om_69 rfl rfl rfl rfl (Nat.le_of_ble_eq_true rfl) (Nat.le_of_ble_eq_true rfl) (Nat.le_of_ble_eq_true rfl) ⟨Nat.le_refl _, Nat.le_refl _⟩ (fun v1 => ?_)
  refine zr_if_eq (pc := 8) 22 (zq_d eX11_person 5 rfl) (by decide) (fun _ => ?_) (fun _ => ?_)
  · refine zr_bipush (pc := 22) (zq_d eX11_person 12 rfl) zc_bm2 ?_
    exact zr_ireturn (pc := 24) (zq_d eX11_person 13 rfl) rfl rfl (Nat.zero_le _) (Nat.zero_le _)
  · refine zr_aload_n (pc := 11) (zq_d eX11_person 6 rfl) 0 rfl rfl ?_
    refine zr_iload_n (pc := 12) (zq_d eX11_person 7 rfl) 2 rfl rfl ?_
    refine zr_iconst (pc := 13) (zq_d eX11_person 8 rfl) zc_i0 ?_
    refine zr_bipush (pc := 14) (zq_d eX11_person 9 rfl) zc_b99 ?_
    refine zr_Vi (pc := 16) [_, _, _] (zq_d eX11_person 10 rfl) (s_X11_within G N z X _ _ _) zd_X11_within zl_RX11_217 om_69 rfl rfl rfl rfl (Nat.le_of_ble_eq_true rfl) (Nat.le_of_ble_eq_true rfl) (Nat.le_of_ble_eq_true rfl) ⟨Nat.le_refl _, Nat.le_refl _⟩ (fun v2 => ?_)
    refine zr_if_ne (pc := 19) 25 (zq_d eX11_person 11 rfl) (by decide) (fun _ => ?_) (fun _ => ?_)
    · refine zr_aload_n (pc := 25) (zq_d eX11_person 14 rfl) 0 rfl rfl ?_
      refine zr_iload_n (pc := 26) (zq_d eX11_person 15 rfl) 3 rfl rfl ?_
      refine zr_Vi (pc := 27) [_] (zq_d eX11_person 16 rfl) (s_X11_isPlace G N z X _) zd_X11_isPlace zl_RX11_225 om_69 rfl rfl rfl rfl (Nat.le_of_ble_eq_true rfl) (Nat.le_of_ble_eq_true rfl) (Nat.le_of_ble_eq_true rfl) ⟨Nat.le_refl _, Nat.le_refl _⟩ (fun v3 => ?_)
      refine zr_if_ne (pc := 30) 35 (zq_d eX11_person 17 rfl) (by decide) (fun _ => ?_) (fun _ => ?_)
      · refine zr_aload_n (pc := 35) (zq_d eX11_person 20 rfl) 0 rfl rfl ?_
        refine zr_getI (pc := 36) (zq_d eX11_person 21 rfl) zf_RX11_7 km_69_0 ?_
        refine zr_iconst (pc := 39) (zq_d eX11_person 22 rfl) zc_i5 ?_
        refine zr_icmp_ne (pc := 40) 46 (zq_d eX11_person 23 rfl) (by decide) (fun _ => ?_) (fun _ => ?_)
        · refine zr_aload_n (pc := 46) (zq_d eX11_person 26 rfl) 0 rfl rfl ?_
          refine zr_getI (pc := 47) (zq_d eX11_person 27 rfl) zf_RX11_7 km_69_0 ?_
          refine zr_istore (pc := 50) (lo2 := [(4, .int (X.1 69 0)), (0, .ref (zq_ad G 69)), (1, .int a1), (2, .int a2), (3, .int a3)]) (zq_d eX11_person 28 rfl) (Nat.le_of_ble_eq_true rfl) rfl ?_
          refine zr_aload_n (pc := 52) (zq_d eX11_person 29 rfl) 1 rfl rfl ?_
          refine zr_getC (pc := 53) (zq_d eX11_person 30 rfl) zf_RX11_22 km_69_4 ?_
          refine zr_iload (pc := 56) (zq_d eX11_person 31 rfl) 0 rfl ?_
          refine zr_iload_n (pc := 58) (zq_d eX11_person 32 rfl) 2 rfl rfl ?_
          refine zr_iast (pc := 59) (zq_d eX11_person 33 rfl) am_70 (fun X4 => ?_)
          refine zr_aload_n (pc := 60) (zq_d eX11_person 34 rfl) 1 rfl rfl ?_
          refine zr_getC (pc := 61) (zq_d eX11_person 35 rfl) zf_RX11_26 km_69_5 ?_
          refine zr_iload (pc := 64) (zq_d eX11_person 36 rfl) 0 rfl ?_
          refine zr_iload_n (pc := 66) (zq_d eX11_person 37 rfl) 3 rfl rfl ?_
          refine zr_iast (pc := 67) (zq_d eX11_person 38 rfl) am_71 (fun X5 => ?_)
          refine zr_aload_n (pc := 68) (zq_d eX11_person 39 rfl) 1 rfl rfl ?_
          refine zr_getC (pc := 69) (zq_d eX11_person 40 rfl) zf_RX11_29 km_69_6 ?_
          refine zr_iload (pc := 72) (zq_d eX11_person 41 rfl) 0 rfl ?_
          refine zr_iconst (pc := 74) (zq_d eX11_person 42 rfl) zc_i0 ?_
          refine zr_iast (pc := 75) (zq_d eX11_person 43 rfl) am_72 (fun X6 => ?_)
          refine zr_aload_n (pc := 76) (zq_d eX11_person 44 rfl) 1 rfl rfl ?_
          refine zr_aload_n (pc := 77) (zq_d eX11_person 45 rfl) 1 rfl rfl ?_
          refine zr_aload_n (pc := 78) (zq_d eX11_person 46 rfl) 1 rfl rfl ?_
          refine zr_getI (pc := 79) (zq_d eX11_person 47 rfl) zf_RX11_13 km_69_1 ?_
          refine zr_iload (pc := 82) (zq_d eX11_person 48 rfl) 0 rfl ?_
          refine zr_iload_n (pc := 84) (zq_d eX11_person 49 rfl) 4 rfl rfl ?_
          refine zr_Vi (pc := 85) [_, _, _] (zq_d eX11_person 50 rfl) (s_X11_moved G N z X6 _ _ _) zd_X11_moved zl_RX11_229 om_69 rfl rfl rfl rfl (Nat.le_of_ble_eq_true rfl) (Nat.le_of_ble_eq_true rfl) (Nat.le_of_ble_eq_true rfl) ⟨Nat.le_refl _, Nat.le_refl _⟩ (fun v7 => ?_)
          refine zr_putI (pc := 88) (zq_d eX11_person 51 rfl) zf_RX11_13 km_69_1 zn_11_1 (fun X8 => ?_)
          refine zr_aload_n (pc := 91) (zq_d eX11_person 52 rfl) 1 rfl rfl ?_
          refine zr_dup (pc := 92) (zq_d eX11_person 53 rfl) rfl ?_
          refine zr_getI (pc := 93) (zq_d eX11_person 54 rfl) zf_RX11_7 km_69_0 ?_
          refine zr_iconst (pc := 96) (zq_d eX11_person 55 rfl) zc_i1 ?_
          refine zr_iadd (pc := 97) (zq_d eX11_person 56 rfl) ?_
          refine zr_putI (pc := 98) (zq_d eX11_person 57 rfl) zf_RX11_7 km_69_0 zn_11_0 (fun X9 => ?_)
          refine zr_iload (pc := 101) (zq_d eX11_person 58 rfl) 0 rfl ?_
          exact zr_ireturn (pc := 103) (zq_d eX11_person 59 rfl) rfl rfl (Nat.zero_le _) (Nat.zero_le _)
        · refine zr_bipush (pc := 43) (zq_d eX11_person 24 rfl) zc_bm4 ?_
          exact zr_ireturn (pc := 45) (zq_d eX11_person 25 rfl) rfl rfl (Nat.zero_le _) (Nat.zero_le _)
      · refine zr_iconst (pc := 33) (zq_d eX11_person 18 rfl) zc_im1 ?_
        exact zr_ireturn (pc := 34) (zq_d eX11_person 19 rfl) rfl rfl (Nat.zero_le _) (Nat.zero_le _)
    · refine zr_bipush (pc := 22) (zq_d eX11_person 12 rfl) zc_bm2 ?_
      exact zr_ireturn (pc := 24) (zq_d eX11_person 13 rfl) rfl rfl (Nat.zero_le _) (Nat.zero_le _)
def f_X11_measure (N : Nat) (X : zq_M) (a1 : Int32) (a2 : Int32) : Option Int32 :=
  zq_ck a1 3 (if (X.1 73 (zq_ix a1)) = (3 : Int32) then (zq_ck a2 5 (some (X.1 71 (zq_ix a2)))) else (zq_ck a1 3 (if ¬ (X.1 73 (zq_ix a1)) = (6 : Int32) then (zq_ck a2 5 (some (X.1 70 (zq_ix a2)))) else (zq_ck a2 5 (some (X.1 71 (zq_ix a2)))))))
set_option maxRecDepth 20000 in
set_option maxHeartbeats 8000000 in
theorem s_X11_measure (G : zq_G) (N z : Nat) (X : zq_M) (a1 : Int32) (a2 : Int32) : zq_V G YX11_measure (1, 0, 0) (zq_ei zq_shM z X) 0 0 0 (lv_args 0 [.ref (zq_ad G 69), .int a1, .int a2]) [] zq_shM z X (f_X11_measure N X a1 a2) := by
  unfold f_X11_measure
  refine zr_lo (l2 := [(0, .ref (zq_ad G 69)), (1, .int a1), (2, .int a2)]) [0, 1, 2] rfl ?_
  refine zr_aload_n (pc := 0) (zq_d eX11_measure 0 rfl) 0 rfl rfl ?_
  refine zr_getC (pc := 1) (zq_d eX11_measure 1 rfl) zf_RX11_32 km_69_7 ?_
  refine zr_iload_n (pc := 4) (zq_d eX11_measure 2 rfl) 1 rfl rfl ?_
  refine zr_iald (pc := 5) (zq_d eX11_measure 3 rfl) am_73 ?_
  refine zr_iconst (pc := 6) (zq_d eX11_measure 4 rfl) zc_i3 ?_
  refine zr_icmp_eq (pc := 7) 21 (zq_d eX11_measure 5 rfl) (by decide) (fun _ => ?_) (fun _ => ?_)
  · refine zr_aload_n (pc := 21) (zq_d eX11_measure 12 rfl) 0 rfl rfl ?_
    refine zr_getC (pc := 22) (zq_d eX11_measure 13 rfl) zf_RX11_26 km_69_5 ?_
    refine zr_iload_n (pc := 25) (zq_d eX11_measure 14 rfl) 2 rfl rfl ?_
    refine zr_iald (pc := 26) (zq_d eX11_measure 15 rfl) am_71 ?_
    refine zr_goto (pc := 27) 36 (zq_d eX11_measure 16 rfl) (by decide) ?_
    exact zr_ireturn (pc := 36) (zq_d eX11_measure 21 rfl) rfl rfl (Nat.zero_le _) (Nat.zero_le _)
  · refine zr_aload_n (pc := 10) (zq_d eX11_measure 6 rfl) 0 rfl rfl ?_
    refine zr_getC (pc := 11) (zq_d eX11_measure 7 rfl) zf_RX11_32 km_69_7 ?_
    refine zr_iload_n (pc := 14) (zq_d eX11_measure 8 rfl) 1 rfl rfl ?_
    refine zr_iald (pc := 15) (zq_d eX11_measure 9 rfl) am_73 ?_
    refine zr_bipush (pc := 16) (zq_d eX11_measure 10 rfl) zc_b6 ?_
    refine zr_icmp_ne (pc := 18) 30 (zq_d eX11_measure 11 rfl) (by decide) (fun _ => ?_) (fun _ => ?_)
    · refine zr_aload_n (pc := 30) (zq_d eX11_measure 17 rfl) 0 rfl rfl ?_
      refine zr_getC (pc := 31) (zq_d eX11_measure 18 rfl) zf_RX11_22 km_69_4 ?_
      refine zr_iload_n (pc := 34) (zq_d eX11_measure 19 rfl) 2 rfl rfl ?_
      refine zr_iald (pc := 35) (zq_d eX11_measure 20 rfl) am_70 ?_
      exact zr_ireturn (pc := 36) (zq_d eX11_measure 21 rfl) rfl rfl (Nat.zero_le _) (Nat.zero_le _)
    · refine zr_aload_n (pc := 21) (zq_d eX11_measure 12 rfl) 0 rfl rfl ?_
      refine zr_getC (pc := 22) (zq_d eX11_measure 13 rfl) zf_RX11_26 km_69_5 ?_
      refine zr_iload_n (pc := 25) (zq_d eX11_measure 14 rfl) 2 rfl rfl ?_
      refine zr_iald (pc := 26) (zq_d eX11_measure 15 rfl) am_71 ?_
      refine zr_goto (pc := 27) 36 (zq_d eX11_measure 16 rfl) (by decide) ?_
      exact zr_ireturn (pc := 36) (zq_d eX11_measure 21 rfl) rfl rfl (Nat.zero_le _) (Nat.zero_le _)
def b_X11_placeInLine_6 (N : Nat) (X : zq_M) (a1 : Int32) (a2 : Int32) (a3 : Int32) (rc6_1 : Int32 → Int32 → Option Int32) (v1 : Int32) (v2 : Int32) : Option Int32 :=
  if (X.1 69 0) ≤ v2 then (some v1) else (if v2 = a3 then (rc6_1 v1 (v2 + (1 : Int32))) else ((f_X11_placeOf N X a1 v2).bind (fun v3 => if v3 = a2 then ((f_X11_measure N X a2 v2).bind (fun v4 => (f_X11_measure N X a2 a3).bind (fun v5 => if (v4 - v5) < 0 then (rc6_1 (v1 + (1 : Int32)) (v2 + (1 : Int32))) else (if ¬ (v4 - v5) = 0 then (rc6_1 (v1 + (0 : Int32)) (v2 + (1 : Int32))) else (if a3 ≤ v2 then (rc6_1 (v1 + (0 : Int32)) (v2 + (1 : Int32))) else (rc6_1 (v1 + (1 : Int32)) (v2 + (1 : Int32)))))))) else (rc6_1 v1 (v2 + (1 : Int32))))))
def f_X11_placeInLine (N : Nat) (X : zq_M) (a1 : Int32) (a2 : Int32) (a3 : Int32) : Option Int32 :=
  zq_loop (fun _ _ => none) (b_X11_placeInLine_6 N X a1 a2 a3) N (0 : Int32) (0 : Int32)
set_option maxRecDepth 20000 in
set_option maxHeartbeats 8000000 in
theorem s_X11_placeInLine (G : zq_G) (N z : Nat) (X : zq_M) (a1 : Int32) (a2 : Int32) (a3 : Int32) : zq_V G YX11_placeInLine (2, 0, 0) (zq_ei zq_shM z X) 0 0 0 (lv_args 0 [.ref (zq_ad G 69), .int a1, .int a2, .int a3]) [] zq_shM z X (f_X11_placeInLine N X a1 a2 a3) := by
  unfold f_X11_placeInLine
  refine zr_lo (l2 := [(0, .ref (zq_ad G 69)), (1, .int a1), (2, .int a2), (3, .int a3)]) [0, 1, 2, 3] rfl ?_
  refine zr_iconst (pc := 0) (zq_d eX11_placeInLine 0 rfl) zc_i0 ?_
  refine zr_istore (pc := 1) (lo2 := [(4, .int (0 : Int32)), (0, .ref (zq_ad G 69)), (1, .int a1), (2, .int a2), (3, .int a3)]) (zq_d eX11_placeInLine 1 rfl) (Nat.le_of_ble_eq_true rfl) rfl ?_
  refine zr_iconst (pc := 3) (zq_d eX11_placeInLine 2 rfl) zc_i0 ?_
  refine zr_istore (pc := 4) (lo2 := [(5, .int (0 : Int32)), (4, .int (0 : Int32)), (0, .ref (zq_ad G 69)), (1, .int a1), (2, .int a2), (3, .int a3)]) (zq_d eX11_placeInLine 3 rfl) (Nat.le_of_ble_eq_true rfl) rfl ?_
  have hbrc6_1 : ∀ rc6_1 : Int32 → Int32 → Option Int32, (∀ (v1 : Int32) (v2 : Int32), zq_V G YX11_placeInLine (2, 0, 0) (zq_ei zq_shM z X) 0 0 6 [(0, .ref (zq_ad G 69)), (1, .int a1), (2, .int a2), (3, .int a3), (4, .int v1), (5, .int v2)] [] zq_shM z X (rc6_1 v1 v2)) → ∀ (v1 : Int32) (v2 : Int32), zq_V G YX11_placeInLine (2, 0, 0) (zq_ei zq_shM z X) 0 0 6 [(0, .ref (zq_ad G 69)), (1, .int a1), (2, .int a2), (3, .int a3), (4, .int v1), (5, .int v2)] [] zq_shM z X (b_X11_placeInLine_6 N X a1 a2 a3 rc6_1 v1 v2) := by
    intro rc6_1 hrc6_1 v1 v2
    unfold b_X11_placeInLine_6
    refine zr_iload (pc := 6) (zq_d eX11_placeInLine 4 rfl) 5 rfl ?_
    refine zr_aload_n (pc := 8) (zq_d eX11_placeInLine 5 rfl) 0 rfl rfl ?_
    refine zr_getI (pc := 9) (zq_d eX11_placeInLine 6 rfl) zf_RX11_7 km_69_0 ?_
    refine zr_icmp_ge (pc := 12) 83 (zq_d eX11_placeInLine 7 rfl) (by decide) (fun _ => ?_) (fun _ => ?_)
    · refine zr_iload (pc := 83) (zq_d eX11_placeInLine 43 rfl) 4 rfl ?_
      exact zr_ireturn (pc := 85) (zq_d eX11_placeInLine 44 rfl) rfl rfl (Nat.zero_le _) (Nat.zero_le _)
    · refine zr_iload (pc := 15) (zq_d eX11_placeInLine 8 rfl) 5 rfl ?_
      refine zr_iload_n (pc := 17) (zq_d eX11_placeInLine 9 rfl) 3 rfl rfl ?_
      refine zr_icmp_eq (pc := 18) 77 (zq_d eX11_placeInLine 10 rfl) (by decide) (fun _ => ?_) (fun _ => ?_)
      · refine zr_iinc (pc := 77) (j := 5) (v := (v2 + (1 : Int32))) (lo2 := [(5, .int (v2 + (1 : Int32))), (0, .ref (zq_ad G 69)), (1, .int a1), (2, .int a2), (3, .int a3), (4, .int v1)]) (zq_d eX11_placeInLine 41 rfl) rfl (by rw [zc_i1]) (Nat.le_of_ble_eq_true rfl) rfl ?_
        refine zr_goto (pc := 80) 6 (zq_d eX11_placeInLine 42 rfl) (by decide) ?_
        exact zr_lo [1, 2, 3, 4, 5, 0] rfl (hrc6_1 v1 (v2 + (1 : Int32)))
      · refine zr_aload_n (pc := 21) (zq_d eX11_placeInLine 11 rfl) 0 rfl rfl ?_
        refine zr_iload_n (pc := 22) (zq_d eX11_placeInLine 12 rfl) 1 rfl rfl ?_
        refine zr_iload (pc := 23) (zq_d eX11_placeInLine 13 rfl) 5 rfl ?_
        refine zr_Vi (pc := 25) [_, _] (zq_d eX11_placeInLine 14 rfl) (s_X11_placeOf G N z X _ _) zd_X11_placeOf zl_RX11_221 om_69 rfl rfl rfl rfl (Nat.le_of_ble_eq_true rfl) (Nat.le_of_ble_eq_true rfl) (Nat.le_of_ble_eq_true rfl) ⟨Nat.le_refl _, Nat.le_refl _⟩ (fun v3 => ?_)
        refine zr_iload_n (pc := 28) (zq_d eX11_placeInLine 15 rfl) 2 rfl rfl ?_
        refine zr_icmp_eq (pc := 29) 35 (zq_d eX11_placeInLine 16 rfl) (by decide) (fun _ => ?_) (fun _ => ?_)
        · refine zr_aload_n (pc := 35) (zq_d eX11_placeInLine 18 rfl) 0 rfl rfl ?_
          refine zr_iload_n (pc := 36) (zq_d eX11_placeInLine 19 rfl) 2 rfl rfl ?_
          refine zr_iload (pc := 37) (zq_d eX11_placeInLine 20 rfl) 5 rfl ?_
          refine zr_Vi (pc := 39) [_, _] (zq_d eX11_placeInLine 21 rfl) (s_X11_measure G N z X _ _) zd_X11_measure zl_RX11_233 om_69 rfl rfl rfl rfl (Nat.le_of_ble_eq_true rfl) (Nat.le_of_ble_eq_true rfl) (Nat.le_of_ble_eq_true rfl) ⟨Nat.le_refl _, Nat.le_refl _⟩ (fun v4 => ?_)
          refine zr_aload_n (pc := 42) (zq_d eX11_placeInLine 22 rfl) 0 rfl rfl ?_
          refine zr_iload_n (pc := 43) (zq_d eX11_placeInLine 23 rfl) 2 rfl rfl ?_
          refine zr_iload_n (pc := 44) (zq_d eX11_placeInLine 24 rfl) 3 rfl rfl ?_
          refine zr_Vi (pc := 45) [_, _] (zq_d eX11_placeInLine 25 rfl) (s_X11_measure G N z X _ _) zd_X11_measure zl_RX11_233 om_69 rfl rfl rfl rfl (Nat.le_of_ble_eq_true rfl) (Nat.le_of_ble_eq_true rfl) (Nat.le_of_ble_eq_true rfl) ⟨Nat.le_refl _, Nat.le_refl _⟩ (fun v5 => ?_)
          refine zr_isub (pc := 48) (zq_d eX11_placeInLine 26 rfl) ?_
          refine zr_istore (pc := 49) (lo2 := [(6, .int (v4 - v5)), (0, .ref (zq_ad G 69)), (1, .int a1), (2, .int a2), (3, .int a3), (4, .int v1), (5, .int v2)]) (zq_d eX11_placeInLine 27 rfl) (Nat.le_of_ble_eq_true rfl) rfl ?_
          refine zr_iload (pc := 51) (zq_d eX11_placeInLine 28 rfl) 5 rfl ?_
          refine zr_iload (pc := 53) (zq_d eX11_placeInLine 29 rfl) 0 rfl ?_
          refine zr_if_lt (pc := 55) 69 (zq_d eX11_placeInLine 30 rfl) (by decide) (fun _ => ?_) (fun _ => ?_)
          · refine zr_iconst (pc := 69) (zq_d eX11_placeInLine 36 rfl) zc_i1 ?_
            refine zr_goto (pc := 70) 74 (zq_d eX11_placeInLine 37 rfl) (by decide) ?_
            refine zr_iadd (pc := 74) (zq_d eX11_placeInLine 39 rfl) ?_
            refine zr_istore (pc := 75) (lo2 := [(4, .int (v1 + (1 : Int32))), (6, .int (v4 - v5)), (0, .ref (zq_ad G 69)), (1, .int a1), (2, .int a2), (3, .int a3), (5, .int v2)]) (zq_d eX11_placeInLine 40 rfl) (Nat.le_of_ble_eq_true rfl) rfl ?_
            refine zr_iinc (pc := 77) (j := 6) (v := (v2 + (1 : Int32))) (lo2 := [(5, .int (v2 + (1 : Int32))), (4, .int (v1 + (1 : Int32))), (6, .int (v4 - v5)), (0, .ref (zq_ad G 69)), (1, .int a1), (2, .int a2), (3, .int a3)]) (zq_d eX11_placeInLine 41 rfl) rfl (by rw [zc_i1]) (Nat.le_of_ble_eq_true rfl) rfl ?_
            refine zr_goto (pc := 80) 6 (zq_d eX11_placeInLine 42 rfl) (by decide) ?_
            exact zr_lo [3, 4, 5, 6, 1, 0] rfl (hrc6_1 (v1 + (1 : Int32)) (v2 + (1 : Int32)))
          · refine zr_iload (pc := 58) (zq_d eX11_placeInLine 31 rfl) 0 rfl ?_
            refine zr_if_ne (pc := 60) 73 (zq_d eX11_placeInLine 32 rfl) (by decide) (fun _ => ?_) (fun _ => ?_)
            · refine zr_iconst (pc := 73) (zq_d eX11_placeInLine 38 rfl) zc_i0 ?_
              refine zr_iadd (pc := 74) (zq_d eX11_placeInLine 39 rfl) ?_
              refine zr_istore (pc := 75) (lo2 := [(4, .int (v1 + (0 : Int32))), (6, .int (v4 - v5)), (0, .ref (zq_ad G 69)), (1, .int a1), (2, .int a2), (3, .int a3), (5, .int v2)]) (zq_d eX11_placeInLine 40 rfl) (Nat.le_of_ble_eq_true rfl) rfl ?_
              refine zr_iinc (pc := 77) (j := 6) (v := (v2 + (1 : Int32))) (lo2 := [(5, .int (v2 + (1 : Int32))), (4, .int (v1 + (0 : Int32))), (6, .int (v4 - v5)), (0, .ref (zq_ad G 69)), (1, .int a1), (2, .int a2), (3, .int a3)]) (zq_d eX11_placeInLine 41 rfl) rfl (by rw [zc_i1]) (Nat.le_of_ble_eq_true rfl) rfl ?_
              refine zr_goto (pc := 80) 6 (zq_d eX11_placeInLine 42 rfl) (by decide) ?_
              exact zr_lo [3, 4, 5, 6, 1, 0] rfl (hrc6_1 (v1 + (0 : Int32)) (v2 + (1 : Int32)))
            · refine zr_iload (pc := 63) (zq_d eX11_placeInLine 33 rfl) 6 rfl ?_
              refine zr_iload_n (pc := 65) (zq_d eX11_placeInLine 34 rfl) 4 rfl rfl ?_
              refine zr_icmp_ge (pc := 66) 73 (zq_d eX11_placeInLine 35 rfl) (by decide) (fun _ => ?_) (fun _ => ?_)
              · refine zr_iconst (pc := 73) (zq_d eX11_placeInLine 38 rfl) zc_i0 ?_
                refine zr_iadd (pc := 74) (zq_d eX11_placeInLine 39 rfl) ?_
                refine zr_istore (pc := 75) (lo2 := [(4, .int (v1 + (0 : Int32))), (6, .int (v4 - v5)), (0, .ref (zq_ad G 69)), (1, .int a1), (2, .int a2), (3, .int a3), (5, .int v2)]) (zq_d eX11_placeInLine 40 rfl) (Nat.le_of_ble_eq_true rfl) rfl ?_
                refine zr_iinc (pc := 77) (j := 6) (v := (v2 + (1 : Int32))) (lo2 := [(5, .int (v2 + (1 : Int32))), (4, .int (v1 + (0 : Int32))), (6, .int (v4 - v5)), (0, .ref (zq_ad G 69)), (1, .int a1), (2, .int a2), (3, .int a3)]) (zq_d eX11_placeInLine 41 rfl) rfl (by rw [zc_i1]) (Nat.le_of_ble_eq_true rfl) rfl ?_
                refine zr_goto (pc := 80) 6 (zq_d eX11_placeInLine 42 rfl) (by decide) ?_
                exact zr_lo [3, 4, 5, 6, 1, 0] rfl (hrc6_1 (v1 + (0 : Int32)) (v2 + (1 : Int32)))
              · refine zr_iconst (pc := 69) (zq_d eX11_placeInLine 36 rfl) zc_i1 ?_
                refine zr_goto (pc := 70) 74 (zq_d eX11_placeInLine 37 rfl) (by decide) ?_
                refine zr_iadd (pc := 74) (zq_d eX11_placeInLine 39 rfl) ?_
                refine zr_istore (pc := 75) (lo2 := [(4, .int (v1 + (1 : Int32))), (6, .int (v4 - v5)), (0, .ref (zq_ad G 69)), (1, .int a1), (2, .int a2), (3, .int a3), (5, .int v2)]) (zq_d eX11_placeInLine 40 rfl) (Nat.le_of_ble_eq_true rfl) rfl ?_
                refine zr_iinc (pc := 77) (j := 6) (v := (v2 + (1 : Int32))) (lo2 := [(5, .int (v2 + (1 : Int32))), (4, .int (v1 + (1 : Int32))), (6, .int (v4 - v5)), (0, .ref (zq_ad G 69)), (1, .int a1), (2, .int a2), (3, .int a3)]) (zq_d eX11_placeInLine 41 rfl) rfl (by rw [zc_i1]) (Nat.le_of_ble_eq_true rfl) rfl ?_
                refine zr_goto (pc := 80) 6 (zq_d eX11_placeInLine 42 rfl) (by decide) ?_
                exact zr_lo [3, 4, 5, 6, 1, 0] rfl (hrc6_1 (v1 + (1 : Int32)) (v2 + (1 : Int32)))
        · refine zr_goto (pc := 32) 77 (zq_d eX11_placeInLine 17 rfl) (by decide) ?_
          refine zr_iinc (pc := 77) (j := 5) (v := (v2 + (1 : Int32))) (lo2 := [(5, .int (v2 + (1 : Int32))), (0, .ref (zq_ad G 69)), (1, .int a1), (2, .int a2), (3, .int a3), (4, .int v1)]) (zq_d eX11_placeInLine 41 rfl) rfl (by rw [zc_i1]) (Nat.le_of_ble_eq_true rfl) rfl ?_
          refine zr_goto (pc := 80) 6 (zq_d eX11_placeInLine 42 rfl) (by decide) ?_
          exact zr_lo [1, 2, 3, 4, 5, 0] rfl (hrc6_1 v1 (v2 + (1 : Int32)))
  have hlrc6_1 := zr_loop (P := fun (rc6_1 : Int32 → Int32 → Option Int32) => ∀ (v1 : Int32) (v2 : Int32), zq_V G YX11_placeInLine (2, 0, 0) (zq_ei zq_shM z X) 0 0 6 [(0, .ref (zq_ad G 69)), (1, .int a1), (2, .int a2), (3, .int a3), (4, .int v1), (5, .int v2)] [] zq_shM z X (rc6_1 v1 v2)) (fun _ _ => none) (b_X11_placeInLine_6 N X a1 a2 a3) (fun _ _ => zr_none) hbrc6_1 N
  exact zr_lo [2, 3, 4, 5, 1, 0] rfl (hlrc6_1 (0 : Int32) (0 : Int32))
def b_X11_hasLike_3 (N : Nat) (X : zq_M) (a1 : Int32) (a2 : Int32) (a3 : Int32) (a4 : Int32) (rc3_1 : Int32 → Option Int32) (v1 : Int32) : Option Int32 :=
  if (X.1 69 0) ≤ v1 then (some (0 : Int32)) else ((f_X11_measure N X a2 v1).bind (fun v2 => (f_X11_measure N X a2 a3).bind (fun v3 => if v1 = a3 then (rc3_1 (v1 + (1 : Int32))) else ((f_X11_placeOf N X a1 v1).bind (fun v4 => if ¬ v4 = a2 then (rc3_1 (v1 + (1 : Int32))) else ((f_X11_within N X (v2 - v3) (-a4) a4).bind (fun v5 => if v5 = 0 then (rc3_1 (v1 + (1 : Int32))) else (some (1 : Int32)))))))))
def f_X11_hasLike (N : Nat) (X : zq_M) (a1 : Int32) (a2 : Int32) (a3 : Int32) (a4 : Int32) : Option Int32 :=
  zq_loop (fun _ => none) (b_X11_hasLike_3 N X a1 a2 a3 a4) N (0 : Int32)
set_option maxRecDepth 20000 in
set_option maxHeartbeats 8000000 in
theorem s_X11_hasLike (G : zq_G) (N z : Nat) (X : zq_M) (a1 : Int32) (a2 : Int32) (a3 : Int32) (a4 : Int32) : zq_V G YX11_hasLike (2, 0, 0) (zq_ei zq_shM z X) 0 0 0 (lv_args 0 [.ref (zq_ad G 69), .int a1, .int a2, .int a3, .int a4]) [] zq_shM z X (f_X11_hasLike N X a1 a2 a3 a4) := by
  unfold f_X11_hasLike
  refine zr_lo (l2 := [(0, .ref (zq_ad G 69)), (1, .int a1), (2, .int a2), (3, .int a3), (4, .int a4)]) [0, 1, 2, 3, 4] rfl ?_
  refine zr_iconst (pc := 0) (zq_d eX11_hasLike 0 rfl) zc_i0 ?_
  refine zr_istore (pc := 1) (lo2 := [(5, .int (0 : Int32)), (0, .ref (zq_ad G 69)), (1, .int a1), (2, .int a2), (3, .int a3), (4, .int a4)]) (zq_d eX11_hasLike 1 rfl) (Nat.le_of_ble_eq_true rfl) rfl ?_
  have hbrc3_1 : ∀ rc3_1 : Int32 → Option Int32, (∀ (v1 : Int32), zq_V G YX11_hasLike (2, 0, 0) (zq_ei zq_shM z X) 0 0 3 [(0, .ref (zq_ad G 69)), (1, .int a1), (2, .int a2), (3, .int a3), (4, .int a4), (5, .int v1)] [] zq_shM z X (rc3_1 v1)) → ∀ (v1 : Int32), zq_V G YX11_hasLike (2, 0, 0) (zq_ei zq_shM z X) 0 0 3 [(0, .ref (zq_ad G 69)), (1, .int a1), (2, .int a2), (3, .int a3), (4, .int a4), (5, .int v1)] [] zq_shM z X (b_X11_hasLike_3 N X a1 a2 a3 a4 rc3_1 v1) := by
    intro rc3_1 hrc3_1 v1
    unfold b_X11_hasLike_3
    refine zr_iload (pc := 3) (zq_d eX11_hasLike 2 rfl) 5 rfl ?_
    refine zr_aload_n (pc := 5) (zq_d eX11_hasLike 3 rfl) 0 rfl rfl ?_
    refine zr_getI (pc := 6) (zq_d eX11_hasLike 4 rfl) zf_RX11_7 km_69_0 ?_
    refine zr_icmp_ge (pc := 9) 67 (zq_d eX11_hasLike 5 rfl) (by decide) (fun _ => ?_) (fun _ => ?_)
    · refine zr_iconst (pc := 67) (zq_d eX11_hasLike 36 rfl) zc_i0 ?_
      exact zr_zreturn (pc := 68) (zq_d eX11_hasLike 37 rfl) rfl rfl rfl (Nat.zero_le _) (Nat.zero_le _)
    · refine zr_aload_n (pc := 12) (zq_d eX11_hasLike 6 rfl) 0 rfl rfl ?_
      refine zr_iload_n (pc := 13) (zq_d eX11_hasLike 7 rfl) 2 rfl rfl ?_
      refine zr_iload (pc := 14) (zq_d eX11_hasLike 8 rfl) 5 rfl ?_
      refine zr_Vi (pc := 16) [_, _] (zq_d eX11_hasLike 9 rfl) (s_X11_measure G N z X _ _) zd_X11_measure zl_RX11_233 om_69 rfl rfl rfl rfl (Nat.le_of_ble_eq_true rfl) (Nat.le_of_ble_eq_true rfl) (Nat.le_of_ble_eq_true rfl) ⟨Nat.le_refl _, Nat.le_refl _⟩ (fun v2 => ?_)
      refine zr_aload_n (pc := 19) (zq_d eX11_hasLike 10 rfl) 0 rfl rfl ?_
      refine zr_iload_n (pc := 20) (zq_d eX11_hasLike 11 rfl) 2 rfl rfl ?_
      refine zr_iload_n (pc := 21) (zq_d eX11_hasLike 12 rfl) 3 rfl rfl ?_
      refine zr_Vi (pc := 22) [_, _] (zq_d eX11_hasLike 13 rfl) (s_X11_measure G N z X _ _) zd_X11_measure zl_RX11_233 om_69 rfl rfl rfl rfl (Nat.le_of_ble_eq_true rfl) (Nat.le_of_ble_eq_true rfl) (Nat.le_of_ble_eq_true rfl) ⟨Nat.le_refl _, Nat.le_refl _⟩ (fun v3 => ?_)
      refine zr_isub (pc := 25) (zq_d eX11_hasLike 14 rfl) ?_
      refine zr_istore (pc := 26) (lo2 := [(6, .int (v2 - v3)), (0, .ref (zq_ad G 69)), (1, .int a1), (2, .int a2), (3, .int a3), (4, .int a4), (5, .int v1)]) (zq_d eX11_hasLike 15 rfl) (Nat.le_of_ble_eq_true rfl) rfl ?_
      refine zr_iload (pc := 28) (zq_d eX11_hasLike 16 rfl) 6 rfl ?_
      refine zr_iload_n (pc := 30) (zq_d eX11_hasLike 17 rfl) 4 rfl rfl ?_
      refine zr_icmp_eq (pc := 31) 61 (zq_d eX11_hasLike 18 rfl) (by decide) (fun _ => ?_) (fun _ => ?_)
      · refine zr_iinc (pc := 61) (j := 6) (v := (v1 + (1 : Int32))) (lo2 := [(5, .int (v1 + (1 : Int32))), (6, .int (v2 - v3)), (0, .ref (zq_ad G 69)), (1, .int a1), (2, .int a2), (3, .int a3), (4, .int a4)]) (zq_d eX11_hasLike 34 rfl) rfl (by rw [zc_i1]) (Nat.le_of_ble_eq_true rfl) rfl ?_
        refine zr_goto (pc := 64) 3 (zq_d eX11_hasLike 35 rfl) (by decide) ?_
        exact zr_lo [2, 3, 4, 5, 6, 0] rfl (hrc3_1 (v1 + (1 : Int32)))
      · refine zr_aload_n (pc := 34) (zq_d eX11_hasLike 19 rfl) 1 rfl rfl ?_
        refine zr_iload_n (pc := 35) (zq_d eX11_hasLike 20 rfl) 2 rfl rfl ?_
        refine zr_iload (pc := 36) (zq_d eX11_hasLike 21 rfl) 6 rfl ?_
        refine zr_Vi (pc := 38) [_, _] (zq_d eX11_hasLike 22 rfl) (s_X11_placeOf G N z X _ _) zd_X11_placeOf zl_RX11_221 om_69 rfl rfl rfl rfl (Nat.le_of_ble_eq_true rfl) (Nat.le_of_ble_eq_true rfl) (Nat.le_of_ble_eq_true rfl) ⟨Nat.le_refl _, Nat.le_refl _⟩ (fun v4 => ?_)
        refine zr_iload_n (pc := 41) (zq_d eX11_hasLike 23 rfl) 3 rfl rfl ?_
        refine zr_icmp_ne (pc := 42) 61 (zq_d eX11_hasLike 24 rfl) (by decide) (fun _ => ?_) (fun _ => ?_)
        · refine zr_iinc (pc := 61) (j := 6) (v := (v1 + (1 : Int32))) (lo2 := [(5, .int (v1 + (1 : Int32))), (6, .int (v2 - v3)), (0, .ref (zq_ad G 69)), (1, .int a1), (2, .int a2), (3, .int a3), (4, .int a4)]) (zq_d eX11_hasLike 34 rfl) rfl (by rw [zc_i1]) (Nat.le_of_ble_eq_true rfl) rfl ?_
          refine zr_goto (pc := 64) 3 (zq_d eX11_hasLike 35 rfl) (by decide) ?_
          exact zr_lo [2, 3, 4, 5, 6, 0] rfl (hrc3_1 (v1 + (1 : Int32)))
        · refine zr_aload_n (pc := 45) (zq_d eX11_hasLike 25 rfl) 1 rfl rfl ?_
          refine zr_iload (pc := 46) (zq_d eX11_hasLike 26 rfl) 0 rfl ?_
          refine zr_iload (pc := 48) (zq_d eX11_hasLike 27 rfl) 5 rfl ?_
          refine zr_ineg (pc := 50) (zq_d eX11_hasLike 28 rfl) ?_
          refine zr_iload (pc := 51) (zq_d eX11_hasLike 29 rfl) 5 rfl ?_
          refine zr_Vi (pc := 53) [_, _, _] (zq_d eX11_hasLike 30 rfl) (s_X11_within G N z X _ _ _) zd_X11_within zl_RX11_217 om_69 rfl rfl rfl rfl (Nat.le_of_ble_eq_true rfl) (Nat.le_of_ble_eq_true rfl) (Nat.le_of_ble_eq_true rfl) ⟨Nat.le_refl _, Nat.le_refl _⟩ (fun v5 => ?_)
          refine zr_if_eq (pc := 56) 61 (zq_d eX11_hasLike 31 rfl) (by decide) (fun _ => ?_) (fun _ => ?_)
          · refine zr_iinc (pc := 61) (j := 6) (v := (v1 + (1 : Int32))) (lo2 := [(5, .int (v1 + (1 : Int32))), (6, .int (v2 - v3)), (0, .ref (zq_ad G 69)), (1, .int a1), (2, .int a2), (3, .int a3), (4, .int a4)]) (zq_d eX11_hasLike 34 rfl) rfl (by rw [zc_i1]) (Nat.le_of_ble_eq_true rfl) rfl ?_
            refine zr_goto (pc := 64) 3 (zq_d eX11_hasLike 35 rfl) (by decide) ?_
            exact zr_lo [2, 3, 4, 5, 6, 0] rfl (hrc3_1 (v1 + (1 : Int32)))
          · refine zr_iconst (pc := 59) (zq_d eX11_hasLike 32 rfl) zc_i1 ?_
            exact zr_zreturn (pc := 60) (zq_d eX11_hasLike 33 rfl) rfl rfl rfl (Nat.zero_le _) (Nat.zero_le _)
  have hlrc3_1 := zr_loop (P := fun (rc3_1 : Int32 → Option Int32) => ∀ (v1 : Int32), zq_V G YX11_hasLike (2, 0, 0) (zq_ei zq_shM z X) 0 0 3 [(0, .ref (zq_ad G 69)), (1, .int a1), (2, .int a2), (3, .int a3), (4, .int a4), (5, .int v1)] [] zq_shM z X (rc3_1 v1)) (fun _ => none) (b_X11_hasLike_3 N X a1 a2 a3 a4) (fun _ => zr_none) hbrc3_1 N
  exact zr_lo [1, 2, 3, 4, 5, 0] rfl (hlrc3_1 (0 : Int32))
def j_X11_isMiddle_176 (a2 : Int32) (a3 : Int32)  : Option Int32 :=
  if ¬ (zq_irem a3 (2 : Int32)) = (1 : Int32) then (some (0 : Int32)) else (if ¬ a2 = ((a3 - (1 : Int32)) / (2 : Int32)) then (some (0 : Int32)) else (some (1 : Int32)))
def f_X11_isMiddle (N : Nat) (X : zq_M) (a1 : Int32) (a2 : Int32) (a3 : Int32) (a4 : Int32) : Option Int32 :=
  zq_ck a1 3 (if (X.1 73 (zq_ix a1)) = (1 : Int32) then (if ¬ a2 = ((a3 - (1 : Int32)) / (2 : Int32)) then (some (0 : Int32)) else (some (1 : Int32))) else (if (X.1 73 (zq_ix a1)) = (2 : Int32) then (zq_ck a1 3 (if ¬ a2 = ((a3 - (1 : Int32)) - (X.1 74 (zq_ix a1))) then (some (0 : Int32)) else (some (1 : Int32)))) else (if (X.1 73 (zq_ix a1)) = (3 : Int32) then (j_X11_isMiddle_176 a2 a3) else (if (X.1 73 (zq_ix a1)) = (4 : Int32) then (if a2 = ((a3 - (1 : Int32)) / (2 : Int32)) then (some (1 : Int32)) else (if ¬ (zq_irem a3 (2 : Int32)) = 0 then (some (0 : Int32)) else (if ¬ a2 = (((a3 - (1 : Int32)) / (2 : Int32)) + (1 : Int32)) then (some (0 : Int32)) else (some (1 : Int32))))) else (if (X.1 73 (zq_ix a1)) = (5 : Int32) then (zq_ck a1 3 (zq_dv a3 (if ¬ a2 = (zq_irem (a4 + (X.1 74 (zq_ix a1))) a3) then (some (0 : Int32)) else (some (1 : Int32))))) else (if (X.1 73 (zq_ix a1)) = (6 : Int32) then (zq_ck a1 3 (if a3 ≤ (X.1 74 (zq_ix a1)) then (if ¬ (zq_irem a3 (2 : Int32)) = (1 : Int32) then (some (0 : Int32)) else (if ¬ a2 = ((a3 - (1 : Int32)) / (2 : Int32)) then (some (0 : Int32)) else (some (1 : Int32)))) else (if ¬ a2 = 0 then (some (0 : Int32)) else (some (1 : Int32))))) else (j_X11_isMiddle_176 a2 a3)))))))
set_option maxRecDepth 20000 in
set_option maxHeartbeats 8000000 in
theorem s_X11_isMiddle (G : zq_G) (N z : Nat) (X : zq_M) (a1 : Int32) (a2 : Int32) (a3 : Int32) (a4 : Int32) : zq_V G YX11_isMiddle (1, 0, 0) (zq_ei zq_shM z X) 0 0 0 (lv_args 0 [.ref (zq_ad G 69), .int a1, .int a2, .int a3, .int a4]) [] zq_shM z X (f_X11_isMiddle N X a1 a2 a3 a4) := by
  unfold f_X11_isMiddle
  refine zr_lo (l2 := [(0, .ref (zq_ad G 69)), (1, .int a1), (2, .int a2), (3, .int a3), (4, .int a4)]) [0, 1, 2, 3, 4] rfl ?_
  refine zr_aload_n (pc := 0) (zq_d eX11_isMiddle 0 rfl) 0 rfl rfl ?_
  refine zr_getC (pc := 1) (zq_d eX11_isMiddle 1 rfl) zf_RX11_32 km_69_7 ?_
  refine zr_iload_n (pc := 4) (zq_d eX11_isMiddle 2 rfl) 1 rfl rfl ?_
  refine zr_iald (pc := 5) (zq_d eX11_isMiddle 3 rfl) am_73 ?_
  have hj176_1 : zq_V G YX11_isMiddle (1, 0, 0) (zq_ei zq_shM z X) 0 0 176 [(2, .int a2), (3, .int a3)] [] zq_shM z X (j_X11_isMiddle_176 a2 a3) := by
    unfold j_X11_isMiddle_176
    refine zr_iload_n (pc := 176) (zq_d eX11_isMiddle 96 rfl) 1 rfl rfl ?_
    refine zr_iconst (pc := 177) (zq_d eX11_isMiddle 97 rfl) zc_i2 ?_
    refine zr_iremk (pc := 178) (zq_d eX11_isMiddle 98 rfl) (by decide) ?_
    refine zr_iconst (pc := 179) (zq_d eX11_isMiddle 99 rfl) zc_i1 ?_
    refine zr_icmp_ne (pc := 180) 196 (zq_d eX11_isMiddle 100 rfl) (by decide) (fun _ => ?_) (fun _ => ?_)
    · refine zr_iconst (pc := 196) (zq_d eX11_isMiddle 110 rfl) zc_i0 ?_
      exact zr_zreturn (pc := 197) (zq_d eX11_isMiddle 111 rfl) rfl rfl rfl (Nat.zero_le _) (Nat.zero_le _)
    · refine zr_iload_n (pc := 183) (zq_d eX11_isMiddle 101 rfl) 0 rfl rfl ?_
      refine zr_iload_n (pc := 184) (zq_d eX11_isMiddle 102 rfl) 1 rfl rfl ?_
      refine zr_iconst (pc := 185) (zq_d eX11_isMiddle 103 rfl) zc_i1 ?_
      refine zr_isub (pc := 186) (zq_d eX11_isMiddle 104 rfl) ?_
      refine zr_iconst (pc := 187) (zq_d eX11_isMiddle 105 rfl) zc_i2 ?_
      refine zr_idivk (pc := 188) (zq_d eX11_isMiddle 106 rfl) (by decide) ?_
      refine zr_icmp_ne (pc := 189) 196 (zq_d eX11_isMiddle 107 rfl) (by decide) (fun _ => ?_) (fun _ => ?_)
      · refine zr_iconst (pc := 196) (zq_d eX11_isMiddle 110 rfl) zc_i0 ?_
        exact zr_zreturn (pc := 197) (zq_d eX11_isMiddle 111 rfl) rfl rfl rfl (Nat.zero_le _) (Nat.zero_le _)
      · refine zr_iconst (pc := 192) (zq_d eX11_isMiddle 108 rfl) zc_i1 ?_
        refine zr_goto (pc := 193) 197 (zq_d eX11_isMiddle 109 rfl) (by decide) ?_
        exact zr_zreturn (pc := 197) (zq_d eX11_isMiddle 111 rfl) rfl rfl rfl (Nat.zero_le _) (Nat.zero_le _)
  refine zr_cs (fun q2 => ?_) (fun q2 => ?_)
  · refine zr_tab (pc := 6) (n := 1) 44 (zq_d eX11_isMiddle 4 rfl) q2 (by decide) (by decide) (by decide) rfl (by decide) ?_
    refine zr_iload_n (pc := 44) (zq_d eX11_isMiddle 5 rfl) 2 rfl rfl ?_
    refine zr_iload_n (pc := 45) (zq_d eX11_isMiddle 6 rfl) 3 rfl rfl ?_
    refine zr_iconst (pc := 46) (zq_d eX11_isMiddle 7 rfl) zc_i1 ?_
    refine zr_isub (pc := 47) (zq_d eX11_isMiddle 8 rfl) ?_
    refine zr_iconst (pc := 48) (zq_d eX11_isMiddle 9 rfl) zc_i2 ?_
    refine zr_idivk (pc := 49) (zq_d eX11_isMiddle 10 rfl) (by decide) ?_
    refine zr_icmp_ne (pc := 50) 57 (zq_d eX11_isMiddle 11 rfl) (by decide) (fun _ => ?_) (fun _ => ?_)
    · refine zr_iconst (pc := 57) (zq_d eX11_isMiddle 14 rfl) zc_i0 ?_
      exact zr_zreturn (pc := 58) (zq_d eX11_isMiddle 15 rfl) rfl rfl rfl (Nat.zero_le _) (Nat.zero_le _)
    · refine zr_iconst (pc := 53) (zq_d eX11_isMiddle 12 rfl) zc_i1 ?_
      refine zr_goto (pc := 54) 58 (zq_d eX11_isMiddle 13 rfl) (by decide) ?_
      exact zr_zreturn (pc := 58) (zq_d eX11_isMiddle 15 rfl) rfl rfl rfl (Nat.zero_le _) (Nat.zero_le _)
  · refine zr_cs (fun q3 => ?_) (fun q3 => ?_)
    · refine zr_tab (pc := 6) (n := 2) 59 (zq_d eX11_isMiddle 4 rfl) q3 (by decide) (by decide) (by decide) rfl (by decide) ?_
      refine zr_iload_n (pc := 59) (zq_d eX11_isMiddle 16 rfl) 2 rfl rfl ?_
      refine zr_iload_n (pc := 60) (zq_d eX11_isMiddle 17 rfl) 3 rfl rfl ?_
      refine zr_iconst (pc := 61) (zq_d eX11_isMiddle 18 rfl) zc_i1 ?_
      refine zr_isub (pc := 62) (zq_d eX11_isMiddle 19 rfl) ?_
      refine zr_aload_n (pc := 63) (zq_d eX11_isMiddle 20 rfl) 0 rfl rfl ?_
      refine zr_getC (pc := 64) (zq_d eX11_isMiddle 21 rfl) zf_RX11_35 km_69_8 ?_
      refine zr_iload_n (pc := 67) (zq_d eX11_isMiddle 22 rfl) 1 rfl rfl ?_
      refine zr_iald (pc := 68) (zq_d eX11_isMiddle 23 rfl) am_74 ?_
      refine zr_isub (pc := 69) (zq_d eX11_isMiddle 24 rfl) ?_
      refine zr_icmp_ne (pc := 70) 77 (zq_d eX11_isMiddle 25 rfl) (by decide) (fun _ => ?_) (fun _ => ?_)
      · refine zr_iconst (pc := 77) (zq_d eX11_isMiddle 28 rfl) zc_i0 ?_
        exact zr_zreturn (pc := 78) (zq_d eX11_isMiddle 29 rfl) rfl rfl rfl (Nat.zero_le _) (Nat.zero_le _)
      · refine zr_iconst (pc := 73) (zq_d eX11_isMiddle 26 rfl) zc_i1 ?_
        refine zr_goto (pc := 74) 78 (zq_d eX11_isMiddle 27 rfl) (by decide) ?_
        exact zr_zreturn (pc := 78) (zq_d eX11_isMiddle 29 rfl) rfl rfl rfl (Nat.zero_le _) (Nat.zero_le _)
    · refine zr_cs (fun q4 => ?_) (fun q4 => ?_)
      · refine zr_tab (pc := 6) (n := 3) 176 (zq_d eX11_isMiddle 4 rfl) q4 (by decide) (by decide) (by decide) rfl (by decide) ?_
        exact zr_lo [2, 3] rfl (hj176_1)
      · refine zr_cs (fun q5 => ?_) (fun q5 => ?_)
        · refine zr_tab (pc := 6) (n := 4) 79 (zq_d eX11_isMiddle 4 rfl) q5 (by decide) (by decide) (by decide) rfl (by decide) ?_
          refine zr_iload_n (pc := 79) (zq_d eX11_isMiddle 30 rfl) 2 rfl rfl ?_
          refine zr_iload_n (pc := 80) (zq_d eX11_isMiddle 31 rfl) 3 rfl rfl ?_
          refine zr_iconst (pc := 81) (zq_d eX11_isMiddle 32 rfl) zc_i1 ?_
          refine zr_isub (pc := 82) (zq_d eX11_isMiddle 33 rfl) ?_
          refine zr_iconst (pc := 83) (zq_d eX11_isMiddle 34 rfl) zc_i2 ?_
          refine zr_idivk (pc := 84) (zq_d eX11_isMiddle 35 rfl) (by decide) ?_
          refine zr_icmp_eq (pc := 85) 105 (zq_d eX11_isMiddle 36 rfl) (by decide) (fun _ => ?_) (fun _ => ?_)
          · refine zr_iconst (pc := 105) (zq_d eX11_isMiddle 50 rfl) zc_i1 ?_
            refine zr_goto (pc := 106) 110 (zq_d eX11_isMiddle 51 rfl) (by decide) ?_
            exact zr_zreturn (pc := 110) (zq_d eX11_isMiddle 53 rfl) rfl rfl rfl (Nat.zero_le _) (Nat.zero_le _)
          · refine zr_iload_n (pc := 88) (zq_d eX11_isMiddle 37 rfl) 3 rfl rfl ?_
            refine zr_iconst (pc := 89) (zq_d eX11_isMiddle 38 rfl) zc_i2 ?_
            refine zr_iremk (pc := 90) (zq_d eX11_isMiddle 39 rfl) (by decide) ?_
            refine zr_if_ne (pc := 91) 109 (zq_d eX11_isMiddle 40 rfl) (by decide) (fun _ => ?_) (fun _ => ?_)
            · refine zr_iconst (pc := 109) (zq_d eX11_isMiddle 52 rfl) zc_i0 ?_
              exact zr_zreturn (pc := 110) (zq_d eX11_isMiddle 53 rfl) rfl rfl rfl (Nat.zero_le _) (Nat.zero_le _)
            · refine zr_iload_n (pc := 94) (zq_d eX11_isMiddle 41 rfl) 2 rfl rfl ?_
              refine zr_iload_n (pc := 95) (zq_d eX11_isMiddle 42 rfl) 3 rfl rfl ?_
              refine zr_iconst (pc := 96) (zq_d eX11_isMiddle 43 rfl) zc_i1 ?_
              refine zr_isub (pc := 97) (zq_d eX11_isMiddle 44 rfl) ?_
              refine zr_iconst (pc := 98) (zq_d eX11_isMiddle 45 rfl) zc_i2 ?_
              refine zr_idivk (pc := 99) (zq_d eX11_isMiddle 46 rfl) (by decide) ?_
              refine zr_iconst (pc := 100) (zq_d eX11_isMiddle 47 rfl) zc_i1 ?_
              refine zr_iadd (pc := 101) (zq_d eX11_isMiddle 48 rfl) ?_
              refine zr_icmp_ne (pc := 102) 109 (zq_d eX11_isMiddle 49 rfl) (by decide) (fun _ => ?_) (fun _ => ?_)
              · refine zr_iconst (pc := 109) (zq_d eX11_isMiddle 52 rfl) zc_i0 ?_
                exact zr_zreturn (pc := 110) (zq_d eX11_isMiddle 53 rfl) rfl rfl rfl (Nat.zero_le _) (Nat.zero_le _)
              · refine zr_iconst (pc := 105) (zq_d eX11_isMiddle 50 rfl) zc_i1 ?_
                refine zr_goto (pc := 106) 110 (zq_d eX11_isMiddle 51 rfl) (by decide) ?_
                exact zr_zreturn (pc := 110) (zq_d eX11_isMiddle 53 rfl) rfl rfl rfl (Nat.zero_le _) (Nat.zero_le _)
        · refine zr_cs (fun q6 => ?_) (fun q6 => ?_)
          · refine zr_tab (pc := 6) (n := 5) 111 (zq_d eX11_isMiddle 4 rfl) q6 (by decide) (by decide) (by decide) rfl (by decide) ?_
            refine zr_iload_n (pc := 111) (zq_d eX11_isMiddle 54 rfl) 2 rfl rfl ?_
            refine zr_iload (pc := 112) (zq_d eX11_isMiddle 55 rfl) 4 rfl ?_
            refine zr_aload_n (pc := 114) (zq_d eX11_isMiddle 56 rfl) 0 rfl rfl ?_
            refine zr_getC (pc := 115) (zq_d eX11_isMiddle 57 rfl) zf_RX11_35 km_69_8 ?_
            refine zr_iload_n (pc := 118) (zq_d eX11_isMiddle 58 rfl) 1 rfl rfl ?_
            refine zr_iald (pc := 119) (zq_d eX11_isMiddle 59 rfl) am_74 ?_
            refine zr_iadd (pc := 120) (zq_d eX11_isMiddle 60 rfl) ?_
            refine zr_iload_n (pc := 121) (zq_d eX11_isMiddle 61 rfl) 3 rfl rfl ?_
            refine zr_irem (pc := 122) (zq_d eX11_isMiddle 62 rfl) ?_
            refine zr_icmp_ne (pc := 123) 130 (zq_d eX11_isMiddle 63 rfl) (by decide) (fun _ => ?_) (fun _ => ?_)
            · refine zr_iconst (pc := 130) (zq_d eX11_isMiddle 66 rfl) zc_i0 ?_
              exact zr_zreturn (pc := 131) (zq_d eX11_isMiddle 67 rfl) rfl rfl rfl (Nat.zero_le _) (Nat.zero_le _)
            · refine zr_iconst (pc := 126) (zq_d eX11_isMiddle 64 rfl) zc_i1 ?_
              refine zr_goto (pc := 127) 131 (zq_d eX11_isMiddle 65 rfl) (by decide) ?_
              exact zr_zreturn (pc := 131) (zq_d eX11_isMiddle 67 rfl) rfl rfl rfl (Nat.zero_le _) (Nat.zero_le _)
          · refine zr_cs (fun q7 => ?_) (fun q7 => ?_)
            · refine zr_tab (pc := 6) (n := 6) 132 (zq_d eX11_isMiddle 4 rfl) q7 (by decide) (by decide) (by decide) rfl (by decide) ?_
              refine zr_iload_n (pc := 132) (zq_d eX11_isMiddle 68 rfl) 3 rfl rfl ?_
              refine zr_aload_n (pc := 133) (zq_d eX11_isMiddle 69 rfl) 0 rfl rfl ?_
              refine zr_getC (pc := 134) (zq_d eX11_isMiddle 70 rfl) zf_RX11_35 km_69_8 ?_
              refine zr_iload_n (pc := 137) (zq_d eX11_isMiddle 71 rfl) 1 rfl rfl ?_
              refine zr_iald (pc := 138) (zq_d eX11_isMiddle 72 rfl) am_74 ?_
              refine zr_icmp_le (pc := 139) 154 (zq_d eX11_isMiddle 73 rfl) (by decide) (fun _ => ?_) (fun _ => ?_)
              · refine zr_iload_n (pc := 154) (zq_d eX11_isMiddle 80 rfl) 3 rfl rfl ?_
                refine zr_iconst (pc := 155) (zq_d eX11_isMiddle 81 rfl) zc_i2 ?_
                refine zr_iremk (pc := 156) (zq_d eX11_isMiddle 82 rfl) (by decide) ?_
                refine zr_iconst (pc := 157) (zq_d eX11_isMiddle 83 rfl) zc_i1 ?_
                refine zr_icmp_ne (pc := 158) 174 (zq_d eX11_isMiddle 84 rfl) (by decide) (fun _ => ?_) (fun _ => ?_)
                · refine zr_iconst (pc := 174) (zq_d eX11_isMiddle 94 rfl) zc_i0 ?_
                  exact zr_zreturn (pc := 175) (zq_d eX11_isMiddle 95 rfl) rfl rfl rfl (Nat.zero_le _) (Nat.zero_le _)
                · refine zr_iload_n (pc := 161) (zq_d eX11_isMiddle 85 rfl) 2 rfl rfl ?_
                  refine zr_iload_n (pc := 162) (zq_d eX11_isMiddle 86 rfl) 3 rfl rfl ?_
                  refine zr_iconst (pc := 163) (zq_d eX11_isMiddle 87 rfl) zc_i1 ?_
                  refine zr_isub (pc := 164) (zq_d eX11_isMiddle 88 rfl) ?_
                  refine zr_iconst (pc := 165) (zq_d eX11_isMiddle 89 rfl) zc_i2 ?_
                  refine zr_idivk (pc := 166) (zq_d eX11_isMiddle 90 rfl) (by decide) ?_
                  refine zr_icmp_ne (pc := 167) 174 (zq_d eX11_isMiddle 91 rfl) (by decide) (fun _ => ?_) (fun _ => ?_)
                  · refine zr_iconst (pc := 174) (zq_d eX11_isMiddle 94 rfl) zc_i0 ?_
                    exact zr_zreturn (pc := 175) (zq_d eX11_isMiddle 95 rfl) rfl rfl rfl (Nat.zero_le _) (Nat.zero_le _)
                  · refine zr_iconst (pc := 170) (zq_d eX11_isMiddle 92 rfl) zc_i1 ?_
                    refine zr_goto (pc := 171) 175 (zq_d eX11_isMiddle 93 rfl) (by decide) ?_
                    exact zr_zreturn (pc := 175) (zq_d eX11_isMiddle 95 rfl) rfl rfl rfl (Nat.zero_le _) (Nat.zero_le _)
              · refine zr_iload_n (pc := 142) (zq_d eX11_isMiddle 74 rfl) 2 rfl rfl ?_
                refine zr_if_ne (pc := 143) 150 (zq_d eX11_isMiddle 75 rfl) (by decide) (fun _ => ?_) (fun _ => ?_)
                · refine zr_iconst (pc := 150) (zq_d eX11_isMiddle 78 rfl) zc_i0 ?_
                  refine zr_goto (pc := 151) 175 (zq_d eX11_isMiddle 79 rfl) (by decide) ?_
                  exact zr_zreturn (pc := 175) (zq_d eX11_isMiddle 95 rfl) rfl rfl rfl (Nat.zero_le _) (Nat.zero_le _)
                · refine zr_iconst (pc := 146) (zq_d eX11_isMiddle 76 rfl) zc_i1 ?_
                  refine zr_goto (pc := 147) 175 (zq_d eX11_isMiddle 77 rfl) (by decide) ?_
                  exact zr_zreturn (pc := 175) (zq_d eX11_isMiddle 95 rfl) rfl rfl rfl (Nat.zero_le _) (Nat.zero_le _)
            · refine zr_tabD (pc := 6) 176 (zq_d eX11_isMiddle 4 rfl) (by have t0 := zq_nt (n := 1) (by decide) q2; have t1 := zq_nt (n := 2) (by decide) q3; have t2 := zq_nt (n := 3) (by decide) q4; have t3 := zq_nt (n := 4) (by decide) q5; have t4 := zq_nt (n := 5) (by decide) q6; have t5 := zq_nt (n := 6) (by decide) q7; omega) (by decide) ?_
              exact zr_lo [2, 3] rfl (hj176_1)
def j_X11_maySpeak_38 (N : Nat) (X : zq_M) (a1 : Int32) (a2 : Int32) (a3 : Int32) (v1 : Int32)  : Option Int32 :=
  (f_X11_placeInLine N X a1 v1 a2).bind (fun v2 => (f_X11_manyIn N X a1 v1).bind (fun v3 => (f_X11_isMiddle N X v1 v2 v3 a3).bind (fun v4 => zq_gz v4 (some v4))))
def f_X11_maySpeak (N : Nat) (X : zq_M) (a1 : Int32) (a2 : Int32) (a3 : Int32) : Option Int32 :=
  (f_X11_placeOf N X a1 a2).bind (fun v1 => if v1 = (3 : Int32) then (some (0 : Int32)) else (if (X.1 69 9) ≤ 0 then (j_X11_maySpeak_38 N X a1 a2 a3 v1) else ((f_X11_hasLike N X a1 v1 a2 (X.1 69 9)).bind (fun v5 => if v5 = 0 then (j_X11_maySpeak_38 N X a1 a2 a3 v1) else (some (0 : Int32))))))
set_option maxRecDepth 20000 in
set_option maxHeartbeats 8000000 in
theorem s_X11_maySpeak (G : zq_G) (N z : Nat) (X : zq_M) (a1 : Int32) (a2 : Int32) (a3 : Int32) : zq_V G YX11_maySpeak (3, 0, 0) (zq_ei zq_shM z X) 0 0 0 (lv_args 0 [.ref (zq_ad G 69), .int a1, .int a2, .int a3]) [] zq_shM z X (f_X11_maySpeak N X a1 a2 a3) := by
  unfold f_X11_maySpeak
  refine zr_lo (l2 := [(0, .ref (zq_ad G 69)), (1, .int a1), (2, .int a2), (3, .int a3)]) [0, 1, 2, 3] rfl ?_
  refine zr_aload_n (pc := 0) (zq_d eX11_maySpeak 0 rfl) 0 rfl rfl ?_
  refine zr_iload_n (pc := 1) (zq_d eX11_maySpeak 1 rfl) 1 rfl rfl ?_
  refine zr_iload_n (pc := 2) (zq_d eX11_maySpeak 2 rfl) 2 rfl rfl ?_
  refine zr_Vi (pc := 3) [_, _] (zq_d eX11_maySpeak 3 rfl) (s_X11_placeOf G N z X _ _) zd_X11_placeOf zl_RX11_221 om_69 rfl rfl rfl rfl (Nat.le_of_ble_eq_true rfl) (Nat.le_of_ble_eq_true rfl) (Nat.le_of_ble_eq_true rfl) ⟨Nat.le_refl _, Nat.le_refl _⟩ (fun v1 => ?_)
  refine zr_istore (pc := 6) (lo2 := [(4, .int v1), (0, .ref (zq_ad G 69)), (1, .int a1), (2, .int a2), (3, .int a3)]) (zq_d eX11_maySpeak 4 rfl) (Nat.le_of_ble_eq_true rfl) rfl ?_
  refine zr_iload (pc := 8) (zq_d eX11_maySpeak 5 rfl) 0 rfl ?_
  refine zr_iconst (pc := 10) (zq_d eX11_maySpeak 6 rfl) zc_i3 ?_
  refine zr_icmp_eq (pc := 11) 36 (zq_d eX11_maySpeak 7 rfl) (by decide) (fun _ => ?_) (fun _ => ?_)
  · refine zr_iconst (pc := 36) (zq_d eX11_maySpeak 19 rfl) zc_i0 ?_
    exact zr_zreturn (pc := 37) (zq_d eX11_maySpeak 20 rfl) rfl rfl rfl (Nat.zero_le _) (Nat.zero_le _)
  · refine zr_aload_n (pc := 14) (zq_d eX11_maySpeak 8 rfl) 1 rfl rfl ?_
    refine zr_getI (pc := 15) (zq_d eX11_maySpeak 9 rfl) zf_RX11_38 km_69_9 ?_
    have hj38_1 : zq_V G YX11_maySpeak (3, 0, 0) (zq_ei zq_shM z X) 0 0 38 [(0, .ref (zq_ad G 69)), (1, .int a1), (2, .int a2), (3, .int a3), (4, .int v1)] [] zq_shM z X (j_X11_maySpeak_38 N X a1 a2 a3 v1) := by
      unfold j_X11_maySpeak_38
      refine zr_aload_n (pc := 38) (zq_d eX11_maySpeak 21 rfl) 0 rfl rfl ?_
      refine zr_iload (pc := 39) (zq_d eX11_maySpeak 22 rfl) 4 rfl ?_
      refine zr_aload_n (pc := 41) (zq_d eX11_maySpeak 23 rfl) 0 rfl rfl ?_
      refine zr_iload_n (pc := 42) (zq_d eX11_maySpeak 24 rfl) 1 rfl rfl ?_
      refine zr_iload (pc := 43) (zq_d eX11_maySpeak 25 rfl) 4 rfl ?_
      refine zr_iload_n (pc := 45) (zq_d eX11_maySpeak 26 rfl) 2 rfl rfl ?_
      refine zr_Vi (pc := 46) [_, _, _] (zq_d eX11_maySpeak 27 rfl) (s_X11_placeInLine G N z X _ _ _) zd_X11_placeInLine zl_RX11_240 om_69 rfl rfl rfl rfl (Nat.le_of_ble_eq_true rfl) (Nat.le_of_ble_eq_true rfl) (Nat.le_of_ble_eq_true rfl) ⟨Nat.le_refl _, Nat.le_refl _⟩ (fun v2 => ?_)
      refine zr_aload_n (pc := 49) (zq_d eX11_maySpeak 28 rfl) 0 rfl rfl ?_
      refine zr_iload_n (pc := 50) (zq_d eX11_maySpeak 29 rfl) 1 rfl rfl ?_
      refine zr_iload (pc := 51) (zq_d eX11_maySpeak 30 rfl) 4 rfl ?_
      refine zr_Vi (pc := 53) [_, _] (zq_d eX11_maySpeak 31 rfl) (s_X11_manyIn G N z X _ _) zd_X11_manyIn zl_RX11_243 om_69 rfl rfl rfl rfl (Nat.le_of_ble_eq_true rfl) (Nat.le_of_ble_eq_true rfl) (Nat.le_of_ble_eq_true rfl) ⟨Nat.le_refl _, Nat.le_refl _⟩ (fun v3 => ?_)
      refine zr_iload_n (pc := 56) (zq_d eX11_maySpeak 32 rfl) 3 rfl rfl ?_
      refine zr_Vi (pc := 57) [_, _, _, _] (zq_d eX11_maySpeak 33 rfl) (s_X11_isMiddle G N z X _ _ _ _) zd_X11_isMiddle zl_RX11_246 om_69 rfl rfl rfl rfl (Nat.le_of_ble_eq_true rfl) (Nat.le_of_ble_eq_true rfl) (Nat.le_of_ble_eq_true rfl) ⟨Nat.le_refl _, Nat.le_refl _⟩ (fun v4 => ?_)
      exact zr_zreturnG (pc := 60) (zq_d eX11_maySpeak 34 rfl) rfl rfl (Nat.zero_le _) (Nat.zero_le _)
    refine zr_if_le (pc := 18) 38 (zq_d eX11_maySpeak 10 rfl) (by decide) (fun _ => ?_) (fun _ => ?_)
    · exact zr_lo [1, 2, 3, 4, 0] rfl (hj38_1)
    · refine zr_aload_n (pc := 21) (zq_d eX11_maySpeak 11 rfl) 1 rfl rfl ?_
      refine zr_iload_n (pc := 22) (zq_d eX11_maySpeak 12 rfl) 2 rfl rfl ?_
      refine zr_iload (pc := 23) (zq_d eX11_maySpeak 13 rfl) 0 rfl ?_
      refine zr_iload_n (pc := 25) (zq_d eX11_maySpeak 14 rfl) 3 rfl rfl ?_
      refine zr_aload_n (pc := 26) (zq_d eX11_maySpeak 15 rfl) 1 rfl rfl ?_
      refine zr_getI (pc := 27) (zq_d eX11_maySpeak 16 rfl) zf_RX11_38 km_69_9 ?_
      refine zr_Vi (pc := 30) [_, _, _, _] (zq_d eX11_maySpeak 17 rfl) (s_X11_hasLike G N z X _ _ _ _) zd_X11_hasLike zl_RX11_236 om_69 rfl rfl rfl rfl (Nat.le_of_ble_eq_true rfl) (Nat.le_of_ble_eq_true rfl) (Nat.le_of_ble_eq_true rfl) ⟨Nat.le_refl _, Nat.le_refl _⟩ (fun v5 => ?_)
      refine zr_if_eq (pc := 33) 38 (zq_d eX11_maySpeak 18 rfl) (by decide) (fun _ => ?_) (fun _ => ?_)
      · exact zr_lo [1, 2, 3, 4, 0] rfl (hj38_1)
      · refine zr_iconst (pc := 36) (zq_d eX11_maySpeak 19 rfl) zc_i0 ?_
        exact zr_zreturn (pc := 37) (zq_d eX11_maySpeak 20 rfl) rfl rfl rfl (Nat.zero_le _) (Nat.zero_le _)
def f_X11_first (N : Nat) (X : zq_M)  : Option Int32 :=
  if 0 ≤ (X.1 69 11) then (some ((10 : Int32) * (X.1 69 11))) else (some (0 : Int32))
set_option maxRecDepth 20000 in
set_option maxHeartbeats 8000000 in
theorem s_X11_first (G : zq_G) (N z : Nat) (X : zq_M)  : zq_V G YX11_first (1, 0, 0) (zq_ei zq_shM z X) 0 0 0 (lv_args 0 [.ref (zq_ad G 69)]) [] zq_shM z X (f_X11_first N X ) := by
  unfold f_X11_first
  refine zr_lo (l2 := [(0, .ref (zq_ad G 69))]) [0] rfl ?_
  refine zr_aload_n (pc := 0) (zq_d eX11_first 0 rfl) 0 rfl rfl ?_
  refine zr_getI (pc := 1) (zq_d eX11_first 1 rfl) zf_RX11_44 km_69_11 ?_
  refine zr_if_ge (pc := 4) 11 (zq_d eX11_first 2 rfl) (by decide) (fun _ => ?_) (fun _ => ?_)
  · refine zr_bipush (pc := 11) (zq_d eX11_first 5 rfl) zc_b10 ?_
    refine zr_aload_n (pc := 13) (zq_d eX11_first 6 rfl) 0 rfl rfl ?_
    refine zr_getI (pc := 14) (zq_d eX11_first 7 rfl) zf_RX11_44 km_69_11 ?_
    refine zr_imul (pc := 17) (zq_d eX11_first 8 rfl) ?_
    exact zr_ireturn (pc := 18) (zq_d eX11_first 9 rfl) rfl rfl (Nat.zero_le _) (Nat.zero_le _)
  · refine zr_iconst (pc := 7) (zq_d eX11_first 3 rfl) zc_i0 ?_
    refine zr_goto (pc := 8) 18 (zq_d eX11_first 4 rfl) (by decide) ?_
    exact zr_ireturn (pc := 18) (zq_d eX11_first 9 rfl) rfl rfl (Nat.zero_le _) (Nat.zero_le _)
def f_X11_behind (N : Nat) (X : zq_M)  : Option Int32 :=
  if 0 ≤ (X.1 69 11) then (zq_ck (X.1 69 11) 6 (some (((10 : Int32) * (X.1 69 11)) + (X.1 76 (zq_ix (X.1 69 11)))))) else (some (0 : Int32))
set_option maxRecDepth 20000 in
set_option maxHeartbeats 8000000 in
theorem s_X11_behind (G : zq_G) (N z : Nat) (X : zq_M)  : zq_V G YX11_behind (1, 0, 0) (zq_ei zq_shM z X) 0 0 0 (lv_args 0 [.ref (zq_ad G 69)]) [] zq_shM z X (f_X11_behind N X ) := by
  unfold f_X11_behind
  refine zr_lo (l2 := [(0, .ref (zq_ad G 69))]) [0] rfl ?_
  refine zr_aload_n (pc := 0) (zq_d eX11_behind 0 rfl) 0 rfl rfl ?_
  refine zr_getI (pc := 1) (zq_d eX11_behind 1 rfl) zf_RX11_44 km_69_11 ?_
  refine zr_if_ge (pc := 4) 11 (zq_d eX11_behind 2 rfl) (by decide) (fun _ => ?_) (fun _ => ?_)
  · refine zr_bipush (pc := 11) (zq_d eX11_behind 5 rfl) zc_b10 ?_
    refine zr_aload_n (pc := 13) (zq_d eX11_behind 6 rfl) 0 rfl rfl ?_
    refine zr_getI (pc := 14) (zq_d eX11_behind 7 rfl) zf_RX11_44 km_69_11 ?_
    refine zr_imul (pc := 17) (zq_d eX11_behind 8 rfl) ?_
    refine zr_aload_n (pc := 18) (zq_d eX11_behind 9 rfl) 0 rfl rfl ?_
    refine zr_getC (pc := 19) (zq_d eX11_behind 10 rfl) zf_RX11_59 km_69_16 ?_
    refine zr_aload_n (pc := 22) (zq_d eX11_behind 11 rfl) 0 rfl rfl ?_
    refine zr_getI (pc := 23) (zq_d eX11_behind 12 rfl) zf_RX11_44 km_69_11 ?_
    refine zr_iald (pc := 26) (zq_d eX11_behind 13 rfl) am_76 ?_
    refine zr_iadd (pc := 27) (zq_d eX11_behind 14 rfl) ?_
    exact zr_ireturn (pc := 28) (zq_d eX11_behind 15 rfl) rfl rfl (Nat.zero_le _) (Nat.zero_le _)
  · refine zr_iconst (pc := 7) (zq_d eX11_behind 3 rfl) zc_i0 ?_
    refine zr_goto (pc := 8) 28 (zq_d eX11_behind 4 rfl) (by decide) ?_
    exact zr_ireturn (pc := 28) (zq_d eX11_behind 15 rfl) rfl rfl (Nat.zero_le _) (Nat.zero_le _)
def b_X11_sameNow_7 (N : Nat) (X : zq_M) (rc7_1 : Int32 → Int32 → Option Int32) (v2 : Int32) (v3 : Int32) : Option Int32 :=
  (f_X11_behind N X).bind (fun v4 => if v4 ≤ v3 then (some v2) else (zq_ck v3 60 (if ¬ (X.1 77 (zq_ix v3)) = (3 : Int32) then (rc7_1 v2 (v3 + (1 : Int32))) else (zq_ck v3 60 (rc7_1 (X.1 78 (zq_ix v3)) (v3 + (1 : Int32)))))))
def f_X11_sameNow (N : Nat) (X : zq_M)  : Option Int32 :=
  (f_X11_first N X).bind (fun v1 => zq_loop (fun _ _ => none) (b_X11_sameNow_7 N X) N (0 : Int32) v1)
set_option maxRecDepth 20000 in
set_option maxHeartbeats 8000000 in
theorem s_X11_sameNow (G : zq_G) (N z : Nat) (X : zq_M)  : zq_V G YX11_sameNow (2, 0, 0) (zq_ei zq_shM z X) 0 0 0 (lv_args 0 [.ref (zq_ad G 69)]) [] zq_shM z X (f_X11_sameNow N X ) := by
  unfold f_X11_sameNow
  refine zr_lo (l2 := [(0, .ref (zq_ad G 69))]) [0] rfl ?_
  refine zr_iconst (pc := 0) (zq_d eX11_sameNow 0 rfl) zc_i0 ?_
  refine zr_istore_n (pc := 1) (lo2 := [(1, .int (0 : Int32)), (0, .ref (zq_ad G 69))]) (zq_d eX11_sameNow 1 rfl) rfl (Nat.le_of_ble_eq_true rfl) rfl ?_
  refine zr_aload_n (pc := 2) (zq_d eX11_sameNow 2 rfl) 1 rfl rfl ?_
  refine zr_Vi (pc := 3) [] (zq_d eX11_sameNow 3 rfl) (s_X11_first G N z X ) zd_X11_first zl_RX11_308 om_69 rfl rfl rfl rfl (Nat.le_of_ble_eq_true rfl) (Nat.le_of_ble_eq_true rfl) (Nat.le_of_ble_eq_true rfl) ⟨Nat.le_refl _, Nat.le_refl _⟩ (fun v1 => ?_)
  refine zr_istore_n (pc := 6) (lo2 := [(2, .int v1), (1, .int (0 : Int32)), (0, .ref (zq_ad G 69))]) (zq_d eX11_sameNow 4 rfl) rfl (Nat.le_of_ble_eq_true rfl) rfl ?_
  have hbrc7_1 : ∀ rc7_1 : Int32 → Int32 → Option Int32, (∀ (v2 : Int32) (v3 : Int32), zq_V G YX11_sameNow (2, 0, 0) (zq_ei zq_shM z X) 0 0 7 [(0, .ref (zq_ad G 69)), (1, .int v2), (2, .int v3)] [] zq_shM z X (rc7_1 v2 v3)) → ∀ (v2 : Int32) (v3 : Int32), zq_V G YX11_sameNow (2, 0, 0) (zq_ei zq_shM z X) 0 0 7 [(0, .ref (zq_ad G 69)), (1, .int v2), (2, .int v3)] [] zq_shM z X (b_X11_sameNow_7 N X rc7_1 v2 v3) := by
    intro rc7_1 hrc7_1 v2 v3
    unfold b_X11_sameNow_7
    refine zr_iload_n (pc := 7) (zq_d eX11_sameNow 5 rfl) 2 rfl rfl ?_
    refine zr_aload_n (pc := 8) (zq_d eX11_sameNow 6 rfl) 0 rfl rfl ?_
    refine zr_Vi (pc := 9) [] (zq_d eX11_sameNow 7 rfl) (s_X11_behind G N z X ) zd_X11_behind zl_RX11_311 om_69 rfl rfl rfl rfl (Nat.le_of_ble_eq_true rfl) (Nat.le_of_ble_eq_true rfl) (Nat.le_of_ble_eq_true rfl) ⟨Nat.le_refl _, Nat.le_refl _⟩ (fun v4 => ?_)
    refine zr_icmp_ge (pc := 12) 42 (zq_d eX11_sameNow 8 rfl) (by decide) (fun _ => ?_) (fun _ => ?_)
    · refine zr_iload_n (pc := 42) (zq_d eX11_sameNow 24 rfl) 1 rfl rfl ?_
      exact zr_ireturn (pc := 43) (zq_d eX11_sameNow 25 rfl) rfl rfl (Nat.zero_le _) (Nat.zero_le _)
    · refine zr_aload_n (pc := 15) (zq_d eX11_sameNow 9 rfl) 0 rfl rfl ?_
      refine zr_getC (pc := 16) (zq_d eX11_sameNow 10 rfl) zf_RX11_62 km_69_17 ?_
      refine zr_iload_n (pc := 19) (zq_d eX11_sameNow 11 rfl) 2 rfl rfl ?_
      refine zr_iald (pc := 20) (zq_d eX11_sameNow 12 rfl) am_77 ?_
      refine zr_iconst (pc := 21) (zq_d eX11_sameNow 13 rfl) zc_i3 ?_
      refine zr_icmp_ne (pc := 22) 34 (zq_d eX11_sameNow 14 rfl) (by decide) (fun _ => ?_) (fun _ => ?_)
      · refine zr_iload_n (pc := 34) (zq_d eX11_sameNow 20 rfl) 1 rfl rfl ?_
        refine zr_istore_n (pc := 35) (lo2 := [(1, .int v2), (0, .ref (zq_ad G 69)), (2, .int v3)]) (zq_d eX11_sameNow 21 rfl) rfl (Nat.le_of_ble_eq_true rfl) rfl ?_
        refine zr_iinc (pc := 36) (j := 2) (v := (v3 + (1 : Int32))) (lo2 := [(2, .int (v3 + (1 : Int32))), (1, .int v2), (0, .ref (zq_ad G 69))]) (zq_d eX11_sameNow 22 rfl) rfl (by rw [zc_i1]) (Nat.le_of_ble_eq_true rfl) rfl ?_
        refine zr_goto (pc := 39) 7 (zq_d eX11_sameNow 23 rfl) (by decide) ?_
        exact zr_lo [2, 1, 0] rfl (hrc7_1 v2 (v3 + (1 : Int32)))
      · refine zr_aload_n (pc := 25) (zq_d eX11_sameNow 15 rfl) 0 rfl rfl ?_
        refine zr_getC (pc := 26) (zq_d eX11_sameNow 16 rfl) zf_RX11_65 km_69_18 ?_
        refine zr_iload_n (pc := 29) (zq_d eX11_sameNow 17 rfl) 2 rfl rfl ?_
        refine zr_iald (pc := 30) (zq_d eX11_sameNow 18 rfl) am_78 ?_
        refine zr_goto (pc := 31) 35 (zq_d eX11_sameNow 19 rfl) (by decide) ?_
        refine zr_istore_n (pc := 35) (lo2 := [(1, .int (X.1 78 (zq_ix v3))), (0, .ref (zq_ad G 69)), (2, .int v3)]) (zq_d eX11_sameNow 21 rfl) rfl (Nat.le_of_ble_eq_true rfl) rfl ?_
        refine zr_iinc (pc := 36) (j := 2) (v := (v3 + (1 : Int32))) (lo2 := [(2, .int (v3 + (1 : Int32))), (1, .int (X.1 78 (zq_ix v3))), (0, .ref (zq_ad G 69))]) (zq_d eX11_sameNow 22 rfl) rfl (by rw [zc_i1]) (Nat.le_of_ble_eq_true rfl) rfl ?_
        refine zr_goto (pc := 39) 7 (zq_d eX11_sameNow 23 rfl) (by decide) ?_
        exact zr_lo [2, 1, 0] rfl (hrc7_1 (X.1 78 (zq_ix v3)) (v3 + (1 : Int32)))
  have hlrc7_1 := zr_loop (P := fun (rc7_1 : Int32 → Int32 → Option Int32) => ∀ (v2 : Int32) (v3 : Int32), zq_V G YX11_sameNow (2, 0, 0) (zq_ei zq_shM z X) 0 0 7 [(0, .ref (zq_ad G 69)), (1, .int v2), (2, .int v3)] [] zq_shM z X (rc7_1 v2 v3)) (fun _ _ => none) (b_X11_sameNow_7 N X) (fun _ _ => zr_none) hbrc7_1 N
  exact zr_lo [2, 1, 0] rfl (hlrc7_1 (0 : Int32) v1)
def f_X11_of (N : Nat) (X : zq_M) (a1 : Int32) (a2 : Int32) : Option (Int32 × zq_M) :=
  (f_X11_isPerson N X a1).bind (fun v1 => if ¬ v1 = 0 then ((f_X11_sameNow N X).bind (fun v2 => zq_b (zq_u1 X 69 9 v2) (fun X3 => if a2 = (0 : Int32) then (zq_ck a1 5 (some ((X3.1 70 (zq_ix a1)), X3))) else (if a2 = (1 : Int32) then (zq_ck a1 5 (some ((X3.1 71 (zq_ix a1)), X3))) else (if a2 = (2 : Int32) then ((f_X11_placeOf N X3 (X3.1 69 1) a1).bind (fun v5 => some (v5, X3))) else (if a2 = (3 : Int32) then (zq_ck a1 5 (some ((X3.1 72 (zq_ix a1)), X3))) else (if a2 = (4 : Int32) then ((f_X11_maySpeak N X3 (X3.1 69 1) a1 (X3.1 69 2)).bind (fun v4 => if v4 = 0 then (some ((0 : Int32), X3)) else (some ((1 : Int32), X3)))) else (some ((-1 : Int32), X3))))))))) else (some ((-1 : Int32), X)))
set_option maxRecDepth 20000 in
set_option maxHeartbeats 8000000 in
theorem s_X11_of (G : zq_G) (N z : Nat) (X : zq_M) (a1 : Int32) (a2 : Int32) : zq_V G YX11_of (4, 0, 0) (zq_si zq_shM z) 0 0 0 (lv_args 0 [.ref (zq_ad G 69), .int a1, .int a2]) [] zq_shM z X (f_X11_of N X a1 a2) := by
  unfold f_X11_of
  refine zr_lo (l2 := [(0, .ref (zq_ad G 69)), (1, .int a1), (2, .int a2)]) [0, 1, 2] rfl ?_
  refine zr_aload_n (pc := 0) (zq_d eX11_of 0 rfl) 0 rfl rfl ?_
  refine zr_iload_n (pc := 1) (zq_d eX11_of 1 rfl) 1 rfl rfl ?_
  refine zr_Vi (pc := 2) [_] (zq_d eX11_of 2 rfl) (s_X11_isPerson G N z X _) zd_X11_isPerson zl_RX11_249 om_69 rfl rfl rfl rfl (Nat.le_of_ble_eq_true rfl) (Nat.le_of_ble_eq_true rfl) (Nat.le_of_ble_eq_true rfl) ⟨Nat.le_refl _, Nat.le_refl _⟩ (fun v1 => ?_)
  refine zr_if_ne (pc := 5) 10 (zq_d eX11_of 3 rfl) (by decide) (fun _ => ?_) (fun _ => ?_)
  · refine zr_aload_n (pc := 10) (zq_d eX11_of 6 rfl) 0 rfl rfl ?_
    refine zr_aload_n (pc := 11) (zq_d eX11_of 7 rfl) 0 rfl rfl ?_
    refine zr_Vi (pc := 12) [] (zq_d eX11_of 8 rfl) (s_X11_sameNow G N z X ) zd_X11_sameNow zl_RX11_252 om_69 rfl rfl rfl rfl (Nat.le_of_ble_eq_true rfl) (Nat.le_of_ble_eq_true rfl) (Nat.le_of_ble_eq_true rfl) ⟨Nat.le_refl _, Nat.le_refl _⟩ (fun v2 => ?_)
    refine zr_putI (pc := 15) (zq_d eX11_of 9 rfl) zf_RX11_38 km_69_9 zn_11_9 (fun X3 => ?_)
    refine zr_iload_n (pc := 18) (zq_d eX11_of 10 rfl) 2 rfl rfl ?_
    refine zr_cs (fun q1 => ?_) (fun q1 => ?_)
    · refine zr_tab (pc := 19) (n := 0) 52 (zq_d eX11_of 11 rfl) q1 (by decide) (by decide) (by decide) rfl (by decide) ?_
      refine zr_aload_n (pc := 52) (zq_d eX11_of 12 rfl) 0 rfl rfl ?_
      refine zr_getC (pc := 53) (zq_d eX11_of 13 rfl) zf_RX11_22 km_69_4 ?_
      refine zr_iload_n (pc := 56) (zq_d eX11_of 14 rfl) 1 rfl rfl ?_
      refine zr_iald (pc := 57) (zq_d eX11_of 15 rfl) am_70 ?_
      exact zr_ireturn (pc := 58) (zq_d eX11_of 16 rfl) rfl rfl (Nat.zero_le _) (Nat.zero_le _)
    · refine zr_cs (fun q2 => ?_) (fun q2 => ?_)
      · refine zr_tab (pc := 19) (n := 1) 59 (zq_d eX11_of 11 rfl) q2 (by decide) (by decide) (by decide) rfl (by decide) ?_
        refine zr_aload_n (pc := 59) (zq_d eX11_of 17 rfl) 0 rfl rfl ?_
        refine zr_getC (pc := 60) (zq_d eX11_of 18 rfl) zf_RX11_26 km_69_5 ?_
        refine zr_iload_n (pc := 63) (zq_d eX11_of 19 rfl) 1 rfl rfl ?_
        refine zr_iald (pc := 64) (zq_d eX11_of 20 rfl) am_71 ?_
        exact zr_ireturn (pc := 65) (zq_d eX11_of 21 rfl) rfl rfl (Nat.zero_le _) (Nat.zero_le _)
      · refine zr_cs (fun q3 => ?_) (fun q3 => ?_)
        · refine zr_tab (pc := 19) (n := 2) 66 (zq_d eX11_of 11 rfl) q3 (by decide) (by decide) (by decide) rfl (by decide) ?_
          refine zr_aload_n (pc := 66) (zq_d eX11_of 22 rfl) 0 rfl rfl ?_
          refine zr_aload_n (pc := 67) (zq_d eX11_of 23 rfl) 0 rfl rfl ?_
          refine zr_getI (pc := 68) (zq_d eX11_of 24 rfl) zf_RX11_13 km_69_1 ?_
          refine zr_iload_n (pc := 71) (zq_d eX11_of 25 rfl) 1 rfl rfl ?_
          refine zr_Vi (pc := 72) [_, _] (zq_d eX11_of 26 rfl) (s_X11_placeOf G N z X3 _ _) zd_X11_placeOf zl_RX11_221 om_69 rfl rfl rfl rfl (Nat.le_of_ble_eq_true rfl) (Nat.le_of_ble_eq_true rfl) (Nat.le_of_ble_eq_true rfl) ⟨Nat.le_refl _, Nat.le_refl _⟩ (fun v5 => ?_)
          exact zr_ireturn (pc := 75) (zq_d eX11_of 27 rfl) rfl rfl (Nat.zero_le _) (Nat.zero_le _)
        · refine zr_cs (fun q4 => ?_) (fun q4 => ?_)
          · refine zr_tab (pc := 19) (n := 3) 76 (zq_d eX11_of 11 rfl) q4 (by decide) (by decide) (by decide) rfl (by decide) ?_
            refine zr_aload_n (pc := 76) (zq_d eX11_of 28 rfl) 0 rfl rfl ?_
            refine zr_getC (pc := 77) (zq_d eX11_of 29 rfl) zf_RX11_29 km_69_6 ?_
            refine zr_iload_n (pc := 80) (zq_d eX11_of 30 rfl) 1 rfl rfl ?_
            refine zr_iald (pc := 81) (zq_d eX11_of 31 rfl) am_72 ?_
            exact zr_ireturn (pc := 82) (zq_d eX11_of 32 rfl) rfl rfl (Nat.zero_le _) (Nat.zero_le _)
          · refine zr_cs (fun q5 => ?_) (fun q5 => ?_)
            · refine zr_tab (pc := 19) (n := 4) 83 (zq_d eX11_of 11 rfl) q5 (by decide) (by decide) (by decide) rfl (by decide) ?_
              refine zr_aload_n (pc := 83) (zq_d eX11_of 33 rfl) 0 rfl rfl ?_
              refine zr_aload_n (pc := 84) (zq_d eX11_of 34 rfl) 0 rfl rfl ?_
              refine zr_getI (pc := 85) (zq_d eX11_of 35 rfl) zf_RX11_13 km_69_1 ?_
              refine zr_iload_n (pc := 88) (zq_d eX11_of 36 rfl) 1 rfl rfl ?_
              refine zr_aload_n (pc := 89) (zq_d eX11_of 37 rfl) 0 rfl rfl ?_
              refine zr_getI (pc := 90) (zq_d eX11_of 38 rfl) zf_RX11_16 km_69_2 ?_
              refine zr_Vi (pc := 93) [_, _, _] (zq_d eX11_of 39 rfl) (s_X11_maySpeak G N z X3 _ _ _) zd_X11_maySpeak zl_RX11_256 om_69 rfl rfl rfl rfl (Nat.le_of_ble_eq_true rfl) (Nat.le_of_ble_eq_true rfl) (Nat.le_of_ble_eq_true rfl) ⟨Nat.le_refl _, Nat.le_refl _⟩ (fun v4 => ?_)
              refine zr_if_eq (pc := 96) 103 (zq_d eX11_of 40 rfl) (by decide) (fun _ => ?_) (fun _ => ?_)
              · refine zr_iconst (pc := 103) (zq_d eX11_of 43 rfl) zc_i0 ?_
                exact zr_ireturn (pc := 104) (zq_d eX11_of 44 rfl) rfl rfl (Nat.zero_le _) (Nat.zero_le _)
              · refine zr_iconst (pc := 99) (zq_d eX11_of 41 rfl) zc_i1 ?_
                refine zr_goto (pc := 100) 104 (zq_d eX11_of 42 rfl) (by decide) ?_
                exact zr_ireturn (pc := 104) (zq_d eX11_of 44 rfl) rfl rfl (Nat.zero_le _) (Nat.zero_le _)
            · refine zr_tabD (pc := 19) 105 (zq_d eX11_of 11 rfl) (by have t0 := zq_nt (n := 0) (by decide) q1; have t1 := zq_nt (n := 1) (by decide) q2; have t2 := zq_nt (n := 2) (by decide) q3; have t3 := zq_nt (n := 3) (by decide) q4; have t4 := zq_nt (n := 4) (by decide) q5; omega) (by decide) ?_
              refine zr_iconst (pc := 105) (zq_d eX11_of 45 rfl) zc_im1 ?_
              exact zr_ireturn (pc := 106) (zq_d eX11_of 46 rfl) rfl rfl (Nat.zero_le _) (Nat.zero_le _)
  · refine zr_iconst (pc := 8) (zq_d eX11_of 4 rfl) zc_im1 ?_
    exact zr_ireturn (pc := 9) (zq_d eX11_of 5 rfl) rfl rfl (Nat.zero_le _) (Nat.zero_le _)
def f_X11_learn (N : Nat) (X : zq_M) (a1 : Int32) (a2 : Int32) : Option (Int32 × zq_M) :=
  (f_X11_isPerson N X a1).bind (fun v1 => if ¬ v1 = 0 then ((f_X11_within N X a2 (0 : Int32) (255 : Int32)).bind (fun v2 => if ¬ v2 = 0 then (zq_ck a1 5 (zq_ck a1 5 (zq_b (zq_u1 X 72 (zq_ix a1) a2) (fun X3 => some ((X.1 72 (zq_ix a1)), X3))))) else (some ((-2 : Int32), X)))) else (some ((-1 : Int32), X)))
set_option maxRecDepth 20000 in
set_option maxHeartbeats 8000000 in
theorem s_X11_learn (G : zq_G) (N z : Nat) (X : zq_M) (a1 : Int32) (a2 : Int32) : zq_V G YX11_learn (3, 0, 0) (zq_si zq_shM z) 0 0 0 (lv_args 0 [.ref (zq_ad G 69), .int a1, .int a2]) [] zq_shM z X (f_X11_learn N X a1 a2) := by
  unfold f_X11_learn
  refine zr_lo (l2 := [(0, .ref (zq_ad G 69)), (1, .int a1), (2, .int a2)]) [0, 1, 2] rfl ?_
  refine zr_aload_n (pc := 0) (zq_d eX11_learn 0 rfl) 0 rfl rfl ?_
  refine zr_iload_n (pc := 1) (zq_d eX11_learn 1 rfl) 1 rfl rfl ?_
  refine zr_Vi (pc := 2) [_] (zq_d eX11_learn 2 rfl) (s_X11_isPerson G N z X _) zd_X11_isPerson zl_RX11_249 om_69 rfl rfl rfl rfl (Nat.le_of_ble_eq_true rfl) (Nat.le_of_ble_eq_true rfl) (Nat.le_of_ble_eq_true rfl) ⟨Nat.le_refl _, Nat.le_refl _⟩ (fun v1 => ?_)
  refine zr_if_ne (pc := 5) 10 (zq_d eX11_learn 3 rfl) (by decide) (fun _ => ?_) (fun _ => ?_)
  · refine zr_aload_n (pc := 10) (zq_d eX11_learn 6 rfl) 0 rfl rfl ?_
    refine zr_iload_n (pc := 11) (zq_d eX11_learn 7 rfl) 2 rfl rfl ?_
    refine zr_iconst (pc := 12) (zq_d eX11_learn 8 rfl) zc_i0 ?_
    refine zr_sipush (pc := 13) (zq_d eX11_learn 9 rfl) zc_s255 ?_
    refine zr_Vi (pc := 16) [_, _, _] (zq_d eX11_learn 10 rfl) (s_X11_within G N z X _ _ _) zd_X11_within zl_RX11_217 om_69 rfl rfl rfl rfl (Nat.le_of_ble_eq_true rfl) (Nat.le_of_ble_eq_true rfl) (Nat.le_of_ble_eq_true rfl) ⟨Nat.le_refl _, Nat.le_refl _⟩ (fun v2 => ?_)
    refine zr_if_ne (pc := 19) 25 (zq_d eX11_learn 11 rfl) (by decide) (fun _ => ?_) (fun _ => ?_)
    · refine zr_aload_n (pc := 25) (zq_d eX11_learn 14 rfl) 0 rfl rfl ?_
      refine zr_getC (pc := 26) (zq_d eX11_learn 15 rfl) zf_RX11_29 km_69_6 ?_
      refine zr_iload_n (pc := 29) (zq_d eX11_learn 16 rfl) 1 rfl rfl ?_
      refine zr_iald (pc := 30) (zq_d eX11_learn 17 rfl) am_72 ?_
      refine zr_istore_n (pc := 31) (lo2 := [(3, .int (X.1 72 (zq_ix a1))), (0, .ref (zq_ad G 69)), (1, .int a1), (2, .int a2)]) (zq_d eX11_learn 18 rfl) rfl (Nat.le_of_ble_eq_true rfl) rfl ?_
      refine zr_aload_n (pc := 32) (zq_d eX11_learn 19 rfl) 1 rfl rfl ?_
      refine zr_getC (pc := 33) (zq_d eX11_learn 20 rfl) zf_RX11_29 km_69_6 ?_
      refine zr_iload_n (pc := 36) (zq_d eX11_learn 21 rfl) 2 rfl rfl ?_
      refine zr_iload_n (pc := 37) (zq_d eX11_learn 22 rfl) 3 rfl rfl ?_
      refine zr_iast (pc := 38) (zq_d eX11_learn 23 rfl) am_72 (fun X3 => ?_)
      refine zr_iload_n (pc := 39) (zq_d eX11_learn 24 rfl) 0 rfl rfl ?_
      exact zr_ireturn (pc := 40) (zq_d eX11_learn 25 rfl) rfl rfl (Nat.zero_le _) (Nat.zero_le _)
    · refine zr_bipush (pc := 22) (zq_d eX11_learn 12 rfl) zc_bm2 ?_
      exact zr_ireturn (pc := 24) (zq_d eX11_learn 13 rfl) rfl rfl (Nat.zero_le _) (Nat.zero_le _)
  · refine zr_iconst (pc := 8) (zq_d eX11_learn 4 rfl) zc_im1 ?_
    exact zr_ireturn (pc := 9) (zq_d eX11_learn 5 rfl) rfl rfl (Nat.zero_le _) (Nat.zero_le _)
def f_X11_room (N : Nat) (X : zq_M) (a1 : Int32) (a2 : Int32) (a3 : Int32) : Option (Int32 × zq_M) :=
  (f_X11_isRoom N X a1).bind (fun v1 => if v1 = 0 then (some ((-1 : Int32), X)) else ((f_X11_within N X a2 (0 : Int32) (6 : Int32)).bind (fun v2 => if ¬ v2 = 0 then ((f_X11_within N X a3 (0 : Int32) (9 : Int32)).bind (fun v3 => if ¬ v3 = 0 then (zq_ck a1 3 (zq_ck a1 3 (zq_b (zq_u1 X 73 (zq_ix a1) a2) (fun X4 => zq_ck a1 3 (zq_b (zq_u1 X4 74 (zq_ix a1) a3) (fun X5 => some ((X.1 73 (zq_ix a1)), X5))))))) else (some ((-2 : Int32), X)))) else (some ((-1 : Int32), X)))))
set_option maxRecDepth 20000 in
set_option maxHeartbeats 8000000 in
theorem s_X11_room (G : zq_G) (N z : Nat) (X : zq_M) (a1 : Int32) (a2 : Int32) (a3 : Int32) : zq_V G YX11_room (3, 0, 0) (zq_si zq_shM z) 0 0 0 (lv_args 0 [.ref (zq_ad G 69), .int a1, .int a2, .int a3]) [] zq_shM z X (f_X11_room N X a1 a2 a3) := by
  unfold f_X11_room
  refine zr_lo (l2 := [(0, .ref (zq_ad G 69)), (1, .int a1), (2, .int a2), (3, .int a3)]) [0, 1, 2, 3] rfl ?_
  refine zr_aload_n (pc := 0) (zq_d eX11_room 0 rfl) 0 rfl rfl ?_
  refine zr_iload_n (pc := 1) (zq_d eX11_room 1 rfl) 1 rfl rfl ?_
  refine zr_Vi (pc := 2) [_] (zq_d eX11_room 2 rfl) (s_X11_isRoom G N z X _) zd_X11_isRoom zl_RX11_259 om_69 rfl rfl rfl rfl (Nat.le_of_ble_eq_true rfl) (Nat.le_of_ble_eq_true rfl) (Nat.le_of_ble_eq_true rfl) ⟨Nat.le_refl _, Nat.le_refl _⟩ (fun v1 => ?_)
  refine zr_if_eq (pc := 5) 19 (zq_d eX11_room 3 rfl) (by decide) (fun _ => ?_) (fun _ => ?_)
  · refine zr_iconst (pc := 19) (zq_d eX11_room 10 rfl) zc_im1 ?_
    exact zr_ireturn (pc := 20) (zq_d eX11_room 11 rfl) rfl rfl (Nat.zero_le _) (Nat.zero_le _)
  · refine zr_aload_n (pc := 8) (zq_d eX11_room 4 rfl) 0 rfl rfl ?_
    refine zr_iload_n (pc := 9) (zq_d eX11_room 5 rfl) 2 rfl rfl ?_
    refine zr_iconst (pc := 10) (zq_d eX11_room 6 rfl) zc_i0 ?_
    refine zr_bipush (pc := 11) (zq_d eX11_room 7 rfl) zc_b6 ?_
    refine zr_Vi (pc := 13) [_, _, _] (zq_d eX11_room 8 rfl) (s_X11_within G N z X _ _ _) zd_X11_within zl_RX11_217 om_69 rfl rfl rfl rfl (Nat.le_of_ble_eq_true rfl) (Nat.le_of_ble_eq_true rfl) (Nat.le_of_ble_eq_true rfl) ⟨Nat.le_refl _, Nat.le_refl _⟩ (fun v2 => ?_)
    refine zr_if_ne (pc := 16) 21 (zq_d eX11_room 9 rfl) (by decide) (fun _ => ?_) (fun _ => ?_)
    · refine zr_aload_n (pc := 21) (zq_d eX11_room 12 rfl) 0 rfl rfl ?_
      refine zr_iload_n (pc := 22) (zq_d eX11_room 13 rfl) 3 rfl rfl ?_
      refine zr_iconst (pc := 23) (zq_d eX11_room 14 rfl) zc_i0 ?_
      refine zr_bipush (pc := 24) (zq_d eX11_room 15 rfl) zc_b9 ?_
      refine zr_Vi (pc := 26) [_, _, _] (zq_d eX11_room 16 rfl) (s_X11_within G N z X _ _ _) zd_X11_within zl_RX11_217 om_69 rfl rfl rfl rfl (Nat.le_of_ble_eq_true rfl) (Nat.le_of_ble_eq_true rfl) (Nat.le_of_ble_eq_true rfl) ⟨Nat.le_refl _, Nat.le_refl _⟩ (fun v3 => ?_)
      refine zr_if_ne (pc := 29) 35 (zq_d eX11_room 17 rfl) (by decide) (fun _ => ?_) (fun _ => ?_)
      · refine zr_aload_n (pc := 35) (zq_d eX11_room 20 rfl) 0 rfl rfl ?_
        refine zr_getC (pc := 36) (zq_d eX11_room 21 rfl) zf_RX11_32 km_69_7 ?_
        refine zr_iload_n (pc := 39) (zq_d eX11_room 22 rfl) 1 rfl rfl ?_
        refine zr_iald (pc := 40) (zq_d eX11_room 23 rfl) am_73 ?_
        refine zr_istore (pc := 41) (lo2 := [(4, .int (X.1 73 (zq_ix a1))), (0, .ref (zq_ad G 69)), (1, .int a1), (2, .int a2), (3, .int a3)]) (zq_d eX11_room 24 rfl) (Nat.le_of_ble_eq_true rfl) rfl ?_
        refine zr_aload_n (pc := 43) (zq_d eX11_room 25 rfl) 1 rfl rfl ?_
        refine zr_getC (pc := 44) (zq_d eX11_room 26 rfl) zf_RX11_32 km_69_7 ?_
        refine zr_iload_n (pc := 47) (zq_d eX11_room 27 rfl) 2 rfl rfl ?_
        refine zr_iload_n (pc := 48) (zq_d eX11_room 28 rfl) 3 rfl rfl ?_
        refine zr_iast (pc := 49) (zq_d eX11_room 29 rfl) am_73 (fun X4 => ?_)
        refine zr_aload_n (pc := 50) (zq_d eX11_room 30 rfl) 1 rfl rfl ?_
        refine zr_getC (pc := 51) (zq_d eX11_room 31 rfl) zf_RX11_35 km_69_8 ?_
        refine zr_iload_n (pc := 54) (zq_d eX11_room 32 rfl) 2 rfl rfl ?_
        refine zr_iload_n (pc := 55) (zq_d eX11_room 33 rfl) 4 rfl rfl ?_
        refine zr_iast (pc := 56) (zq_d eX11_room 34 rfl) am_74 (fun X5 => ?_)
        refine zr_iload (pc := 57) (zq_d eX11_room 35 rfl) 0 rfl ?_
        exact zr_ireturn (pc := 59) (zq_d eX11_room 36 rfl) rfl rfl (Nat.zero_le _) (Nat.zero_le _)
      · refine zr_bipush (pc := 32) (zq_d eX11_room 18 rfl) zc_bm2 ?_
        exact zr_ireturn (pc := 34) (zq_d eX11_room 19 rfl) rfl rfl (Nat.zero_le _) (Nat.zero_le _)
    · refine zr_iconst (pc := 19) (zq_d eX11_room 10 rfl) zc_im1 ?_
      exact zr_ireturn (pc := 20) (zq_d eX11_room 11 rfl) rfl rfl (Nat.zero_le _) (Nat.zero_le _)
def b_X11_inside_56 (N : Nat) (a1 : Int32) (a2 : Int32) (X4 : zq_M) (rc56_1 : Int32 → Int32 → Option (Int32 × zq_M)) (v5 : Int32) (v6 : Int32) : Option (Int32 × zq_M) :=
  if (X4.1 69 0) ≤ v6 then (some (v5, X4)) else ((f_X11_placeOf N X4 (X4.1 69 1) v6).bind (fun v7 => if ¬ v7 = a1 then (rc56_1 (v5 ||| (0 : Int32)) (v6 + (1 : Int32))) else (if a2 = (2 : Int32) then (rc56_1 (v5 ||| (zq_shl (1 : Int32) v6)) (v6 + (1 : Int32))) else ((f_X11_maySpeak N X4 (X4.1 69 1) v6 (X4.1 69 2)).bind (fun v8 => if v8 = 0 then (rc56_1 (v5 ||| (0 : Int32)) (v6 + (1 : Int32))) else (rc56_1 (v5 ||| (zq_shl (1 : Int32) v6)) (v6 + (1 : Int32))))))))
def f_X11_inside (N : Nat) (X : zq_M) (a1 : Int32) (a2 : Int32) : Option (Int32 × zq_M) :=
  (f_X11_isRoom N X a1).bind (fun v1 => if v1 = 0 then (some ((-1 : Int32), X)) else ((f_X11_within N X a2 (0 : Int32) (3 : Int32)).bind (fun v2 => if ¬ v2 = 0 then (if ¬ a2 = 0 then (if ¬ a2 = (1 : Int32) then ((f_X11_sameNow N X).bind (fun v3 => zq_b (zq_u1 X 69 9 v3) (fun X4 => zq_loop (fun _ _ => none) (b_X11_inside_56 N a1 a2 X4) N (0 : Int32) (0 : Int32)))) else (zq_ck a1 3 (some ((X.1 74 (zq_ix a1)), X)))) else (zq_ck a1 3 (some ((X.1 73 (zq_ix a1)), X)))) else (some ((-1 : Int32), X)))))
set_option maxRecDepth 20000 in
set_option maxHeartbeats 8000000 in
theorem s_X11_inside (G : zq_G) (N z : Nat) (X : zq_M) (a1 : Int32) (a2 : Int32) : zq_V G YX11_inside (4, 0, 0) (zq_si zq_shM z) 0 0 0 (lv_args 0 [.ref (zq_ad G 69), .int a1, .int a2]) [] zq_shM z X (f_X11_inside N X a1 a2) := by
  unfold f_X11_inside
  refine zr_lo (l2 := [(0, .ref (zq_ad G 69)), (1, .int a1), (2, .int a2)]) [0, 1, 2] rfl ?_
  refine zr_aload_n (pc := 0) (zq_d eX11_inside 0 rfl) 0 rfl rfl ?_
  refine zr_iload_n (pc := 1) (zq_d eX11_inside 1 rfl) 1 rfl rfl ?_
  refine zr_Vi (pc := 2) [_] (zq_d eX11_inside 2 rfl) (s_X11_isRoom G N z X _) zd_X11_isRoom zl_RX11_259 om_69 rfl rfl rfl rfl (Nat.le_of_ble_eq_true rfl) (Nat.le_of_ble_eq_true rfl) (Nat.le_of_ble_eq_true rfl) ⟨Nat.le_refl _, Nat.le_refl _⟩ (fun v1 => ?_)
  refine zr_if_eq (pc := 5) 18 (zq_d eX11_inside 3 rfl) (by decide) (fun _ => ?_) (fun _ => ?_)
  · refine zr_iconst (pc := 18) (zq_d eX11_inside 10 rfl) zc_im1 ?_
    exact zr_ireturn (pc := 19) (zq_d eX11_inside 11 rfl) rfl rfl (Nat.zero_le _) (Nat.zero_le _)
  · refine zr_aload_n (pc := 8) (zq_d eX11_inside 4 rfl) 0 rfl rfl ?_
    refine zr_iload_n (pc := 9) (zq_d eX11_inside 5 rfl) 2 rfl rfl ?_
    refine zr_iconst (pc := 10) (zq_d eX11_inside 6 rfl) zc_i0 ?_
    refine zr_iconst (pc := 11) (zq_d eX11_inside 7 rfl) zc_i3 ?_
    refine zr_Vi (pc := 12) [_, _, _] (zq_d eX11_inside 8 rfl) (s_X11_within G N z X _ _ _) zd_X11_within zl_RX11_217 om_69 rfl rfl rfl rfl (Nat.le_of_ble_eq_true rfl) (Nat.le_of_ble_eq_true rfl) (Nat.le_of_ble_eq_true rfl) ⟨Nat.le_refl _, Nat.le_refl _⟩ (fun v2 => ?_)
    refine zr_if_ne (pc := 15) 20 (zq_d eX11_inside 9 rfl) (by decide) (fun _ => ?_) (fun _ => ?_)
    · refine zr_iload_n (pc := 20) (zq_d eX11_inside 12 rfl) 2 rfl rfl ?_
      refine zr_if_ne (pc := 21) 31 (zq_d eX11_inside 13 rfl) (by decide) (fun _ => ?_) (fun _ => ?_)
      · refine zr_iload_n (pc := 31) (zq_d eX11_inside 19 rfl) 2 rfl rfl ?_
        refine zr_iconst (pc := 32) (zq_d eX11_inside 20 rfl) zc_i1 ?_
        refine zr_icmp_ne (pc := 33) 43 (zq_d eX11_inside 21 rfl) (by decide) (fun _ => ?_) (fun _ => ?_)
        · refine zr_aload_n (pc := 43) (zq_d eX11_inside 27 rfl) 0 rfl rfl ?_
          refine zr_aload_n (pc := 44) (zq_d eX11_inside 28 rfl) 0 rfl rfl ?_
          refine zr_Vi (pc := 45) [] (zq_d eX11_inside 29 rfl) (s_X11_sameNow G N z X ) zd_X11_sameNow zl_RX11_252 om_69 rfl rfl rfl rfl (Nat.le_of_ble_eq_true rfl) (Nat.le_of_ble_eq_true rfl) (Nat.le_of_ble_eq_true rfl) ⟨Nat.le_refl _, Nat.le_refl _⟩ (fun v3 => ?_)
          refine zr_putI (pc := 48) (zq_d eX11_inside 30 rfl) zf_RX11_38 km_69_9 zn_11_9 (fun X4 => ?_)
          refine zr_iconst (pc := 51) (zq_d eX11_inside 31 rfl) zc_i0 ?_
          refine zr_istore_n (pc := 52) (lo2 := [(3, .int (0 : Int32)), (0, .ref (zq_ad G 69)), (1, .int a1), (2, .int a2)]) (zq_d eX11_inside 32 rfl) rfl (Nat.le_of_ble_eq_true rfl) rfl ?_
          refine zr_iconst (pc := 53) (zq_d eX11_inside 33 rfl) zc_i0 ?_
          refine zr_istore (pc := 54) (lo2 := [(4, .int (0 : Int32)), (3, .int (0 : Int32)), (0, .ref (zq_ad G 69)), (1, .int a1), (2, .int a2)]) (zq_d eX11_inside 34 rfl) (Nat.le_of_ble_eq_true rfl) rfl ?_
          have hbrc56_1 : ∀ rc56_1 : Int32 → Int32 → Option (Int32 × zq_M), (∀ (v5 : Int32) (v6 : Int32), zq_V G YX11_inside (4, 0, 0) (zq_si zq_shM z) 0 0 56 [(0, .ref (zq_ad G 69)), (1, .int a1), (2, .int a2), (3, .int v5), (4, .int v6)] [] zq_shM z X4 (rc56_1 v5 v6)) → ∀ (v5 : Int32) (v6 : Int32), zq_V G YX11_inside (4, 0, 0) (zq_si zq_shM z) 0 0 56 [(0, .ref (zq_ad G 69)), (1, .int a1), (2, .int a2), (3, .int v5), (4, .int v6)] [] zq_shM z X4 (b_X11_inside_56 N a1 a2 X4 rc56_1 v5 v6) := by
            intro rc56_1 hrc56_1 v5 v6
            unfold b_X11_inside_56
            refine zr_iload (pc := 56) (zq_d eX11_inside 35 rfl) 4 rfl ?_
            refine zr_aload_n (pc := 58) (zq_d eX11_inside 36 rfl) 0 rfl rfl ?_
            refine zr_getI (pc := 59) (zq_d eX11_inside 37 rfl) zf_RX11_7 km_69_0 ?_
            refine zr_icmp_ge (pc := 62) 118 (zq_d eX11_inside 38 rfl) (by decide) (fun _ => ?_) (fun _ => ?_)
            · refine zr_iload_n (pc := 118) (zq_d eX11_inside 67 rfl) 3 rfl rfl ?_
              exact zr_ireturn (pc := 119) (zq_d eX11_inside 68 rfl) rfl rfl (Nat.zero_le _) (Nat.zero_le _)
            · refine zr_iload_n (pc := 65) (zq_d eX11_inside 39 rfl) 3 rfl rfl ?_
              refine zr_aload_n (pc := 66) (zq_d eX11_inside 40 rfl) 0 rfl rfl ?_
              refine zr_aload_n (pc := 67) (zq_d eX11_inside 41 rfl) 0 rfl rfl ?_
              refine zr_getI (pc := 68) (zq_d eX11_inside 42 rfl) zf_RX11_13 km_69_1 ?_
              refine zr_iload (pc := 71) (zq_d eX11_inside 43 rfl) 4 rfl ?_
              refine zr_Vi (pc := 73) [_, _] (zq_d eX11_inside 44 rfl) (s_X11_placeOf G N z X4 _ _) zd_X11_placeOf zl_RX11_221 om_69 rfl rfl rfl rfl (Nat.le_of_ble_eq_true rfl) (Nat.le_of_ble_eq_true rfl) (Nat.le_of_ble_eq_true rfl) ⟨Nat.le_refl _, Nat.le_refl _⟩ (fun v7 => ?_)
              refine zr_iload_n (pc := 76) (zq_d eX11_inside 45 rfl) 1 rfl rfl ?_
              refine zr_icmp_ne (pc := 77) 109 (zq_d eX11_inside 46 rfl) (by decide) (fun _ => ?_) (fun _ => ?_)
              · refine zr_iconst (pc := 109) (zq_d eX11_inside 62 rfl) zc_i0 ?_
                refine zr_ior (pc := 110) (zq_d eX11_inside 63 rfl) ?_
                refine zr_istore_n (pc := 111) (lo2 := [(3, .int (v5 ||| (0 : Int32))), (0, .ref (zq_ad G 69)), (1, .int a1), (2, .int a2), (4, .int v6)]) (zq_d eX11_inside 64 rfl) rfl (Nat.le_of_ble_eq_true rfl) rfl ?_
                refine zr_iinc (pc := 112) (j := 4) (v := (v6 + (1 : Int32))) (lo2 := [(4, .int (v6 + (1 : Int32))), (3, .int (v5 ||| (0 : Int32))), (0, .ref (zq_ad G 69)), (1, .int a1), (2, .int a2)]) (zq_d eX11_inside 65 rfl) rfl (by rw [zc_i1]) (Nat.le_of_ble_eq_true rfl) rfl ?_
                refine zr_goto (pc := 115) 56 (zq_d eX11_inside 66 rfl) (by decide) ?_
                exact zr_lo [2, 3, 4, 1, 0] rfl (hrc56_1 (v5 ||| (0 : Int32)) (v6 + (1 : Int32)))
              · refine zr_iload_n (pc := 80) (zq_d eX11_inside 47 rfl) 2 rfl rfl ?_
                refine zr_iconst (pc := 81) (zq_d eX11_inside 48 rfl) zc_i2 ?_
                refine zr_icmp_eq (pc := 82) 102 (zq_d eX11_inside 49 rfl) (by decide) (fun _ => ?_) (fun _ => ?_)
                · refine zr_iconst (pc := 102) (zq_d eX11_inside 58 rfl) zc_i1 ?_
                  refine zr_iload (pc := 103) (zq_d eX11_inside 59 rfl) 4 rfl ?_
                  refine zr_ishl (pc := 105) (zq_d eX11_inside 60 rfl) ?_
                  refine zr_goto (pc := 106) 110 (zq_d eX11_inside 61 rfl) (by decide) ?_
                  refine zr_ior (pc := 110) (zq_d eX11_inside 63 rfl) ?_
                  refine zr_istore_n (pc := 111) (lo2 := [(3, .int (v5 ||| (zq_shl (1 : Int32) v6))), (0, .ref (zq_ad G 69)), (1, .int a1), (2, .int a2), (4, .int v6)]) (zq_d eX11_inside 64 rfl) rfl (Nat.le_of_ble_eq_true rfl) rfl ?_
                  refine zr_iinc (pc := 112) (j := 4) (v := (v6 + (1 : Int32))) (lo2 := [(4, .int (v6 + (1 : Int32))), (3, .int (v5 ||| (zq_shl (1 : Int32) v6))), (0, .ref (zq_ad G 69)), (1, .int a1), (2, .int a2)]) (zq_d eX11_inside 65 rfl) rfl (by rw [zc_i1]) (Nat.le_of_ble_eq_true rfl) rfl ?_
                  refine zr_goto (pc := 115) 56 (zq_d eX11_inside 66 rfl) (by decide) ?_
                  exact zr_lo [2, 3, 4, 1, 0] rfl (hrc56_1 (v5 ||| (zq_shl (1 : Int32) v6)) (v6 + (1 : Int32)))
                · refine zr_aload_n (pc := 85) (zq_d eX11_inside 50 rfl) 0 rfl rfl ?_
                  refine zr_aload_n (pc := 86) (zq_d eX11_inside 51 rfl) 0 rfl rfl ?_
                  refine zr_getI (pc := 87) (zq_d eX11_inside 52 rfl) zf_RX11_13 km_69_1 ?_
                  refine zr_iload (pc := 90) (zq_d eX11_inside 53 rfl) 4 rfl ?_
                  refine zr_aload_n (pc := 92) (zq_d eX11_inside 54 rfl) 0 rfl rfl ?_
                  refine zr_getI (pc := 93) (zq_d eX11_inside 55 rfl) zf_RX11_16 km_69_2 ?_
                  refine zr_Vi (pc := 96) [_, _, _] (zq_d eX11_inside 56 rfl) (s_X11_maySpeak G N z X4 _ _ _) zd_X11_maySpeak zl_RX11_256 om_69 rfl rfl rfl rfl (Nat.le_of_ble_eq_true rfl) (Nat.le_of_ble_eq_true rfl) (Nat.le_of_ble_eq_true rfl) ⟨Nat.le_refl _, Nat.le_refl _⟩ (fun v8 => ?_)
                  refine zr_if_eq (pc := 99) 109 (zq_d eX11_inside 57 rfl) (by decide) (fun _ => ?_) (fun _ => ?_)
                  · refine zr_iconst (pc := 109) (zq_d eX11_inside 62 rfl) zc_i0 ?_
                    refine zr_ior (pc := 110) (zq_d eX11_inside 63 rfl) ?_
                    refine zr_istore_n (pc := 111) (lo2 := [(3, .int (v5 ||| (0 : Int32))), (0, .ref (zq_ad G 69)), (1, .int a1), (2, .int a2), (4, .int v6)]) (zq_d eX11_inside 64 rfl) rfl (Nat.le_of_ble_eq_true rfl) rfl ?_
                    refine zr_iinc (pc := 112) (j := 4) (v := (v6 + (1 : Int32))) (lo2 := [(4, .int (v6 + (1 : Int32))), (3, .int (v5 ||| (0 : Int32))), (0, .ref (zq_ad G 69)), (1, .int a1), (2, .int a2)]) (zq_d eX11_inside 65 rfl) rfl (by rw [zc_i1]) (Nat.le_of_ble_eq_true rfl) rfl ?_
                    refine zr_goto (pc := 115) 56 (zq_d eX11_inside 66 rfl) (by decide) ?_
                    exact zr_lo [2, 3, 4, 1, 0] rfl (hrc56_1 (v5 ||| (0 : Int32)) (v6 + (1 : Int32)))
                  · refine zr_iconst (pc := 102) (zq_d eX11_inside 58 rfl) zc_i1 ?_
                    refine zr_iload (pc := 103) (zq_d eX11_inside 59 rfl) 4 rfl ?_
                    refine zr_ishl (pc := 105) (zq_d eX11_inside 60 rfl) ?_
                    refine zr_goto (pc := 106) 110 (zq_d eX11_inside 61 rfl) (by decide) ?_
                    refine zr_ior (pc := 110) (zq_d eX11_inside 63 rfl) ?_
                    refine zr_istore_n (pc := 111) (lo2 := [(3, .int (v5 ||| (zq_shl (1 : Int32) v6))), (0, .ref (zq_ad G 69)), (1, .int a1), (2, .int a2), (4, .int v6)]) (zq_d eX11_inside 64 rfl) rfl (Nat.le_of_ble_eq_true rfl) rfl ?_
                    refine zr_iinc (pc := 112) (j := 4) (v := (v6 + (1 : Int32))) (lo2 := [(4, .int (v6 + (1 : Int32))), (3, .int (v5 ||| (zq_shl (1 : Int32) v6))), (0, .ref (zq_ad G 69)), (1, .int a1), (2, .int a2)]) (zq_d eX11_inside 65 rfl) rfl (by rw [zc_i1]) (Nat.le_of_ble_eq_true rfl) rfl ?_
                    refine zr_goto (pc := 115) 56 (zq_d eX11_inside 66 rfl) (by decide) ?_
                    exact zr_lo [2, 3, 4, 1, 0] rfl (hrc56_1 (v5 ||| (zq_shl (1 : Int32) v6)) (v6 + (1 : Int32)))
          have hlrc56_1 := zr_loop (P := fun (rc56_1 : Int32 → Int32 → Option (Int32 × zq_M)) => ∀ (v5 : Int32) (v6 : Int32), zq_V G YX11_inside (4, 0, 0) (zq_si zq_shM z) 0 0 56 [(0, .ref (zq_ad G 69)), (1, .int a1), (2, .int a2), (3, .int v5), (4, .int v6)] [] zq_shM z X4 (rc56_1 v5 v6)) (fun _ _ => none) (b_X11_inside_56 N a1 a2 X4) (fun _ _ => zr_none) hbrc56_1 N
          exact zr_lo [2, 3, 4, 1, 0] rfl (hlrc56_1 (0 : Int32) (0 : Int32))
        · refine zr_aload_n (pc := 36) (zq_d eX11_inside 22 rfl) 0 rfl rfl ?_
          refine zr_getC (pc := 37) (zq_d eX11_inside 23 rfl) zf_RX11_35 km_69_8 ?_
          refine zr_iload_n (pc := 40) (zq_d eX11_inside 24 rfl) 1 rfl rfl ?_
          refine zr_iald (pc := 41) (zq_d eX11_inside 25 rfl) am_74 ?_
          exact zr_ireturn (pc := 42) (zq_d eX11_inside 26 rfl) rfl rfl (Nat.zero_le _) (Nat.zero_le _)
      · refine zr_aload_n (pc := 24) (zq_d eX11_inside 14 rfl) 0 rfl rfl ?_
        refine zr_getC (pc := 25) (zq_d eX11_inside 15 rfl) zf_RX11_32 km_69_7 ?_
        refine zr_iload_n (pc := 28) (zq_d eX11_inside 16 rfl) 1 rfl rfl ?_
        refine zr_iald (pc := 29) (zq_d eX11_inside 17 rfl) am_73 ?_
        exact zr_ireturn (pc := 30) (zq_d eX11_inside 18 rfl) rfl rfl (Nat.zero_le _) (Nat.zero_le _)
    · refine zr_iconst (pc := 18) (zq_d eX11_inside 10 rfl) zc_im1 ?_
      exact zr_ireturn (pc := 19) (zq_d eX11_inside 11 rfl) rfl rfl (Nat.zero_le _) (Nat.zero_le _)
def f_X11_feed (N : Nat) (X : zq_M) (a1 : Int32) : Option (Int32 × zq_M) :=
  (f_X11_within N X a1 (0 : Int32) (127 : Int32)).bind (fun v1 => if ¬ v1 = 0 then (if ¬ (X.1 69 12) = (100 : Int32) then (zq_ck (X.1 69 12) 100 (zq_b (zq_u1 X 75 (zq_ix (X.1 69 12)) a1) (fun X2 => zq_b (zq_u1 X2 69 12 ((X2.1 69 12) + (1 : Int32))) (fun X3 => some ((X3.1 69 12), X3))))) else (some ((-4 : Int32), X))) else (some ((-2 : Int32), X)))
set_option maxRecDepth 20000 in
set_option maxHeartbeats 8000000 in
theorem s_X11_feed (G : zq_G) (N z : Nat) (X : zq_M) (a1 : Int32) : zq_V G YX11_feed (2, 0, 0) (zq_si zq_shM z) 0 0 0 (lv_args 0 [.ref (zq_ad G 69), .int a1]) [] zq_shM z X (f_X11_feed N X a1) := by
  unfold f_X11_feed
  refine zr_lo (l2 := [(0, .ref (zq_ad G 69)), (1, .int a1)]) [0, 1] rfl ?_
  refine zr_aload_n (pc := 0) (zq_d eX11_feed 0 rfl) 0 rfl rfl ?_
  refine zr_iload_n (pc := 1) (zq_d eX11_feed 1 rfl) 1 rfl rfl ?_
  refine zr_iconst (pc := 2) (zq_d eX11_feed 2 rfl) zc_i0 ?_
  refine zr_bipush (pc := 3) (zq_d eX11_feed 3 rfl) zc_b127 ?_
  refine zr_Vi (pc := 5) [_, _, _] (zq_d eX11_feed 4 rfl) (s_X11_within G N z X _ _ _) zd_X11_within zl_RX11_217 om_69 rfl rfl rfl rfl (Nat.le_of_ble_eq_true rfl) (Nat.le_of_ble_eq_true rfl) (Nat.le_of_ble_eq_true rfl) ⟨Nat.le_refl _, Nat.le_refl _⟩ (fun v1 => ?_)
  refine zr_if_ne (pc := 8) 14 (zq_d eX11_feed 5 rfl) (by decide) (fun _ => ?_) (fun _ => ?_)
  · refine zr_aload_n (pc := 14) (zq_d eX11_feed 8 rfl) 0 rfl rfl ?_
    refine zr_getI (pc := 15) (zq_d eX11_feed 9 rfl) zf_RX11_47 km_69_12 ?_
    refine zr_bipush (pc := 18) (zq_d eX11_feed 10 rfl) zc_b100 ?_
    refine zr_icmp_ne (pc := 20) 26 (zq_d eX11_feed 11 rfl) (by decide) (fun _ => ?_) (fun _ => ?_)
    · refine zr_aload_n (pc := 26) (zq_d eX11_feed 14 rfl) 0 rfl rfl ?_
      refine zr_getC (pc := 27) (zq_d eX11_feed 15 rfl) zf_RX11_56 km_69_15 ?_
      refine zr_aload_n (pc := 30) (zq_d eX11_feed 16 rfl) 0 rfl rfl ?_
      refine zr_getI (pc := 31) (zq_d eX11_feed 17 rfl) zf_RX11_47 km_69_12 ?_
      refine zr_iload_n (pc := 34) (zq_d eX11_feed 18 rfl) 1 rfl rfl ?_
      refine zr_iast (pc := 35) (zq_d eX11_feed 19 rfl) am_75 (fun X2 => ?_)
      refine zr_aload_n (pc := 36) (zq_d eX11_feed 20 rfl) 0 rfl rfl ?_
      refine zr_dup (pc := 37) (zq_d eX11_feed 21 rfl) rfl ?_
      refine zr_getI (pc := 38) (zq_d eX11_feed 22 rfl) zf_RX11_47 km_69_12 ?_
      refine zr_iconst (pc := 41) (zq_d eX11_feed 23 rfl) zc_i1 ?_
      refine zr_iadd (pc := 42) (zq_d eX11_feed 24 rfl) ?_
      refine zr_putI (pc := 43) (zq_d eX11_feed 25 rfl) zf_RX11_47 km_69_12 zn_11_12 (fun X3 => ?_)
      refine zr_aload_n (pc := 46) (zq_d eX11_feed 26 rfl) 0 rfl rfl ?_
      refine zr_getI (pc := 47) (zq_d eX11_feed 27 rfl) zf_RX11_47 km_69_12 ?_
      exact zr_ireturn (pc := 50) (zq_d eX11_feed 28 rfl) rfl rfl (Nat.zero_le _) (Nat.zero_le _)
    · refine zr_bipush (pc := 23) (zq_d eX11_feed 12 rfl) zc_bm4 ?_
      exact zr_ireturn (pc := 25) (zq_d eX11_feed 13 rfl) rfl rfl (Nat.zero_le _) (Nat.zero_le _)
  · refine zr_bipush (pc := 11) (zq_d eX11_feed 6 rfl) zc_bm2 ?_
    exact zr_ireturn (pc := 13) (zq_d eX11_feed 7 rfl) rfl rfl (Nat.zero_le _) (Nat.zero_le _)
def f_X11_next (N : Nat) (X : zq_M)  : Option Int32 :=
  if (X.1 69 12) ≤ (X.1 69 13) then (some (-1 : Int32)) else (zq_ck (X.1 69 13) 100 (some (X.1 75 (zq_ix (X.1 69 13)))))
set_option maxRecDepth 20000 in
set_option maxHeartbeats 8000000 in
theorem s_X11_next (G : zq_G) (N z : Nat) (X : zq_M)  : zq_V G YX11_next (1, 0, 0) (zq_ei zq_shM z X) 0 0 0 (lv_args 0 [.ref (zq_ad G 69)]) [] zq_shM z X (f_X11_next N X ) := by
  unfold f_X11_next
  refine zr_lo (l2 := [(0, .ref (zq_ad G 69))]) [0] rfl ?_
  refine zr_aload_n (pc := 0) (zq_d eX11_next 0 rfl) 0 rfl rfl ?_
  refine zr_getI (pc := 1) (zq_d eX11_next 1 rfl) zf_RX11_50 km_69_13 ?_
  refine zr_aload_n (pc := 4) (zq_d eX11_next 2 rfl) 0 rfl rfl ?_
  refine zr_getI (pc := 5) (zq_d eX11_next 3 rfl) zf_RX11_47 km_69_12 ?_
  refine zr_icmp_ge (pc := 8) 23 (zq_d eX11_next 4 rfl) (by decide) (fun _ => ?_) (fun _ => ?_)
  · refine zr_iconst (pc := 23) (zq_d eX11_next 11 rfl) zc_im1 ?_
    exact zr_ireturn (pc := 24) (zq_d eX11_next 12 rfl) rfl rfl (Nat.zero_le _) (Nat.zero_le _)
  · refine zr_aload_n (pc := 11) (zq_d eX11_next 5 rfl) 0 rfl rfl ?_
    refine zr_getC (pc := 12) (zq_d eX11_next 6 rfl) zf_RX11_56 km_69_15 ?_
    refine zr_aload_n (pc := 15) (zq_d eX11_next 7 rfl) 0 rfl rfl ?_
    refine zr_getI (pc := 16) (zq_d eX11_next 8 rfl) zf_RX11_50 km_69_13 ?_
    refine zr_iald (pc := 19) (zq_d eX11_next 9 rfl) am_75 ?_
    refine zr_goto (pc := 20) 24 (zq_d eX11_next 10 rfl) (by decide) ?_
    exact zr_ireturn (pc := 24) (zq_d eX11_next 12 rfl) rfl rfl (Nat.zero_le _) (Nat.zero_le _)
def f_X11_takes (N : Nat) (X : zq_M) (a1 : Int32) : Option (Int32 × zq_M) :=
  (f_X11_next N X).bind (fun v1 => if v1 = a1 then (zq_b (zq_u1 X 69 13 ((X.1 69 13) + (1 : Int32))) (fun X2 => some ((1 : Int32), X2))) else (some ((0 : Int32), X)))
set_option maxRecDepth 20000 in
set_option maxHeartbeats 8000000 in
theorem s_X11_takes (G : zq_G) (N z : Nat) (X : zq_M) (a1 : Int32) : zq_V G YX11_takes (2, 0, 0) (zq_si zq_shM z) 0 0 0 (lv_args 0 [.ref (zq_ad G 69), .int a1]) [] zq_shM z X (f_X11_takes N X a1) := by
  unfold f_X11_takes
  refine zr_lo (l2 := [(0, .ref (zq_ad G 69)), (1, .int a1)]) [0, 1] rfl ?_
  refine zr_aload_n (pc := 0) (zq_d eX11_takes 0 rfl) 0 rfl rfl ?_
  refine zr_Vi (pc := 1) [] (zq_d eX11_takes 1 rfl) (s_X11_next G N z X ) zd_X11_next zl_RX11_262 om_69 rfl rfl rfl rfl (Nat.le_of_ble_eq_true rfl) (Nat.le_of_ble_eq_true rfl) (Nat.le_of_ble_eq_true rfl) ⟨Nat.le_refl _, Nat.le_refl _⟩ (fun v1 => ?_)
  refine zr_iload_n (pc := 4) (zq_d eX11_takes 2 rfl) 1 rfl rfl ?_
  refine zr_icmp_eq (pc := 5) 10 (zq_d eX11_takes 3 rfl) (by decide) (fun _ => ?_) (fun _ => ?_)
  · refine zr_aload_n (pc := 10) (zq_d eX11_takes 6 rfl) 0 rfl rfl ?_
    refine zr_dup (pc := 11) (zq_d eX11_takes 7 rfl) rfl ?_
    refine zr_getI (pc := 12) (zq_d eX11_takes 8 rfl) zf_RX11_50 km_69_13 ?_
    refine zr_iconst (pc := 15) (zq_d eX11_takes 9 rfl) zc_i1 ?_
    refine zr_iadd (pc := 16) (zq_d eX11_takes 10 rfl) ?_
    refine zr_putI (pc := 17) (zq_d eX11_takes 11 rfl) zf_RX11_50 km_69_13 zn_11_13 (fun X2 => ?_)
    refine zr_iconst (pc := 20) (zq_d eX11_takes 12 rfl) zc_i1 ?_
    exact zr_zreturn (pc := 21) (zq_d eX11_takes 13 rfl) rfl rfl rfl (Nat.zero_le _) (Nat.zero_le _)
  · refine zr_iconst (pc := 8) (zq_d eX11_takes 4 rfl) zc_i0 ?_
    exact zr_zreturn (pc := 9) (zq_d eX11_takes 5 rfl) rfl rfl rfl (Nat.zero_le _) (Nat.zero_le _)
def k_X11_takesWord_30_2 (N : Nat) (X2 : zq_M)  : Option (Int32 × zq_M) :=
  (f_X11_takes N X2 (32 : Int32)).bind (zq_p (fun v3 X4 => zq_gz v3 (some (v3, X4))))
def b_X11_takesWord_2 (N : Nat) (a1 : Int32) (a2 : Int32) (rc2_1 : Int32 → zq_M → Option (Int32 × zq_M)) (v1 : Int32) (X2 : zq_M) : Option (Int32 × zq_M) :=
  if a2 ≤ v1 then (k_X11_takesWord_30_2 N X2) else (zq_ck (a1 + v1) 17 ((f_X11_takes N X2 (X2.1 83 (zq_ix (a1 + v1)))).bind (zq_p (fun v5 X6 => if ¬ v5 = 0 then (rc2_1 (v1 + (1 : Int32)) X6) else (some ((0 : Int32), X6))))))
def f_X11_takesWord (N : Nat) (X : zq_M) (a1 : Int32) (a2 : Int32) : Option (Int32 × zq_M) :=
  zq_loop (fun _ _ => none) (b_X11_takesWord_2 N a1 a2) N (0 : Int32) X
set_option maxRecDepth 20000 in
set_option maxHeartbeats 8000000 in
theorem s_X11_takesWord (G : zq_G) (N z : Nat) (X : zq_M) (a1 : Int32) (a2 : Int32) : zq_V G YX11_takesWord (3, 0, 0) (zq_si zq_shM z) 0 0 0 (lv_args 0 [.ref (zq_ad G 69), .int a1, .int a2]) [] zq_shM z X (f_X11_takesWord N X a1 a2) := by
  unfold f_X11_takesWord
  refine zr_lo (l2 := [(0, .ref (zq_ad G 69)), (1, .int a1), (2, .int a2)]) [0, 1, 2] rfl ?_
  refine zr_iconst (pc := 0) (zq_d eX11_takesWord 0 rfl) zc_i0 ?_
  refine zr_istore_n (pc := 1) (lo2 := [(3, .int (0 : Int32)), (0, .ref (zq_ad G 69)), (1, .int a1), (2, .int a2)]) (zq_d eX11_takesWord 1 rfl) rfl (Nat.le_of_ble_eq_true rfl) rfl ?_
  have hbrc2_1 : ∀ rc2_1 : Int32 → zq_M → Option (Int32 × zq_M), (∀ (v1 : Int32) (X2 : zq_M), zq_V G YX11_takesWord (3, 0, 0) (zq_si zq_shM z) 0 0 2 [(0, .ref (zq_ad G 69)), (1, .int a1), (2, .int a2), (3, .int v1)] [] zq_shM z X2 (rc2_1 v1 X2)) → ∀ (v1 : Int32) (X2 : zq_M), zq_V G YX11_takesWord (3, 0, 0) (zq_si zq_shM z) 0 0 2 [(0, .ref (zq_ad G 69)), (1, .int a1), (2, .int a2), (3, .int v1)] [] zq_shM z X2 (b_X11_takesWord_2 N a1 a2 rc2_1 v1 X2) := by
    intro rc2_1 hrc2_1 v1 X2
    unfold b_X11_takesWord_2
    refine zr_iload_n (pc := 2) (zq_d eX11_takesWord 2 rfl) 3 rfl rfl ?_
    refine zr_iload_n (pc := 3) (zq_d eX11_takesWord 3 rfl) 2 rfl rfl ?_
    refine zr_icmp_ge (pc := 4) 30 (zq_d eX11_takesWord 4 rfl) (by decide) (fun _ => ?_) (fun _ => ?_)
    · unfold k_X11_takesWord_30_2
      refine zr_aload_n (pc := 30) (zq_d eX11_takesWord 18 rfl) 0 rfl rfl ?_
      refine zr_bipush (pc := 31) (zq_d eX11_takesWord 19 rfl) zc_b32 ?_
      refine zr_Wsi (pc := 33) [_] (zq_d eX11_takesWord 20 rfl) (s_X11_takes G N z X2 _) zd_X11_takes zl_RX11_265 om_69 rfl rfl rfl rfl (Nat.le_of_ble_eq_true rfl) (Nat.le_of_ble_eq_true rfl) (Nat.le_of_ble_eq_true rfl) ⟨Nat.le_refl _, Nat.le_refl _⟩ (fun v3 X4 => ?_)
      exact zr_zreturnG (pc := 36) (zq_d eX11_takesWord 21 rfl) rfl rfl (Nat.zero_le _) (Nat.zero_le _)
    · refine zr_aload_n (pc := 7) (zq_d eX11_takesWord 5 rfl) 0 rfl rfl ?_
      refine zr_aload_n (pc := 8) (zq_d eX11_takesWord 6 rfl) 0 rfl rfl ?_
      refine zr_getC (pc := 9) (zq_d eX11_takesWord 7 rfl) zf_RX11_89 km_69_26 ?_
      refine zr_iload_n (pc := 12) (zq_d eX11_takesWord 8 rfl) 1 rfl rfl ?_
      refine zr_iload_n (pc := 13) (zq_d eX11_takesWord 9 rfl) 3 rfl rfl ?_
      refine zr_iadd (pc := 14) (zq_d eX11_takesWord 10 rfl) ?_
      refine zr_iald (pc := 15) (zq_d eX11_takesWord 11 rfl) am_83 ?_
      refine zr_Wsi (pc := 16) [_] (zq_d eX11_takesWord 12 rfl) (s_X11_takes G N z X2 _) zd_X11_takes zl_RX11_265 om_69 rfl rfl rfl rfl (Nat.le_of_ble_eq_true rfl) (Nat.le_of_ble_eq_true rfl) (Nat.le_of_ble_eq_true rfl) ⟨Nat.le_refl _, Nat.le_refl _⟩ (fun v5 X6 => ?_)
      refine zr_if_ne (pc := 19) 24 (zq_d eX11_takesWord 13 rfl) (by decide) (fun _ => ?_) (fun _ => ?_)
      · refine zr_iinc (pc := 24) (j := 3) (v := (v1 + (1 : Int32))) (lo2 := [(3, .int (v1 + (1 : Int32))), (0, .ref (zq_ad G 69)), (1, .int a1), (2, .int a2)]) (zq_d eX11_takesWord 16 rfl) rfl (by rw [zc_i1]) (Nat.le_of_ble_eq_true rfl) rfl ?_
        refine zr_goto (pc := 27) 2 (zq_d eX11_takesWord 17 rfl) (by decide) ?_
        exact zr_lo [1, 2, 3, 0] rfl (hrc2_1 (v1 + (1 : Int32)) X6)
      · refine zr_iconst (pc := 22) (zq_d eX11_takesWord 14 rfl) zc_i0 ?_
        exact zr_zreturn (pc := 23) (zq_d eX11_takesWord 15 rfl) rfl rfl rfl (Nat.zero_le _) (Nat.zero_le _)
  have hlrc2_1 := zr_loop (P := fun (rc2_1 : Int32 → zq_M → Option (Int32 × zq_M)) => ∀ (v1 : Int32) (X2 : zq_M), zq_V G YX11_takesWord (3, 0, 0) (zq_si zq_shM z) 0 0 2 [(0, .ref (zq_ad G 69)), (1, .int a1), (2, .int a2), (3, .int v1)] [] zq_shM z X2 (rc2_1 v1 X2)) (fun _ _ => none) (b_X11_takesWord_2 N a1 a2) (fun _ _ => zr_none) hbrc2_1 N
  exact zr_lo [1, 2, 3, 0] rfl (hlrc2_1 (0 : Int32) X)
