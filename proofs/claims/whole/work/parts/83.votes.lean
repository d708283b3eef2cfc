theorem zs_spl (f g : Nat → Bool) : ∀ n, zs_cnt f n = zs_cnt (fun p => f p && g p) n + zs_cnt (fun p => f p && !(g p)) n := by
  intro n
  induction n with
  | zero => rfl
  | succ n ih =>
    cases h : f n <;> cases h2 : g n
    · rw [zs_cf (p := f) (by simp [h]), zs_cf (p := fun p => f p && g p) (by simp [h]), zs_cf (p := fun p => f p && !(g p)) (by simp [h]), ih]
    · rw [zs_cf (p := f) (by simp [h]), zs_cf (p := fun p => f p && g p) (by simp [h]), zs_cf (p := fun p => f p && !(g p)) (by simp [h]), ih]
    · rw [zs_ct (p := f) (by simp [h]), zs_cf (p := fun p => f p && g p) (by simp [h2]), zs_ct (p := fun p => f p && !(g p)) (by simp [h, h2]), ih]
      omega
    · rw [zs_ct (p := f) (by simp [h]), zs_ct (p := fun p => f p && g p) (by simp [h, h2]), zs_cf (p := fun p => f p && !(g p)) (by simp [h2]), ih]
      omega
theorem zs_band (a b s : Nat) : zs_bit (a &&& b) s = (zs_bit a s && zs_bit b s) := by rw [zs_bt, zs_bt, zs_bt, Nat.testBit_and]
theorem zs_sand (f g : Nat → Bool) (n : Nat) : zs_set f n &&& zs_set g n = zs_set (fun p => f p && g p) n := by
  apply zs_ext
  intro k
  rw [zs_band]
  by_cases h : k < n
  · rw [zs_bset _ h, zs_bset _ h, zs_bset _ h]
  · rw [zs_bset2 _ (by omega), zs_bset2 _ (by omega), zs_bset2 _ (by omega)]; rfl
theorem zn_vm : ∀ a : Nat, a < 6 → ∀ b : Nat, b < 6 → zn a - zn b + (-1 : Int32) = zn a - zn (b + 1) ∧ zn a - zn b + (1 : Int32) = zn (a + 1) - zn b ∧ zn a - zn b + (0 : Int32) = zn a - zn b ∧ (zn a - zn b ≤ 0 ↔ a ≤ b) := by decide +kernel
theorem zn_v0 : (0 : Int32) = zn 0 - zn 0 := by decide
theorem zn_v1 : ((if false = true then (1 : Int32) else 0) = 0) := rfl
theorem zn_v2 : ¬ ((if true = true then (1 : Int32) else 0) = 0) := by decide
theorem zI_votes (N : Nat) (hN : 12 < N) : zq_op_votes N zI := by
  intro q j X M a b hq hI
  have hI1 := zI_idle q j X M hI
  obtain ⟨S, h, C, W, U, E, T, hA⟩ := zy_pic N hq hI
  obtain ⟨hS, hq1, hX, hM, -⟩ := hA
  have hn := hS.1
  have d4 : ¬ ((1 : Int32) = 0) := by decide
  unfold f_X10_votes f_X11_votes
  rw [zw_xr, zw_mr, zw_xt, zw_mt]
  simp only [Option.bind_some]
  by_cases c0 : a < 0 ∨ 2 < a
  · simp only [c0, if_true]
    exact ⟨_, rfl, rfl, hI1⟩
  simp only [c0, d4, if_false]
  by_cases c1 : b < 0 ∨ 7 < b
  · simp only [c1, if_true, not_true, if_false]
    exact ⟨_, rfl, rfl, hI1⟩
  simp only [c1, d4, if_false, not_false_iff, if_true]
  obtain ⟨r, hr, rfl⟩ := zw_in (n := 2) (fun h => c0 (Or.inl h)) (fun h => c0 (Or.inr h)) (by omega)
  obtain ⟨t, ht, rfl⟩ := zw_in (n := 7) (fun h => c1 (Or.inl h)) (fun h => c1 (Or.inr h)) (by omega)
  have w1 : f_X5_whoIsAt N j X 1 (zn r) = some (zn (zs_set (fun p => S 3 p == r) (S 0 0))) := zy_who (h := 1) (by omega) hX.1 hn hX.2.2.2.2.1 hS.2.2.2.2.2.1 (by omega)
  have w2 : f_X5_whoKnows N j X 1 (zn t) = some (zn (zs_set (fun p => zs_bit (S 4 p) t) (S 0 0))) := zy_wkX (h := 1) (by omega) hX.1 hn (by omega) hX.2.2.2.2.2.1 hS.2.2.2.2.2.2.1
  rw [w1, w2, Option.bind_some, Option.bind_some]
  rw [zn_and, zs_sand]
  rw [zb_c _ _ _ (Nat.lt_trans (zs_l32 _ hn) (by decide)), zb_c _ _ _ (Nat.lt_trans (zs_l32 _ hn) (by decide)), zs_cext _ (by omega), zs_cext _ (by omega)]
  simp only [Option.bind_some]
  have g1 := zs_cle (fun p => S 3 p == r) (S 0 0)
  have g2 := zs_spl (fun p => S 3 p == r) (fun p => zs_bit (S 4 p) t) (S 0 0)
  refine ⟨if zs_cnt (fun p => (S 3 p == r) && zs_bit (S 4 p) t) (S 0 0) * 2 ≤ zs_cnt (fun p => S 3 p == r) (S 0 0) then 0 else 1, by simp (disch := omega) only [zl_2, zn_mul, zn_le]; split <;> rfl, ?_, hI1⟩
  refine zL (α := Int32 → Int32 → Option Int32) (fun (v : Int32) p f => f v (zn p)) (fun k v => v = zn (zs_cnt (fun p => (S 3 p == r) && zs_bit (S 4 p) t) k) - zn (zs_cnt (fun p => (S 3 p == r) && !(zs_bit (S 4 p) t)) k)) (fun o => o = some (if zs_cnt (fun p => (S 3 p == r) && zs_bit (S 4 p) t) (S 0 0) * 2 ≤ zs_cnt (fun p => S 3 p == r) (S 0 0) then 0 else 1)) (S 0 0) ?_ ?_ N 0 0 (by omega) (by omega) zn_v0
  · intro rc p v hp hv ih
    have k1 := zs_cle (fun p => (S 3 p == r) && zs_bit (S 4 p) t) p
    have k2 := zs_cle (fun p => (S 3 p == r) && !(zs_bit (S 4 p) t)) p
    obtain ⟨m1, m2, m3, -⟩ := zn_vm _ (show zs_cnt (fun p => (S 3 p == r) && zs_bit (S 4 p) t) p < 6 by omega) _ (show zs_cnt (fun p => (S 3 p == r) && !(zs_bit (S 4 p) t)) p < 6 by omega)
    unfold b_X11_votes_23
    rw [hM.1, if_neg (by rw [zn_le (by omega) (by omega)]; omega), hM.2.1, zy_plM N M (by omega) (zy_wl hS), zy_plc hS (by omega)]
    simp only [Option.bind_some]
    have e1 : zn p + (1 : Int32) = zn (p + 1) := by rw [zl_1, zn_add]
    have s3 := hS.2.2.2.2.2.1 p (by omega)
    have e2 : (zn (S 3 p) = zn r) = (S 3 p = r) := zn_eq (by omega) (by omega)
    simp only [e2, e1]
    by_cases c2 : S 3 p = r
    · have s4 := hS.2.2.2.2.2.2.1 p (by omega)
      rw [if_pos c2, zn_ck (by omega) (by omega), zn_ix (by omega), hM.2.2.2.2.2.1 p (by omega), zy_hasM N M (by omega) (by omega)]
      simp only [Option.bind_some]
      cases c3 : zs_bit (S 4 p) t
      · rw [if_pos zn_v1]
        refine ih _ ?_
        rw [zs_cf (by simp [c3]), zs_ct (by simp [c2, c3]), hv, m1]
      · rw [if_neg zn_v2]
        refine ih _ ?_
        rw [zs_ct (by simp [c2, c3]), zs_cf (by simp [c3]), hv, m2]
    · rw [if_neg c2]
      refine ih _ ?_
      rw [zs_cf (by simp [c2]), zs_cf (by simp [c2]), hv, m3]
  · intro rc v hv
    have k1 := zs_cle (fun p => (S 3 p == r) && zs_bit (S 4 p) t) (S 0 0)
    have k2 := zs_cle (fun p => (S 3 p == r) && !(zs_bit (S 4 p) t)) (S 0 0)
    obtain ⟨-, -, -, m4⟩ := zn_vm _ (show zs_cnt (fun p => (S 3 p == r) && zs_bit (S 4 p) t) (S 0 0) < 6 by omega) _ (show zs_cnt (fun p => (S 3 p == r) && !(zs_bit (S 4 p) t)) (S 0 0) < 6 by omega)
    unfold b_X11_votes_23
    rw [hM.1, if_pos (by rw [zn_le (by omega) (by omega)]; omega)]
    unfold k_X11_votes_79_2
    rw [hv, g2]
    by_cases c5 : zs_cnt (fun p => (S 3 p == r) && zs_bit (S 4 p) t) (S 0 0) ≤ zs_cnt (fun p => (S 3 p == r) && !(zs_bit (S 4 p) t)) (S 0 0)
    · rw [if_pos (m4.mpr c5), if_pos (by omega)]
    · rw [if_neg (fun h => c5 (m4.mp h)), if_neg (by omega)]
