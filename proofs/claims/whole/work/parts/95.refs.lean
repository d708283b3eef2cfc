def zf69 (M M1 : zq_M) : Prop := M1.2 = M.2 ∧ (∀ c, c ≠ 69 → M1.1 c = M.1 c) ∧ ∀ k, k ≠ 13 ∧ k ≠ 14 → M1.1 69 k = M.1 69 k
theorem zf69_r (M : zq_M) : zf69 M M := ⟨rfl, fun _ _ => rfl, fun _ _ => rfl⟩
theorem zf69_u {M M1 : zq_M} {k : Nat} {v : Int32} (hk : k = 13 ∨ k = 14) (h : zf69 M M1) : zf69 M (zq_u1 M1 69 k v) := ⟨h.1, fun c hc => by rw [zq_un hc]; exact h.2.1 c hc, fun k1 hk1 => by rw [zq_us1 (by omega)]; exact h.2.2 k1 hk1⟩
theorem zRM_u {L p k : Nat} {t : Nat → Nat} {M : zq_M} {v : Int32} (hk : k ≠ 12 ∧ k ≠ 13) (h : zRM t L p M) : zRM t L p (zq_u1 M 69 k v) := by
  obtain ⟨h1, h2, h3, h4, h5⟩ := h
  refine ⟨h1, h2, ?_, ?_, fun i hi => ?_⟩
  · rw [zq_us1 (by omega)]; exact h3
  · rw [zq_us1 (by omega)]; exact h4
  · rw [zq_un (by omega)]; exact h5 i hi
theorem zR_nv {t : Nat → Nat} {L p : Nat} (h : p < L) : zRv t L p = zn (zX_nx t L p) := by
  unfold zRv zX_nx
  rw [if_pos h, if_pos h]
theorem zR_ns {N L p a v : Nat} {t : Nat → Nat} {X : zq_M} {rc : Int32 → zq_M → Option (Int32 × zq_M)} (H : zRM t L p X) (ha : X.1 69 14 = zn a) (hv : v < 2) : b_X11_takesNumber_16 N rc (zn v) X = if zX_dg (zX_nx t L p) = true then rc (zn (v + 1)) (zq_u1 (zq_u1 X 69 14 (zn (10 * a + (zX_nx t L p - 48)))) 69 13 (zn (p + 1))) else some (1, X) := by
  unfold b_X11_takesNumber_16
  rw [zl_2, if_neg (by rw [zn_le (by omega) (by omega)]; omega), zR_isd H, Option.bind_some]
  by_cases c : zX_dg (zX_nx t L p) = true
  · have g := zX_dgp c
    have p1 := zX_pp (show zX_nx t L p ≠ 200 by omega)
    rw [if_pos c, if_pos c, if_neg (by decide), zR_next H, Option.bind_some, zR_nv p1, ha]
    have q10 : (10 : Int32) = zn 10 := rfl
    have q48 : (48 : Int32) = zn 48 := rfl
    simp only [zq_b]
    rw [zq_us1 (by omega), H.2.2.2.1, q10, q48, zn_mul, zn_add, zn_sub (by omega), zl_1, zn_add, zn_add, show 10 * a + zX_nx t L p - 48 = 10 * a + (zX_nx t L p - 48) by omega]
  · rw [if_neg c, if_neg c, if_pos rfl]
theorem zR_num {N L p : Nat} {t : Nat → Nat} {M : zq_M} (hN : 3 < N) (h : zRM t L p M) : ∃ M1, f_X11_takesNumber N M = some (if (zX_nu (zX_nx t L) p).1 = true then 1 else 0, M1) ∧ zf69 M M1 ∧ zRM t L (zX_nu (zX_nx t L) p).2.1 M1 ∧ ((zX_nu (zX_nx t L) p).1 = true → M1.1 69 14 = zn (zX_nu (zX_nx t L) p).2.2) := by
  obtain ⟨K, rfl⟩ : ∃ K, N = K + 3 := ⟨N - 3, by omega⟩
  unfold f_X11_takesNumber
  rw [zR_isd h, Option.bind_some]
  unfold zX_nu
  by_cases c : zX_dg (zX_nx t L p) = true
  · have g := zX_dgp c
    have p1 := zX_pp (show zX_nx t L p ≠ 200 by omega)
    simp only [if_pos c]
    rw [if_pos (by decide)]
    have H2 : zRM t L p (zq_u1 M 69 14 0) := zRM_u (by omega) h
    have e1 := zR_ns (N := K + 3) (rc := zq_loop (fun _ _ => none) (b_X11_takesNumber_16 (K + 3)) (K + 2)) (v := 0) (a := 0) H2 (by rw [zq_g1, if_pos ⟨rfl, rfl⟩]; rfl) (by omega)
    rw [if_pos c] at e1
    have H3 : zRM t L (p + 1) (zq_u1 (zq_u1 (zq_u1 M 69 14 0) 69 14 (zn (10 * 0 + (zX_nx t L p - 48)))) 69 13 (zn (p + 1))) := zR_at (zRM_u (by omega) H2) (by omega)
    have F3 : zf69 M (zq_u1 (zq_u1 (zq_u1 M 69 14 0) 69 14 (zn (10 * 0 + (zX_nx t L p - 48)))) 69 13 (zn (p + 1))) := zf69_u (by omega) (zf69_u (by omega) (zf69_u (by omega) (zf69_r M)))
    have A3 : (zq_u1 (zq_u1 (zq_u1 M 69 14 0) 69 14 (zn (10 * 0 + (zX_nx t L p - 48)))) 69 13 (zn (p + 1))).1 69 14 = zn (10 * 0 + (zX_nx t L p - 48)) := by rw [zq_us1 (by omega), zq_g1, if_pos ⟨rfl, rfl⟩]
    have e2 := zR_ns (N := K + 3) (rc := zq_loop (fun _ _ => none) (b_X11_takesNumber_16 (K + 3)) (K + 1)) (v := 1) H3 A3 (by omega)
    have e0 : zq_b (zq_u1 M 69 14 (0 : Int32)) (fun X2 => zq_loop (fun _ _ => none) (b_X11_takesNumber_16 (K + 3)) (K + 3) (0 : Int32) X2) = _ := e1.trans e2
    rw [e0]
    by_cases c2 : zX_dg (zX_nx t L (p + 1)) = true
    · have g2 := zX_dgp c2
      have p2 := zX_pp (show zX_nx t L (p + 1) ≠ 200 by omega)
      simp only [if_pos c2]
      refine ⟨zq_u1 (zq_u1 (zq_u1 (zq_u1 (zq_u1 M 69 14 0) 69 14 (zn (10 * 0 + (zX_nx t L p - 48)))) 69 13 (zn (p + 1))) 69 14 (zn (10 * (10 * 0 + (zX_nx t L p - 48)) + (zX_nx t L (p + 1) - 48)))) 69 13 (zn (p + 1 + 1)), rfl, zf69_u (by omega) (zf69_u (by omega) F3), zR_at (zRM_u (by omega) H3) (by omega), fun _ => ?_⟩
      rw [zq_us1 (by omega), zq_g1, if_pos ⟨rfl, rfl⟩, Nat.mul_zero, Nat.zero_add]
    · simp only [if_neg c2]
      refine ⟨_, rfl, F3, H3, fun _ => ?_⟩
      rw [A3, Nat.mul_zero, Nat.zero_add]
  · simp only [if_neg c]
    rw [if_neg (by decide)]
    exact ⟨M, rfl, zf69_r M, h, fun h => (by cases h)⟩
def zR_sk (M : zq_M) : List Nat → Prop
  | [] => True
  | k :: W => M.1 82 W.length = zn k ∧ k < 128 ∧ zR_sk M W
theorem zR_skf {M M1 : zq_M} : ∀ {W : List Nat}, (∀ n, n < W.length → M1.1 82 n = M.1 82 n) → zR_sk M W → zR_sk M1 W
  | [], _, _ => trivial
  | k :: W, hf, h => ⟨by rw [hf W.length (Nat.lt_succ_self _)]; exact h.1, h.2.1, zR_skf (fun n hn => hf n (Nat.lt_succ_of_lt hn)) h.2.2⟩
def zRf (B a : Nat) (M0 M : zq_M) : Prop := M.2 = M0.2 ∧ (∀ c, c ≠ 69 ∧ c ≠ 80 ∧ c ≠ 81 ∧ c ≠ 82 → M.1 c = M0.1 c) ∧ (∀ k, k ≠ 13 ∧ k ≠ 14 ∧ k ≠ 23 ∧ k ≠ 24 ∧ k ≠ 25 → M.1 69 k = M0.1 69 k) ∧ (∀ k, k < B → M.1 81 k = M0.1 81 k) ∧ ∀ k, k ≠ a → M.1 80 k = M0.1 80 k
def zRS (t : Nat → Nat) (L B a : Nat) (M0 : zq_M) (W : List Nat) (o : Nat) (T : List Nat) (p : Nat) (M : zq_M) : Prop := zRM t L p M ∧ M.1 69 24 = zn W.length ∧ M.1 69 25 = zn o ∧ M.1 69 23 = zn (B + T.length) ∧ zR_sk M W ∧ (∀ n k, T[n]? = some k → M.1 81 (B + n) = zt_cm k) ∧ zRf B a M0 M
theorem zR_put {N L B a o p k : Nat} {t : Nat → Nat} {W T : List Nat} {M0 M : zq_M} (h : zRS t L B a M0 W o T p M) (hb : B + T.length < 600) : ∃ M1, f_X11_put N M (zt_cm k) = some M1 ∧ zRS t L B a M0 W o (T ++ [k]) p M1 := by
  obtain ⟨h1, h2, h3, h4, h5, h6, f1, f2, f3, f4, f5⟩ := h
  refine ⟨zq_u1 (zq_u1 M 81 (B + T.length) (zt_cm k)) 69 23 (zn (B + T.length + 1)), ?_, ⟨?_, ?_, ?_, ?_, ?_⟩, ?_, ?_, ?_, ?_, ?_, ⟨f1, fun c hc => ?_, fun k hk => ?_, fun k hk => ?_, fun k hk => ?_⟩⟩
  · unfold f_X11_put
    rw [h4, zn_ck (by omega) (by omega), zn_ix (by omega)]
    simp only [zq_b]
    rw [zq_us1 (by omega), h4, zl_1, zn_add]
  · exact h1.1
  · exact h1.2.1
  · rw [zq_us1 (by omega), zq_us1 (by omega)]; exact h1.2.2.1
  · rw [zq_us1 (by omega), zq_us1 (by omega)]; exact h1.2.2.2.1
  · intro i hi; rw [zq_un (by omega), zq_un (by omega)]; exact h1.2.2.2.2 i hi
  · rw [zq_us1 (by omega), zq_us1 (by omega)]; exact h2
  · rw [zq_us1 (by omega), zq_us1 (by omega)]; exact h3
  · rw [zq_g1, if_pos ⟨rfl, rfl⟩, List.length_append]; rfl
  · exact zR_skf (fun n hn => by rw [zq_un (by omega), zq_un (by omega)]) h5
  · intro n k1 hn
    rw [zq_un (by omega)]
    by_cases c : n < T.length
    · rw [List.getElem?_append_left c] at hn
      rw [zq_us1 (by omega)]
      exact h6 n k1 hn
    · rw [List.getElem?_append_right (by omega)] at hn
      by_cases c2 : n = T.length
      · subst c2
        rw [Nat.sub_self] at hn
        injection hn with hn
        rw [zq_g1, if_pos ⟨rfl, rfl⟩, ← hn]
      · rw [List.getElem?_eq_none (by show 1 ≤ _; omega)] at hn
        cases hn
  · rw [zq_un (by omega), zq_un (by omega)]; exact f2 c hc
  · rw [zq_us1 (by omega), zq_us1 (by omega)]; exact f3 k hk
  · rw [zq_un (by omega), zq_us1 (by omega)]; exact f4 k hk
  · rw [zq_un (by omega), zq_un (by omega)]; exact f5 k hk
