def zP_r (t : Nat → Nat) (L p : Nat) : Bool × Nat × List Nat := zP_an (zX_nx t L) (zP_one (zX_nx t L) (zX_te (zX_nx t L)) 4) p
theorem zR_takesE {N L B a p : Nat} {t : Nat → Nat} {M : zq_M} (hN : 200 < N) (ha : a < 60) (h : zRM t L p M) (hB : M.1 69 23 = zn B) (hb : B ≤ 500 + p) : ∃ M1, f_X11_takesE N M (zn a) = some (if (zP_r t L p).1 = true then 1 else 0, M1) ∧ zRM t L (zP_r t L p).2.1 M1 ∧ zRf B a (zq_u1 M 79 a (zn B)) M1 ∧ ((zP_r t L p).1 = true → M1.1 80 a = zn (B + (zP_r t L p).2.2.length) ∧ M1.1 69 23 = zn (B + (zP_r t L p).2.2.length) ∧ ∀ n k, (zP_r t L p).2.2[n]? = some k → M1.1 81 (B + n) = zt_cm k) := by
  have h1 : zRM t L p (zq_u1 (zq_u1 (zq_u1 M 69 24 0) 69 25 0) 79 a (zn B)) := by
    obtain ⟨r1, r2, r3, r4, r5⟩ := zRM_u (k := 25) (v := 0) (by omega) (zRM_u (k := 24) (v := 0) (by omega) h)
    exact ⟨r1, r2, r3, r4, r5⟩
  have h2 : zRS t L B a (zq_u1 M 79 a (zn B)) [] 0 [] p (zq_u1 (zq_u1 (zq_u1 M 69 24 0) 69 25 0) 79 a (zn B)) := by
    refine ⟨h1, ?_, ?_, ?_, trivial, fun n k hn => (by cases hn), ⟨rfl, fun c hc => ?_, fun k hk => ?_, fun k _ => rfl, fun k _ => rfl⟩⟩
    · rw [zq_us1 (by omega), zq_us1 (by omega), zq_g1, if_pos ⟨rfl, rfl⟩]; rfl
    · rw [zq_us1 (by omega), zq_g1, if_pos ⟨rfl, rfl⟩]; rfl
    · rw [zq_us1 (by omega), zq_us1 (by omega), zq_us1 (by omega)]; exact hB
    · by_cases h79 : c = 79
      · subst h79
        funext k
        show (if 79 = 79 ∧ k = a then zn B else (if 79 = 69 ∧ k = 25 then 0 else if 79 = 69 ∧ k = 24 then 0 else M.1 79 k)) = (if 79 = 79 ∧ k = a then zn B else M.1 79 k)
        rw [if_neg (c := 79 = 69 ∧ k = 25) (by omega), if_neg (c := 79 = 69 ∧ k = 24) (by omega)]
      · rw [zq_un h79, zq_un h79, zq_un (by omega), zq_un (by omega)]
    · rw [zq_us1 (by omega), zq_us1 (by omega), zq_us1 (by omega), zq_us1 (by omega)]
  have hL := h.1
  have hp := h.2.1
  obtain ⟨M1, x1, x2, x3, x4⟩ := zR_E (N := N) hN ha N true [] 0 [] p _ h2 (by show B + 0 + 0 ≤ _; omega) rfl (by show 0 ≤ p; omega) (by omega)
  obtain ⟨q1, q2⟩ := zP_eq (nx := zX_nx t L) (te := zX_te (zX_nx t L)) (F := N) hL (fun p hp => zX_nx2 hp) zX_teb hp (by omega)
  have e : f_X11_takesE N M (zn a) = zq_loop (fun _ _ => none) (b_X11_takesE_22 N (zn a)) N 1 (zq_u1 (zq_u1 (zq_u1 M 69 24 0) 69 25 0) 79 a (zn B)) := by
    unfold f_X11_takesE
    simp only [zq_b]
    rw [zn_ck ha (by omega), zn_ix (by omega), show (zq_u1 (zq_u1 M 69 24 0) 69 25 0).1 69 23 = zn B by rw [zq_us1 (by omega), zq_us1 (by omega)]; exact hB]
  rw [e]
  by_cases hr : (zP_r t L p).1 = true
  · have q3 := q2 hr
    rw [q3] at x1 x2 x4
    exact ⟨M1, x1, x2, x3, x4⟩
  · have q3 := q1 (Bool.eq_false_iff.mpr hr)
    rw [q3] at x1 x2 x4
    exact ⟨M1, by rw [if_neg hr]; exact x1, x2, x3, fun h => absurd h hr⟩
