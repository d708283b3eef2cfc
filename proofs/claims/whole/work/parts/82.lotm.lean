abbrev zALL : Nat := 129859329600
def zlI (M : zq_M) (G : Nat) : Prop := ∃ A Bl : Nat, M.2.1 69 40 = zm A ∧ M.2.1 69 41 = zm Bl ∧ 0 < Bl ∧ Nat.gcd A Bl = 1 ∧ A * zALL = G * Bl
def zlF (M M1 : zq_M) : Prop := M1.1 = M.1 ∧ M1.2.2 = M.2.2 ∧ ∀ c, c ≠ 69 → M1.2.1 c = M.2.1 c
theorem zlF_t {X Y Z : zq_M} (h : zlF X Y) (g : zlF Y Z) : zlF X Z := ⟨g.1.trans h.1, g.2.1.trans h.2.1, fun c hc => (g.2.2 c hc).trans (h.2.2 c hc)⟩
theorem zyGM_l {M M1 : zq_M} {S : Nat → Nat → Nat} {P : Nat → Nat → Nat → Nat} {B : Nat → Nat → Nat → Bool} (f : zlF M M1) (hG : zyGM M S P B) : zyGM M1 S P B := zyGM_fr (fun k hk => by rw [f.1]) (fun c hc => by rw [f.1]) hG
theorem zl_low {A Bl G : Nat} (hB : 0 < Bl) (hg : Nat.gcd A Bl = 1) (h : A * zALL = G * Bl) : ∃ k, 0 < k ∧ zALL = Bl * k ∧ G = A * k ∧ Nat.gcd zALL G = k := by
  have hc : Nat.Coprime Bl A := by show Nat.gcd Bl A = 1; rw [Nat.gcd_comm]; exact hg
  have hd : Bl ∣ zALL := hc.dvd_of_dvd_mul_left ⟨G, by rw [h, Nat.mul_comm]⟩
  obtain ⟨k, hk⟩ := hd
  have hG : G = A * k := by
    rw [hk, ← Nat.mul_assoc, Nat.mul_comm A Bl, Nat.mul_assoc, Nat.mul_comm G Bl] at h
    exact (Nat.eq_of_mul_eq_mul_left hB h).symm
  have hk0 : 0 < k := by
    apply Nat.pos_of_ne_zero
    intro h0
    rw [h0, Nat.mul_zero] at hk
    exact absurd hk (by decide)
  refine ⟨k, hk0, hk, hG, ?_⟩
  rw [hk, hG, Nat.gcd_mul_right]
  rw [show Nat.gcd Bl A = 1 from hc, Nat.one_mul]
theorem zl_add {N above below G : Nat} {M : zq_M} (hN : 1100 < N) (hI : zlI M G) (hG : G ≤ 400 * zALL) (hb0 : 0 < below) (hb : below ≤ 225) (ha : above ≤ 225) (hd : below ∣ zALL) : ∃ M1, f_X11_addLot N M (zm above) (zm below) = some M1 ∧ zlF M M1 ∧ zlI M1 (G + zALL / below * above) := by
  obtain ⟨A, Bl, h1, h2, h3, h4, h5⟩ := hI
  obtain ⟨k, k1, k2, k3, k4⟩ := zl_low h3 h4 h5
  have hall : zALL = 129859329600 := rfl
  have hBl : Bl ≤ zALL := by
    rw [k2]; exact Nat.le_mul_of_pos_right Bl k1
  have hA : A ≤ 400 * zALL := by
    have : A ≤ A * k := Nat.le_mul_of_pos_right A k1
    omega
  have m1 : A * below ≤ 400 * zALL * 225 := Nat.mul_le_mul hA hb
  have m2 : above * Bl ≤ 225 * zALL := Nat.mul_le_mul ha hBl
  have m3 : Bl * below ≤ zALL * 225 := Nat.mul_le_mul hBl hb
  have m4 : 0 < Bl * below := Nat.mul_pos h3 hb0
  unfold f_X11_addLot
  rw [h1, h2]
  simp only [zm_mul, zm_add, zq_b]
  rw [zl_gM hN m4 (by omega) (by omega)]
  simp only [Option.bind_some]
  generalize hD : Nat.gcd (A * below + above * Bl) (Bl * below) = D
  have hD0 : 0 < D := by rw [← hD]; exact Nat.gcd_pos_of_pos_right _ m4
  have hDl : D ≤ Bl * below := by rw [← hD]; exact Nat.gcd_le_right _ m4
  obtain ⟨x, hx⟩ : D ∣ A * below + above * Bl := by rw [← hD]; exact Nat.gcd_dvd_left _ _
  obtain ⟨y, hy⟩ : D ∣ Bl * below := by rw [← hD]; exact Nat.gcd_dvd_right _ _
  have hxd : (A * below + above * Bl) / D = x := by rw [hx, Nat.mul_div_cancel_left _ hD0]
  have hyd : Bl * below / D = y := by rw [hy, Nat.mul_div_cancel_left _ hD0]
  rw [zm_dw (by omega) (by omega), zm_dw (by omega) (by omega), zm_div (by omega) (by omega), zm_div (by omega) (by omega), hxd, hyd]
  refine ⟨_, rfl, ⟨rfl, rfl, fun c hc => ?_⟩, x, y, ?_, ?_, ?_, ?_, ?_⟩
  · funext k
    rw [zq_g2, if_neg (by omega), zq_g2, if_neg (by omega)]
  · rw [zq_g2, if_neg (by omega), zq_g2, if_pos ⟨rfl, rfl⟩]
  · rw [zq_g2, if_pos ⟨rfl, rfl⟩]
  · apply Nat.pos_of_ne_zero
    intro h0
    rw [h0, Nat.mul_zero] at hy
    omega
  · rw [hx, hy, Nat.gcd_mul_left] at hD
    have : D * Nat.gcd x y = D * 1 := by rw [hD, Nat.mul_one]
    exact Nat.eq_of_mul_eq_mul_left hD0 this
  · apply Nat.eq_of_mul_eq_mul_left hD0
    rw [← Nat.mul_assoc, ← hx, Nat.mul_comm D, Nat.mul_assoc, Nat.mul_comm y D, ← hy]
    obtain ⟨z, hz⟩ := hd
    have hzd : zALL / below = z := by rw [hz, Nat.mul_div_cancel_left _ hb0]
    rw [hzd, Nat.add_mul, Nat.add_mul]
    have e1 : A * below * zALL = G * (Bl * below) := by
      rw [Nat.mul_right_comm, h5, Nat.mul_assoc]
    have e2 : above * Bl * zALL = z * above * (Bl * below) := by
      rw [hz]
      rw [Nat.mul_comm above Bl, Nat.mul_comm z above]
      rw [Nat.mul_assoc Bl above, Nat.mul_comm below z, ← Nat.mul_assoc above z, ← Nat.mul_assoc Bl, Nat.mul_comm Bl (above * z), Nat.mul_assoc]
    rw [e1, e2]
def zlc (S : Nat → Nat → Nat) (B : Nat → Nat → Nat → Bool) (who a g : Nat) : Nat := zls (S 0 0) (fun p r => if zp_may (S 0 0) B a p r = true then (if zlu S who (zp_mv a p r) (g + 1) = true then 1 else 0) else 0)
theorem zl_waM {N a : Nat} {M : zq_M} {S : Nat → Nat → Nat} {P : Nat → Nat → Nat → Nat} {B : Nat → Nat → Nat → Bool} (hN : 1100 < N) (hS : zyB S) (hG : zyGM M S P B) (ha : a < 4 ^ S 0 0) : f_X11_waysFrom N M (zn a) = some (zn (zlw S B a)) := by
  have hn := hS.1
  have h4n := zs_p4 hn
  unfold f_X11_waysFrom
  refine zL (α := Int32 → Int32 → Option Int32) (fun (_ : Unit) p f => f (zn (zs_sum (fun p => zs_sum (fun r => if zp_may (S 0 0) B a p r = true then 1 else 0) 4) p)) (zn p)) (fun _ _ => True) (fun o => o = some (zn (zlw S B a))) (S 0 0) ?_ ?_ N 0 () (by omega) (by omega) trivial
  · intro f p _ hp _ ih
    have ih := ih () trivial
    unfold b_X11_waysFrom_4
    rw [hG.1.1, if_neg (by rw [zn_le (by omega) (by omega)]; omega)]
    refine zL (α := Int32 → Int32 → Option Int32) (fun (_ : Unit) r f => f (zn (zs_sum (fun p => zs_sum (fun r => if zp_may (S 0 0) B a p r = true then 1 else 0) 4) p + zs_sum (fun r => if zp_may (S 0 0) B a p r = true then 1 else 0) r)) (zn r)) (fun _ _ => True) (fun o => o = some (zn (zlw S B a))) 4 ?_ ?_ N 0 () (by omega) (by omega) trivial
    · intro f2 r _ hr _ ih2
      have ih2 := ih2 () trivial
      have q3 : (zn r : Int32) + 1 = zn (r + 1) := zn_add _ 1
      unfold b_X11_waysFrom_15
      rw [zl_4, if_neg (by rw [zn_le (by omega) (by omega)]; omega), zy_mcM (by omega) hG.1.1 hn hG.2.2.2 (by omega) hp hr, q3]
      simp only [Option.bind_some]
      have es : zs_sum (fun r => if zp_may (S 0 0) B a p r = true then 1 else 0) (r + 1) = zs_sum (fun r => if zp_may (S 0 0) B a p r = true then 1 else 0) r + (if zp_may (S 0 0) B a p r = true then 1 else 0) := rfl
      rw [es] at ih2
      cases hm : zp_may (S 0 0) B a p r with
      | false => rw [hm] at ih2; rw [if_pos (by rfl), zl_0, zn_add]; exact ih2
      | true => rw [hm] at ih2; rw [if_neg (by decide), zl_1, zn_add]; exact ih2
    · intro f2 _ _
      unfold b_X11_waysFrom_15
      rw [zl_4, if_pos (by rw [zn_le (by omega) (by omega)]; omega), zl_1, zn_add]
      exact ih
  · intro f _ _
    unfold b_X11_waysFrom_4
    rw [hG.1.1, if_pos (by rw [zn_le (by omega) (by omega)]; omega)]
    rfl
theorem zl_ms {N a who g : Nat} {M : zq_M} {S : Nat → Nat → Nat} {P : Nat → Nat → Nat → Nat} {B : Nat → Nat → Nat → Bool} (hN : 1100 < N) (hS : zyB S) (hG : zyGM M S P B) (ha : a < 4 ^ S 0 0) (hw : who < S 0 0) (hg : g < 100000) : f_X11_maySpeak N M (zn a) (zn who) (zn g) = some (if zlu S who a g = true then 1 else 0) := by
  have hn := hS.1
  have h4n := zs_p4 hn
  exact zy_msM (N := N) (by omega) hS hG.1 hG.2.1 (by omega) hw hg
theorem zl_beM {N a who g : Nat} {M : zq_M} {S : Nat → Nat → Nat} {P : Nat → Nat → Nat → Nat} {B : Nat → Nat → Nat → Bool} (hN : 1100 < N) (hS : zyB S) (hG : zyGM M S P B) (ha : a < 4 ^ S 0 0) (hw : who < S 0 0) (hg : g < 50000) : f_X11_speaksBehind N M (zn a) (zn who) (zn g) = some (zn (zlc S B who a g)) := by
  have hn := hS.1
  have h4n := zs_p4 hn
  have q2 : (zn g + 1 : Int32) = zn (g + 1) := zn_add _ 1
  unfold f_X11_speaksBehind
  refine zL (α := Int32 → Int32 → Option Int32) (fun (_ : Unit) p f => f (zn (zs_sum (fun p => zs_sum (fun r => if zp_may (S 0 0) B a p r = true then (if zlu S who (zp_mv a p r) (g + 1) = true then 1 else 0) else 0) 4) p)) (zn p)) (fun _ _ => True) (fun o => o = some (zn (zlc S B who a g))) (S 0 0) ?_ ?_ N 0 () (by omega) (by omega) trivial
  · intro f p _ hp _ ih
    have ih := ih () trivial
    unfold b_X11_speaksBehind_6
    rw [hG.1.1, if_neg (by rw [zn_le (by omega) (by omega)]; omega)]
    refine zL (α := Int32 → Int32 → Option Int32) (fun (_ : Unit) r f => f (zn (zs_sum (fun p => zs_sum (fun r => if zp_may (S 0 0) B a p r = true then (if zlu S who (zp_mv a p r) (g + 1) = true then 1 else 0) else 0) 4) p + zs_sum (fun r => if zp_may (S 0 0) B a p r = true then (if zlu S who (zp_mv a p r) (g + 1) = true then 1 else 0) else 0) r)) (zn r)) (fun _ _ => True) (fun o => o = some (zn (zlc S B who a g))) 4 ?_ ?_ N 0 () (by omega) (by omega) trivial
    · intro f2 r _ hr _ ih2
      have ih2 := ih2 () trivial
      have q3 : (zn r : Int32) + 1 = zn (r + 1) := zn_add _ 1
      have es : zs_sum (fun r => if zp_may (S 0 0) B a p r = true then (if zlu S who (zp_mv a p r) (g + 1) = true then 1 else 0) else 0) (r + 1) = zs_sum (fun r => if zp_may (S 0 0) B a p r = true then (if zlu S who (zp_mv a p r) (g + 1) = true then 1 else 0) else 0) r + (if zp_may (S 0 0) B a p r = true then (if zlu S who (zp_mv a p r) (g + 1) = true then 1 else 0) else 0) := rfl
      rw [es] at ih2
      unfold b_X11_speaksBehind_18
      rw [zl_4, if_neg (by rw [zn_le (by omega) (by omega)]; omega), zy_mcM (by omega) hG.1.1 hn hG.2.2.2 (by omega) hp hr, q3]
      simp only [Option.bind_some]
      cases hm : zp_may (S 0 0) B a p r with
      | false => rw [hm] at ih2; rw [if_pos (by rfl), zl_0, zn_add]; exact ih2
      | true =>
        rw [hm] at ih2
        rw [if_neg (by decide), zy_mvM N M (by omega) hr (by omega)]
        simp only [Option.bind_some]
        rw [q2, zl_ms hN hS hG (zp_mlt hn ha hp hr) hw (by omega)]
        simp only [Option.bind_some]
        cases hu : zlu S who (zp_mv a p r) (g + 1) with
        | false => rw [hu] at ih2; rw [if_pos (by rfl), zl_0, zn_add]; exact ih2
        | true => rw [hu] at ih2; rw [if_neg (by decide), zl_1, zn_add]; exact ih2
    · intro f2 _ _
      unfold b_X11_speaksBehind_18
      rw [zl_4, if_pos (by rw [zn_le (by omega) (by omega)]; omega), zl_1, zn_add]
      exact ih
  · intro f _ _
    unfold b_X11_speaksBehind_6
    rw [hG.1.1, if_pos (by rw [zn_le (by omega) (by omega)]; omega)]
    rfl
theorem zl_15 : ∀ w : Nat, w < 16 → w ≠ 0 → 360360 % w = 0 := by decide
theorem zl_dv {w : Nat} (h : w ≤ 15) (h0 : w ≠ 0) : w ∣ 360360 := Nat.dvd_of_mod_eq_zero (zl_15 w (by omega) h0)
theorem zl_cmul {n : Nat} {F : Nat → Nat → Nat} {c : Nat} : zls n (fun p r => c * F p r) = c * zls n F := by
  have h : ∀ (f : Nat → Nat) n, zs_sum (fun k => c * f k) n = c * zs_sum f n := by
    intro f n
    induction n with
    | zero => rfl
    | succ n ih =>
      show zs_sum (fun k => c * f k) n + c * f n = c * (zs_sum f n + f n)
      rw [ih, Nat.mul_add]
  unfold zls
  rw [show (fun p => zs_sum (fun r => c * F p r) 4) = (fun p => c * zs_sum (F p) 4) from funext fun p => h (F p) 4]
  exact h _ n
theorem zl_sh1 {S : Nat → Nat → Nat} {B : Nat → Nat → Nat → Bool} {who a g s : Nat} (h0 : zlw S B a ≠ 0) : zlsh S B who 1 a g s = s / zlw S B a * zlc S B who a g := by
  show (if zlw S B a = 0 then _ else zls (S 0 0) (fun p r => if zp_may (S 0 0) B a p r = true then (if zlu S who (zp_mv a p r) (g + 1) = true then s / zlw S B a else 0) else 0)) = _
  rw [if_neg h0]
  unfold zlc
  rw [← zl_cmul]
  congr 1
  funext p r
  split
  · split
    · rw [Nat.mul_one]
    · rfl
  · rfl
theorem zl_cl {S : Nat → Nat → Nat} {B : Nat → Nat → Nat → Bool} {who a g : Nat} (hn : S 0 0 ≤ 5) : zlc S B who a g ≤ 20 := zls_l (m := 1) hn (fun p r _ _ => by
  split
  · split <;> omega
  · omega)
theorem zl_from {N a who g w G : Nat} {M : zq_M} {S : Nat → Nat → Nat} {P : Nat → Nat → Nat → Nat} {B : Nat → Nat → Nat → Bool} (hN : 1100 < N) (hS : zyB S) (hG : zyGM M S P B) (ha : a < 4 ^ S 0 0) (hw : who < S 0 0) (hg : g < 50000) (hI : zlI M G) (hGl : G ≤ 400 * zALL) (hw0 : w ≠ 0) (hw15 : w ≤ 15) : ∃ M1, f_X11_addFrom N M (zn a) (zn who) (zn g) (zn w) = some M1 ∧ zlF M M1 ∧ zlI M1 (G + zlsh S B who 1 a g (zALL / w)) := by
  have hn := hS.1
  have hwl := zlw_15 (B := B) (a := a) hn
  have hcl := zl_cl (B := B) (who := who) (a := a) (g := g) hn
  have hall : zALL = 360360 * 360360 := by decide
  unfold f_X11_addFrom j_X11_addFrom_28
  rw [zl_waM hN hS hG ha]
  simp only [Option.bind_some]
  have g1 : (zn (zlw S B a) = 0) = (zlw S B a = 0) := zn_eq (b := 0) (by omega) (by omega)
  simp only [g1]
  by_cases c : zlw S B a = 0
  · rw [if_neg (fun h => h c), zl_ms hN hS hG ha hw (by omega), zm_of (a := w) (by omega)]
    simp only [Option.bind_some]
    have hdv : w ∣ zALL := by rw [hall]; exact Nat.dvd_trans (zl_dv hw15 hw0) ⟨360360, rfl⟩
    have ez : zlsh S B who 1 a g (zALL / w) = if zlu S who a g = true then zALL / w else 0 := by
      show (if zlw S B a = 0 then _ else _) = _
      rw [if_pos c]
    rw [ez]
    cases hu : zlu S who a g with
    | false =>
      rw [if_pos (by rfl)]
      obtain ⟨M1, y1, y2, y3⟩ := zl_add (above := 0) hN hI hGl (by omega) (show w ≤ 225 by omega) (by omega) hdv
      rw [show (0 : Int64) = zm 0 from rfl, y1]
      exact ⟨M1, rfl, y2, by simpa using y3⟩
    | true =>
      rw [if_neg (by decide)]
      obtain ⟨M1, y1, y2, y3⟩ := zl_add (above := 1) hN hI hGl (by omega) (show w ≤ 225 by omega) (by omega) hdv
      rw [show (1 : Int64) = zm 1 from rfl, y1]
      exact ⟨M1, rfl, y2, by simpa using y3⟩
  · rw [if_pos c, zl_beM hN hS hG ha hw hg, zm_of (a := w) (by omega)]
    simp only [Option.bind_some]
    rw [zm_of (a := zlw S B a) (by omega), zm_of (by omega), zm_mul]
    have hdv : w * zlw S B a ∣ zALL := by rw [hall]; exact Nat.mul_dvd_mul (zl_dv hw15 hw0) (zl_dv hwl c)
    have hle : w * zlw S B a ≤ 15 * 15 := Nat.mul_le_mul hw15 hwl
    obtain ⟨M1, y1, y2, y3⟩ := zl_add (above := zlc S B who a g) hN hI hGl (Nat.mul_pos (by omega) (by omega)) (show w * zlw S B a ≤ 225 by omega) (by omega) hdv
    rw [y1]
    refine ⟨M1, rfl, y2, ?_⟩
    rw [zl_sh1 c, Nat.div_div_eq_div_mul]
    exact y3
theorem zl_lay {N who n : Nat} {M : zq_M} {S : Nat → Nat → Nat} {P : Nat → Nat → Nat → Nat} {B : Nat → Nat → Nat → Bool} (hN : 1100 < N) (hS : zyB S) (hG : zyGM M S P B) (hw : who < S 0 0) (hn2 : n ≤ 2) : ∃ M1, f_X11_layLot N M (zn who) (zn n) = some M1 ∧ zlF M M1 ∧ zlI M1 (zlsh S B who n (zv_pk (S 3)) (S 0 1) zALL) := by
  have hn := hS.1
  have hb1 := hS.2.1
  have h4n := zs_p4 hn
  have ha := zy_wln hS
  have hwl := zlw_15 (B := B) (a := zv_pk (S 3)) hn
  have hall : zALL = 129859329600 := rfl
  unfold f_X11_layLot j_X11_layLot_27 j_X11_layLot_49
  simp only [zq_b]
  have F2 : zlF M (zq_u2 (zq_u2 M 69 40 0) 69 41 1) := ⟨rfl, rfl, fun c hc => by funext k; rw [zq_g2, if_neg (by omega), zq_g2, if_neg (by omega)]⟩
  have G2 := zyGM_l F2 hG
  have I2 : zlI (zq_u2 (zq_u2 M 69 40 0) 69 41 1) 0 := ⟨0, 1, by rw [zq_g2, if_neg (by omega), zq_g2, if_pos ⟨rfl, rfl⟩]; rfl, by rw [zq_g2, if_pos ⟨rfl, rfl⟩]; rfl, by omega, by decide, by simp⟩
  generalize zq_u2 (zq_u2 M 69 40 0) 69 41 1 = M2 at *
  rw [G2.1.2.1, G2.1.2.2.1, zl_waM hN hS G2 ha]
  simp only [Option.bind_some]
  have g1 : (zn n = 0) = (n = 0) := zn_eq (b := 0) (by omega) (by omega)
  have g2 : (zn (zlw S B (zv_pk (S 3))) = 0) = (zlw S B (zv_pk (S 3)) = 0) := zn_eq (b := 0) (by omega) (by omega)
  have g3 : (zn n = 1) = (n = 1) := zn_eq (b := 1) (by omega) (by omega)
  simp only [g1, g2, g3]
  have leaf : zlsh S B who n (zv_pk (S 3)) (S 0 1) zALL = (if zlu S who (zv_pk (S 3)) (S 0 1) = true then zALL else 0) → ∃ M1, (f_X11_maySpeak N M2 (zn (zv_pk (S 3))) (zn who) (zn (S 0 1))).bind (fun v4 => if v4 = 0 then ((f_X11_addLot N M2 0 1).bind fun X6 => some X6) else ((f_X11_addLot N M2 1 1).bind fun X6 => some X6)) = some M1 ∧ zlF M M1 ∧ zlI M1 (zlsh S B who n (zv_pk (S 3)) (S 0 1) zALL) := by
    intro hz
    rw [hz, zl_ms hN hS G2 ha hw (by omega)]
    simp only [Option.bind_some]
    cases hu : zlu S who (zv_pk (S 3)) (S 0 1) with
    | false =>
      rw [if_pos (by rfl)]
      obtain ⟨M1, y1, y2, y3⟩ := zl_add (above := 0) (below := 1) hN I2 (by omega) (by omega) (by omega) (by omega) ⟨zALL, (Nat.one_mul _).symm⟩
      rw [show (0 : Int64) = zm 0 from rfl, show (1 : Int64) = zm 1 from rfl, y1]
      exact ⟨M1, rfl, zlF_t F2 y2, by simpa using y3⟩
    | true =>
      rw [if_neg (by decide)]
      obtain ⟨M1, y1, y2, y3⟩ := zl_add (above := 1) (below := 1) hN I2 (by omega) (by omega) (by omega) (by omega) ⟨zALL, (Nat.one_mul _).symm⟩
      rw [show (1 : Int64) = zm 1 from rfl, y1]
      exact ⟨M1, rfl, zlF_t F2 y2, by simpa using y3⟩
  by_cases c0 : n = 0
  · rw [if_pos c0]
    exact leaf (by rw [c0]; rfl)
  rw [if_neg c0]
  by_cases cw : zlw S B (zv_pk (S 3)) = 0
  · rw [if_neg (fun h => h cw)]
    refine leaf ?_
    obtain ⟨l, rfl⟩ : ∃ l, n = l + 1 := ⟨n - 1, by omega⟩
    show (if zlw S B (zv_pk (S 3)) = 0 then _ else _) = _
    rw [if_pos cw]
  rw [if_pos cw]
  by_cases c1 : n = 1
  · rw [if_neg (fun h => h c1)]
    obtain ⟨M1, y1, y2, y3⟩ := zl_from (w := 1) hN hS G2 ha hw (show S 0 1 < 50000 by omega) I2 (by omega) (by omega) (by omega)
    rw [show (1 : Int32) = zn 1 from rfl, y1]
    refine ⟨M1, rfl, zlF_t F2 y2, ?_⟩
    rw [c1]
    rw [Nat.div_one, Nat.zero_add] at y3
    exact y3
  · rw [if_pos c1]
    have hn22 : n = 2 := by omega
    subst hn22
    have q2 : (zn (S 0 1) + 1 : Int32) = zn (S 0 1 + 1) := zn_add _ 1
    have ezl : zlsh S B who 2 (zv_pk (S 3)) (S 0 1) zALL = zls (S 0 0) (fun p r => if zp_may (S 0 0) B (zv_pk (S 3)) p r = true then zlsh S B who 1 (zp_mv (zv_pk (S 3)) p r) (S 0 1 + 1) (zALL / zlw S B (zv_pk (S 3))) else 0) := by
      show (if zlw S B (zv_pk (S 3)) = 0 then _ else _) = _
      rw [if_neg cw]
    rw [ezl]
    have hterm : ∀ p r, (if zp_may (S 0 0) B (zv_pk (S 3)) p r = true then zlsh S B who 1 (zp_mv (zv_pk (S 3)) p r) (S 0 1 + 1) (zALL / zlw S B (zv_pk (S 3))) else 0) ≤ zALL * 20 := by
      intro p r
      split
      · refine Nat.le_trans (zlsh_l hn 1 _ _ _) ?_
        rw [Nat.pow_one]
        exact Nat.mul_le_mul_right _ (Nat.div_le_self _ _)
      · omega
    refine zL (α := Int32 → zq_M → Option zq_M) (fun (M1 : zq_M) p f => f (zn p) M1) (fun p M1 => zlF M M1 ∧ zlI M1 (zs_sum (fun p => zs_sum (fun r => if zp_may (S 0 0) B (zv_pk (S 3)) p r = true then zlsh S B who 1 (zp_mv (zv_pk (S 3)) p r) (S 0 1 + 1) (zALL / zlw S B (zv_pk (S 3))) else 0) 4) p)) (fun o => ∃ M1, o = some M1 ∧ zlF M M1 ∧ zlI M1 (zls (S 0 0) (fun p r => if zp_may (S 0 0) B (zv_pk (S 3)) p r = true then zlsh S B who 1 (zp_mv (zv_pk (S 3)) p r) (S 0 1 + 1) (zALL / zlw S B (zv_pk (S 3))) else 0))) (S 0 0) ?_ ?_ N 0 M2 (by omega) (by omega) ⟨F2, I2⟩
    · intro f p M3 hp ⟨f1, f2⟩ ih
      have hps : zs_sum (fun p => zs_sum (fun r => if zp_may (S 0 0) B (zv_pk (S 3)) p r = true then zlsh S B who 1 (zp_mv (zv_pk (S 3)) p r) (S 0 1 + 1) (zALL / zlw S B (zv_pk (S 3))) else 0) 4) p ≤ zALL * 20 * 4 * p := zs_suml p (fun k _ => zs_suml 4 (fun r _ => hterm k r))
      have hps2 : zALL * 20 * 4 * p ≤ zALL * 20 * 4 * 4 := Nat.mul_le_mul_left _ (by omega)
      unfold b_X11_layLot_77
      rw [f1.1, hG.1.1, if_neg (by rw [zn_le (by omega) (by omega)]; omega)]
      refine zL (α := Int32 → zq_M → Option zq_M) (fun (M1 : zq_M) r f => f (zn r) M1) (fun r M1 => zlF M M1 ∧ zlI M1 (zs_sum (fun p => zs_sum (fun r => if zp_may (S 0 0) B (zv_pk (S 3)) p r = true then zlsh S B who 1 (zp_mv (zv_pk (S 3)) p r) (S 0 1 + 1) (zALL / zlw S B (zv_pk (S 3))) else 0) 4) p + zs_sum (fun r => if zp_may (S 0 0) B (zv_pk (S 3)) p r = true then zlsh S B who 1 (zp_mv (zv_pk (S 3)) p r) (S 0 1 + 1) (zALL / zlw S B (zv_pk (S 3))) else 0) r)) (fun o => ∃ M1, o = some M1 ∧ zlF M M1 ∧ zlI M1 (zls (S 0 0) (fun p r => if zp_may (S 0 0) B (zv_pk (S 3)) p r = true then zlsh S B who 1 (zp_mv (zv_pk (S 3)) p r) (S 0 1 + 1) (zALL / zlw S B (zv_pk (S 3))) else 0))) 4 ?_ ?_ N 0 M3 (by omega) (by omega) ⟨f1, f2⟩
      · intro f2' r M4 hr ⟨e1, e2⟩ ih2
        have G4 := zyGM_l e1 hG
        have hrs : zs_sum (fun r => if zp_may (S 0 0) B (zv_pk (S 3)) p r = true then zlsh S B who 1 (zp_mv (zv_pk (S 3)) p r) (S 0 1 + 1) (zALL / zlw S B (zv_pk (S 3))) else 0) r ≤ zALL * 20 * r := zs_suml r (fun k _ => hterm p k)
        have hrs2 : zALL * 20 * r ≤ zALL * 20 * 3 := Nat.mul_le_mul_left _ (by omega)
        have q3 : (zn r : Int32) + 1 = zn (r + 1) := zn_add _ 1
        have es : zs_sum (fun r => if zp_may (S 0 0) B (zv_pk (S 3)) p r = true then zlsh S B who 1 (zp_mv (zv_pk (S 3)) p r) (S 0 1 + 1) (zALL / zlw S B (zv_pk (S 3))) else 0) (r + 1) = zs_sum (fun r => if zp_may (S 0 0) B (zv_pk (S 3)) p r = true then zlsh S B who 1 (zp_mv (zv_pk (S 3)) p r) (S 0 1 + 1) (zALL / zlw S B (zv_pk (S 3))) else 0) r + (if zp_may (S 0 0) B (zv_pk (S 3)) p r = true then zlsh S B who 1 (zp_mv (zv_pk (S 3)) p r) (S 0 1 + 1) (zALL / zlw S B (zv_pk (S 3))) else 0) := rfl
        rw [es] at ih2
        unfold b_X11_layLot_89
        rw [zl_4, if_neg (by rw [zn_le (by omega) (by omega)]; omega), G4.1.2.1, G4.1.2.2.1, zy_mcM (by omega) G4.1.1 hn G4.2.2.2 (by omega) hp hr, q3]
        simp only [Option.bind_some]
        cases hm : zp_may (S 0 0) B (zv_pk (S 3)) p r with
        | false =>
          rw [hm] at ih2
          rw [if_pos (by rfl)]
          exact ih2 M4 ⟨e1, e2⟩
        | true =>
          rw [hm] at ih2
          rw [if_neg (by decide), zy_mvM N M4 (by omega) hr (by omega)]
          simp only [Option.bind_some]
          rw [q2]
          obtain ⟨M5, y1, y2, y3⟩ := zl_from (w := zlw S B (zv_pk (S 3))) hN hS G4 (zp_mlt hn ha hp hr) hw (show S 0 1 + 1 < 50000 by omega) e2 (by omega) cw hwl
          rw [y1]
          simp only [Option.bind_some]
          refine ih2 M5 ⟨zlF_t e1 y2, ?_⟩
          rw [Nat.add_assoc] at y3
          exact y3
      · intro f2' M4 ⟨e1, e2⟩
        unfold b_X11_layLot_89
        rw [zl_4, if_pos (by rw [zn_le (by omega) (by omega)]; omega), zl_1, zn_add]
        exact ih M4 ⟨e1, e2⟩
    · intro f M3 ⟨f1, f2⟩
      unfold b_X11_layLot_77
      rw [f1.1, hG.1.1, if_pos (by rw [zn_le (by omega) (by omega)]; omega)]
      exact ⟨M3, rfl, f1, f2⟩
theorem zfm_l {M M1 : zq_M} (f : zlF M M1) : zfm M M1 := ⟨fun k hk => by rw [f.1], fun c hc => by rw [f.1], by rw [f.2.2 109 (by omega)]⟩
theorem zI_lot (N : Nat) (hN : 40000 < N) : zq_op_lot N zI := by
  intro q j X M a b c hq hI
  have hI1 := zI_idle q j X M hI
  obtain ⟨S, h, C, W, U, E, T, hA⟩ := zy_pic N hq hI
  obtain ⟨X0, x1, x2, x3⟩ := zy_lookX (by omega) hA
  obtain ⟨M0, m1, m2, m3⟩ := zy_lookM (by omega) hA
  obtain ⟨hS, hq1, hX, hM, a1, a2, a3, a4, a5, a6⟩ := hA
  have hn := hS.1
  have hall : zALL = 129859329600 := rfl
  unfold f_X10_lot f_X11_lot
  rw [zw_xp, zw_mp, hX.1, hM.1, zw_x, zw_m, zw_x, zw_m, x1, m1]
  simp only [Option.bind_some]
  have d4 : ¬ ((1 : Int32) = 0) := by decide
  by_cases c0 : a < 0 ∨ zn (S 0 0) - 1 < a
  · simp only [c0, if_true]
    exact ⟨_, _, _, rfl, rfl, hI1⟩
  simp only [c0, d4, if_false]
  by_cases c1 : b < 0 ∨ 2 < b
  · simp only [c1, if_true]
    exact ⟨_, _, _, rfl, rfl, hI1⟩
  simp only [c1, d4, if_false]
  by_cases c2 : c < 0 ∨ 1 < c
  · simp only [c2, if_true, not_true, if_false]
    exact ⟨_, _, _, rfl, rfl, hI1⟩
  simp only [c2, d4, if_false, not_false_iff, if_true]
  obtain ⟨who, hw, rfl⟩ := zn_pers hn c0
  obtain ⟨n, hn2, rfl⟩ := zw_in (n := 2) (fun h => c1 (Or.inl h)) (fun h => c1 (Or.inr h)) (by omega)
  obtain ⟨M2, n1, n2, n3⟩ := zl_lay (N := N) (n := n) (by omega) hS m2 hw hn2
  obtain ⟨X2, y1, y2⟩ := zl_shX (N := N) (by omega) hS hw n 64 (by omega) hn2 (zv_pk (S 3)) (S 0 1) zALL X0 x2 (zy_wln hS) (by have := hS.2.1; omega) (by omega)
  obtain ⟨A, Bl, l1, l2, l3, l4, l5⟩ := n3
  obtain ⟨k, k1, k2, k3, k4⟩ := zl_low l3 l4 l5
  have hGl : zlsh S (zp_ba S W T C) who n (zv_pk (S 3)) (S 0 1) zALL ≤ zALL * 20 ^ 2 := Nat.le_trans (zlsh_l hn n _ _ _) (Nat.mul_le_mul_left _ (Nat.pow_le_pow_right (by omega) hn2))
  have hGl2 : zlsh S (zp_ba S W T C) who n (zv_pk (S 3)) (S 0 1) zALL ≤ zALL * 400 := hGl
  generalize zlsh S (zp_ba S W T C) who n (zv_pk (S 3)) (S 0 1) zALL = G at *
  rw [n1]
  simp only [Option.bind_some]
  have key : ∀ fl : Int32, ∃ X3, f_X8_oddsOfSpeaking N j X0 (zn who) (zn n) fl = some (if fl = 0 then zm Bl else zm A, X3) ∧ zfx X0 X3 := by
    intro fl
    unfold f_X8_oddsOfSpeaking f_X8_sharesSpeaking fr_X8_sharesSpeaking
    rw [zy_pkX (n := S 0 0) (P := S 3) (by omega) x2.1.1 hn x2.1.2.2.2.2.1 hS.2.2.2.2.2.1 hS.2.2.2.2.2.2.2.2.2, x2.1.2.1]
    simp only [Option.bind_some]
    rw [show (129859329600 : Int64) = zm zALL from rfl, y1]
    simp only [Option.bind_some, zq_p]
    rw [zl_gX (N := N) (by omega) (by omega) (by omega) (by omega), k4]
    simp only [Option.bind_some]
    have hkl : k ≤ zALL := by rw [k2]; exact Nat.le_mul_of_pos_left k l3
    rw [zm_dw (by omega) (by omega), zm_dw (by omega) (by omega), zm_div (by omega) (by omega), zm_div (by omega) (by omega)]
    have e1 : zALL / k = Bl := by rw [k2, Nat.mul_div_cancel _ k1]
    have e2 : G / k = A := by rw [k3, Nat.mul_div_cancel _ k1]
    rw [e1, e2]
    refine ⟨X2, ?_, zfx_37 y2⟩
    split <;> rfl
  have hfm := zfm_t m3 (zfm_l n2)
  unfold j_X10_lot_49
  by_cases c3 : c = 0
  · obtain ⟨X3, w1, w2⟩ := key 1
    rw [if_neg (fun h => h c3), if_neg (fun h => h c3), w1, l1]
    simp only [Option.bind_some, zq_p]
    exact ⟨_, _, _, rfl, rfl, zI_scr (zfx_t x3 w2) hfm hI1⟩
  · obtain ⟨X3, w1, w2⟩ := key 0
    rw [if_pos c3, if_pos c3, w1, l2]
    simp only [Option.bind_some, zq_p]
    exact ⟨_, _, _, rfl, rfl, zI_scr (zfx_t x3 w2) hfm hI1⟩
