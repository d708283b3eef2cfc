def zgm (S : Nat → Nat → Nat) (B : Nat → Nat → Nat → Bool) (a t : Nat) : Bool := t == 0 || zp_may (S 0 0) B a ((t - 1) / 4) ((t - 1) % 4)
def zga (a t : Nat) : Nat := if t = 0 then a else zp_mv a ((t - 1) / 4) ((t - 1) % 4)
def zgg (g t : Nat) : Nat := if t = 0 then g else g + 1
theorem zgP_ex {S : Nat → Nat → Nat} {B : Nat → Nat → Nat → Bool} {r party l a g : Nat} : zgP S B r party (l + 1) true a g ↔ ∃ t, t < 4 * S 0 0 + 1 ∧ zgm S B a t = true ∧ zgP S B r party l false (zga a t) (zgg g t) := by
  constructor
  · rintro (h | ⟨p, q, h1, h2, h3, h4⟩)
    · exact ⟨0, by omega, rfl, h⟩
    · refine ⟨4 * p + q + 1, by omega, ?_, ?_⟩
      · unfold zgm
        rw [show (4 * p + q + 1 - 1) / 4 = p by omega, show (4 * p + q + 1 - 1) % 4 = q by omega, h3]
        simp
      · unfold zga zgg
        rw [if_neg (by omega), if_neg (by omega), show (4 * p + q + 1 - 1) / 4 = p by omega, show (4 * p + q + 1 - 1) % 4 = q by omega]
        exact h4
  · rintro ⟨t, h1, h2, h3⟩
    by_cases e : t = 0
    · subst e; exact Or.inl h3
    · unfold zgm at h2
      unfold zga zgg at h3
      rw [if_neg e, if_neg e] at h3
      refine Or.inr ⟨(t - 1) / 4, (t - 1) % 4, by omega, by omega, ?_, h3⟩
      simpa [e] using h2
theorem zgP_all {S : Nat → Nat → Nat} {B : Nat → Nat → Nat → Bool} {r party l a g : Nat} : zgP S B r party (l + 1) false a g ↔ ∀ t, t < 4 * S 0 0 + 1 → zgm S B a t = true → zgP S B r party l true (zga a t) (zgg g t) := by
  constructor
  · rintro ⟨h, h'⟩ t h1 h2
    by_cases e : t = 0
    · subst e; exact h
    · unfold zgm at h2
      unfold zga zgg
      rw [if_neg e, if_neg e]
      exact h' _ _ (by omega) (by omega) (by simpa [e] using h2)
  · intro h
    refine ⟨h 0 (by omega) rfl, fun p q h1 h2 h3 => ?_⟩
    have := h (4 * p + q + 1) (by omega) (by
      unfold zgm
      rw [show (4 * p + q + 1 - 1) / 4 = p by omega, show (4 * p + q + 1 - 1) % 4 = q by omega, h3]
      simp)
    unfold zga zgg at this
    rw [if_neg (by omega), if_neg (by omega), show (4 * p + q + 1 - 1) / 4 = p by omega, show (4 * p + q + 1 - 1) % 4 = q by omega] at this
    exact this
theorem zg_t1 {t : Nat} (h : t ≠ 0) : (zn t - 1 : Int32) = zn (t - 1) := by
  have := zn_sub (a := t) (b := 1) (by omega)
  exact this
theorem zg_mt {N a t : Nat} {M : zq_M} {S : Nat → Nat → Nat} {P : Nat → Nat → Nat → Nat} {B : Nat → Nat → Nat → Bool} (hN : 1100 < N) (hS : zyB S) (hG : zyGM M S P B) (ha : a < 4 ^ S 0 0) (ht : t < 4 * S 0 0 + 1) : f_X11_mayTurn N M (zn a) (zn t) = some (if zgm S B a t = true then 1 else 0) := by
  have hn := hS.1
  have h4n := zs_p4 hn
  unfold f_X11_mayTurn zgm
  have g1 : (zn t = 0) = (t = 0) := zn_eq (b := 0) (by omega) (by omega)
  simp only [g1]
  by_cases e : t = 0
  · rw [if_pos e, e]; rfl
  · rw [if_neg e, zg_t1 e, zl_4, zn_div (by omega) (by omega), zn_irem (by omega) (by omega), zy_mcM (by omega) hG.1.1 hn hG.2.2.2 (by omega) (by omega) (by omega)]
    have : (t == 0) = false := by simpa using e
    rw [this]
    simp only [Option.bind_some]
    cases zp_may (S 0 0) B a ((t - 1) / 4) ((t - 1) % 4) <;> rfl
theorem zg_bt {N a t : Nat} {M : zq_M} {S : Nat → Nat → Nat} (hS : zyB S) (ha : a < 4 ^ S 0 0) (ht : t < 4 * S 0 0 + 1) : f_X11_behindTurn N M (zn a) (zn t) = some (zn (zga a t)) := by
  have hn := hS.1
  have h4n := zs_p4 hn
  unfold f_X11_behindTurn zga
  have g1 : (zn t = 0) = (t = 0) := zn_eq (b := 0) (by omega) (by omega)
  simp only [g1]
  by_cases e : t = 0
  · rw [if_neg (fun h => h e), if_pos e]
  · rw [if_pos e, if_neg e, zg_t1 e, zl_4, zn_div (by omega) (by omega), zn_irem (by omega) (by omega), zy_mvM N M (by omega) (by omega) (by omega)]
    simp only [Option.bind_some]
theorem zg_al {S : Nat → Nat → Nat} (hS : zyB S) {a t : Nat} (ha : a < 4 ^ S 0 0) (ht : t < 4 * S 0 0 + 1) : zga a t < 4 ^ S 0 0 := by
  have hn := hS.1
  unfold zga
  by_cases e : t = 0
  · rw [if_pos e]; exact ha
  · rw [if_neg e]; exact zp_mlt hn ha (by omega) (by omega)
theorem zg_gl (g t : Nat) : zgg g t ≤ g + 1 := by unfold zgg; split <;> omega
theorem zg_if {α : Type} (f : Int32 → α) {t g : Nat} (ht : t < 1000) : (if ¬ zn t = 0 then f (zn g + 1) else f (zn g)) = f (zn (zgg g t)) := by
  have g1 : (zn t = 0) = (t = 0) := zn_eq (b := 0) (by omega) (by omega)
  have q2 : (zn g + 1 : Int32) = zn (g + 1) := zn_add _ 1
  simp only [g1, q2]
  unfold zgg
  by_cases e : t = 0
  · rw [if_neg (fun h => h e), if_pos e]
  · rw [if_pos e, if_neg e]
theorem zg_turns {N : Nat} {M : zq_M} {S : Nat → Nat → Nat} (hM : M.1 69 0 = zn (S 0 0)) : f_X11_turns N M = some (zn (4 * S 0 0 + 1)) := by
  unfold f_X11_turns
  rw [hM, zl_4, zl_1, zn_mul, zn_add]
theorem zg_won {N a r party g : Nat} {M : zq_M} {S : Nat → Nat → Nat} {P : Nat → Nat → Nat → Nat} {B : Nat → Nat → Nat → Bool} (hN : 1100 < N) (hS : zyB S) (hG : zyGM M S P B) (ha : a < 4 ^ S 0 0) (hr : r < 3) (hp : party < 2 ^ S 0 0) (hg : g < 100000) : f_X11_isWon N M (zn a) (zn r) (zn party) (zn g) = some (if zgwon S r party a g = true then 1 else 0) := by
  have hn := hS.1
  have h4n := zs_p4 hn
  unfold f_X11_isWon
  refine zL (α := Int32 → Int32 → Option Int32) (fun (_ : Unit) k f => f (zn (zs_set (fun p => zU S a r g p) k)) (zn k)) (fun _ _ => True) (fun o => o = some (if zgwon S r party a g = true then 1 else 0)) (S 0 0) ?_ ?_ N 0 () (by omega) (by omega) trivial
  · intro f k _ hk _ ih
    have ih := ih () trivial
    have hms := zy_msM (N := N) (p := k) (g := g) (a := a) (by omega) hS hG.1 hG.2.1 (by omega) hk hg
    have q3 : (zn k : Int32) + 1 = zn (k + 1) := zn_add _ 1
    have g2 : (zn (a / 4 ^ k % 4) = zn r) = (a / 4 ^ k % 4 = r) := zn_eq (by omega) (by omega)
    unfold b_X11_isWon_6
    rw [hG.1.1, if_neg (by rw [zn_le (by omega) (by omega)]; omega), zy_plM N M (by omega) (by omega), hms, q3]
    simp only [Option.bind_some, g2]
    by_cases c : a / 4 ^ k % 4 = r
    · rw [if_neg (fun h => h c), c]
      have hz : (decide (r < 3) && zk_sp S r (fun q => a / 4 ^ q % 4 == r) g k) = zU S a r g k := rfl
      rw [hz]
      by_cases hu : zU S a r g k = true
      · rw [zs_st (p := fun p => zU S a r g p) (n := k) hu] at ih
        rw [hu, if_neg (by decide), zl_1, zn_shl (by omega), Nat.one_mul, zn_or, zs_or]
        exact ih
      · rw [zs_sf (p := fun p => zU S a r g p) (n := k) hu] at ih
        simp only [Bool.not_eq_true] at hu
        rw [hu, if_pos (by rfl), zl_0, zn_or, Nat.or_zero]
        exact ih
    · rw [if_pos c]
      have hu : ¬ zU S a r g k = true := fun h => c (zU_pl h).1
      rw [zs_sf (p := fun p => zU S a r g p) (n := k) hu] at ih
      rw [zl_0, zn_or, Nat.or_zero]
      exact ih
  · intro f _ _
    unfold b_X11_isWon_6 k_X11_isWon_57_2
    rw [hG.1.1, if_pos (by rw [zn_le (by omega) (by omega)]; omega)]
    exact zg_leaf hn r party a g hp (fun v => some v)
theorem zg_third {N a r party g cm : Nat} {M : zq_M} {S : Nat → Nat → Nat} {P : Nat → Nat → Nat → Nat} {B : Nat → Nat → Nat → Bool} (hN : 1100 < N) (hS : zyB S) (hG : zyGM M S P B) (ha : a < 4 ^ S 0 0) (hr : r < 3) (hp : party < 2 ^ S 0 0) (hg : g < 50000) (hc : cm < 2) : ∃ b : Bool, f_X11_winsThird N M (zn a) (zn r) (zn party) (zn g) (zn cm) = some (if b = true then 1 else 0) ∧ (b = true ↔ zgP S B r party cm true a g) := by
  have hn := hS.1
  have h4n := zs_p4 hn
  unfold f_X11_winsThird
  have g1 : (zn cm = 0) = (cm = 0) := zn_eq (b := 0) (by omega) (by omega)
  simp only [g1]
  by_cases c : cm = 0
  · subst c
    rw [if_neg (fun h => h rfl), zg_won (N := N) (P := P) (B := B) hN hS hG ha hr hp (by omega)]
    refine ⟨zgwon S r party a g, ?_, Iff.rfl⟩
    simp only [Option.bind_some]
    cases zgwon S r party a g <;> rfl
  · rw [if_pos c]
    have : cm = 1 := by omega
    subst this
    refine zL (α := Int32 → Option Int32) (fun (_ : Unit) k f => f (zn k)) (fun k _ => ∀ t, t < k → ¬ (zgm S B a t = true ∧ zgP S B r party 0 false (zga a t) (zgg g t))) (fun o => ∃ b : Bool, o = some (if b = true then 1 else 0) ∧ (b = true ↔ zgP S B r party 1 true a g)) (4 * S 0 0 + 1) ?_ ?_ N 0 () (by omega) (by omega) (fun t h => by omega)
    · intro f t _ ht hW ih
      have ih := ih ()
      have q3 : (zn t : Int32) + 1 = zn (t + 1) := zn_add _ 1
      have hgl := zg_gl g t
      unfold b_X11_winsThird_18
      rw [zg_turns hG.1.1, zg_mt hN hS hG ha ht, zg_bt hS ha ht]
      simp only [Option.bind_some]
      rw [if_neg (by rw [zn_le (by omega) (by omega)]; omega), q3]
      cases hm : zgm S B a t with
      | false =>
        rw [if_pos (by rfl)]
        refine ih (fun t1 h1 => ?_)
        by_cases e : t1 = t
        · subst e; rw [hm]; rintro ⟨h, -⟩; cases h
        · exact hW t1 (by omega)
      | true =>
        rw [if_neg (by decide), zg_if (fun v => j_X11_winsThird_61 N M (zn r) (zn party) (zn t) f (zn (zga a t)) v) (by omega)]
        unfold j_X11_winsThird_61
        rw [zg_won (N := N) (P := P) (B := B) hN hS hG (zg_al hS ha ht) hr hp (by omega), q3]
        simp only [Option.bind_some]
        cases hw : zgwon S r party (zga a t) (zgg g t) with
        | false =>
          rw [if_pos (by rfl)]
          refine ih (fun t1 h1 => ?_)
          by_cases e : t1 = t
          · subst e
            rintro ⟨-, h⟩
            have h : zgwon S r party (zga a t1) (zgg g t1) = true := h
            rw [hw] at h; cases h
          · exact hW t1 (by omega)
        | true =>
          rw [if_neg (by decide)]
          exact ⟨true, rfl, ⟨fun _ => zgP_ex.mpr ⟨t, ht, hm, hw⟩, fun _ => rfl⟩⟩
    · intro f _ hW
      unfold b_X11_winsThird_18
      rw [zg_turns hG.1.1]
      simp only [Option.bind_some]
      rw [if_pos (by rw [zn_le (by omega) (by omega)]; omega)]
      refine ⟨false, rfl, ⟨fun h => (by cases h), fun h => ?_⟩⟩
      obtain ⟨t, h1, h2, h3⟩ := zgP_ex.mp h
      exact absurd ⟨h2, h3⟩ (hW t h1)
theorem zg_second {N a r party g n : Nat} {M : zq_M} {S : Nat → Nat → Nat} {P : Nat → Nat → Nat → Nat} {B : Nat → Nat → Nat → Bool} (hN : 1100 < N) (hS : zyB S) (hG : zyGM M S P B) (ha : a < 4 ^ S 0 0) (hr : r < 3) (hp : party < 2 ^ S 0 0) (hg : g < 40000) (h1 : 1 ≤ n) (h3 : n ≤ 3) : ∃ b : Bool, f_X11_winsSecond N M (zn a) (zn r) (zn party) (zn g) (zn n) = some (if b = true then 1 else 0) ∧ (b = true ↔ zgP S B r party (n - 1) false a g) := by
  have hn := hS.1
  have h4n := zs_p4 hn
  unfold f_X11_winsSecond
  by_cases c : n = 1
  · subst c
    rw [if_neg (by decide), zg_won (N := N) (P := P) (B := B) hN hS hG ha hr hp (by omega)]
    refine ⟨zgwon S r party a g, ?_, Iff.rfl⟩
    simp only [Option.bind_some]
    cases zgwon S r party a g <;> rfl
  · rw [if_pos (by rw [zl_2, zn_le (by omega) (by omega)]; omega)]
    obtain ⟨cm, hcm, hnc⟩ : ∃ cm, cm < 2 ∧ n = cm + 2 := ⟨n - 2, by omega, by omega⟩
    subst hnc
    refine zL (α := Int32 → Option Int32) (fun (_ : Unit) k f => f (zn k)) (fun k _ => ∀ t, t < k → zgm S B a t = true → zgP S B r party cm true (zga a t) (zgg g t)) (fun o => ∃ b : Bool, o = some (if b = true then 1 else 0) ∧ (b = true ↔ zgP S B r party (cm + 1) false a g)) (4 * S 0 0 + 1) ?_ ?_ N 0 () (by omega) (by omega) (fun t h => by omega)
    · intro f t _ ht hW ih
      have ih := ih ()
      have q3 : (zn t : Int32) + 1 = zn (t + 1) := zn_add _ 1
      have hgl := zg_gl g t
      unfold b_X11_winsSecond_19
      rw [zg_turns hG.1.1, zg_mt hN hS hG ha ht, zg_bt hS ha ht]
      simp only [Option.bind_some]
      rw [if_neg (by rw [zn_le (by omega) (by omega)]; omega), q3]
      cases hm : zgm S B a t with
      | false =>
        rw [if_pos (by rfl)]
        refine ih (fun t1 h1 h2 => ?_)
        by_cases e : t1 = t
        · subst e; rw [hm] at h2; cases h2
        · exact hW t1 (by omega) h2
      | true =>
        rw [if_neg (by decide), zg_if (fun v => j_X11_winsSecond_62 N M (zn r) (zn party) (zn (cm + 2)) (zn t) f (zn (zga a t)) v) (by omega)]
        unfold j_X11_winsSecond_62
        have e73 : (if ¬ zn (cm + 2) = (3 : Int32) then (j_X11_winsSecond_73 N M (zn r) (zn party) (zn t) f (zn (zga a t)) (zn (zgg g t)) (0 : Int32)) else (j_X11_winsSecond_73 N M (zn r) (zn party) (zn t) f (zn (zga a t)) (zn (zgg g t)) (1 : Int32))) = j_X11_winsSecond_73 N M (zn r) (zn party) (zn t) f (zn (zga a t)) (zn (zgg g t)) (zn cm) := by
          have : cm = 0 ∨ cm = 1 := by omega
          rcases this with rfl | rfl
          · rw [if_pos (by decide)]; rfl
          · rw [if_neg (by decide)]; rfl
        rw [e73]
        unfold j_X11_winsSecond_73
        obtain ⟨b, y1, y2⟩ := zg_third (N := N) (cm := cm) hN hS hG (zg_al hS ha ht) hr hp (show zgg g t < 50000 by omega) hcm
        rw [y1, q3]
        simp only [Option.bind_some]
        cases hb : b with
        | true =>
          rw [if_pos (by decide)]
          refine ih (fun t1 h1 h2 => ?_)
          by_cases e : t1 = t
          · subst e; exact y2.mp hb
          · exact hW t1 (by omega) h2
        | false =>
          rw [if_neg (by decide)]
          refine ⟨false, rfl, ⟨fun h => (by cases h), fun h => ?_⟩⟩
          have := y2.mpr (zgP_all.mp h t ht hm)
          rw [hb] at this; cases this
    · intro f _ hW
      unfold b_X11_winsSecond_19
      rw [zg_turns hG.1.1]
      simp only [Option.bind_some]
      rw [if_pos (by rw [zn_le (by omega) (by omega)]; omega)]
      exact ⟨true, rfl, ⟨fun _ => zgP_all.mpr hW, fun _ => rfl⟩⟩
theorem zg_first {N r party n : Nat} {M : zq_M} {S : Nat → Nat → Nat} {P : Nat → Nat → Nat → Nat} {B : Nat → Nat → Nat → Bool} (hN : 1100 < N) (hS : zyB S) (hG : zyGM M S P B) (hr : r < 3) (hp : party < 2 ^ S 0 0) (h1 : 1 ≤ n) (h3 : n ≤ 3) : ∃ b : Bool, zq_loop (fun _ => none) (b_X11_game_47 N (zn r) (zn party) (zn n) M) N (0 : Int32) = some (if b = true then 1 else 0, M) ∧ (b = true ↔ zgP S B r party n true (zv_pk (S 3)) (S 0 1)) := by
  have hn := hS.1
  have hb1 := hS.2.1
  have h4n := zs_p4 hn
  have ha := zy_wln hS
  obtain ⟨l, rfl⟩ : ∃ l, n = l + 1 := ⟨n - 1, by omega⟩
  refine zL (α := Int32 → Option (Int32 × zq_M)) (fun (_ : Unit) k f => f (zn k)) (fun k _ => ∀ t, t < k → ¬ (zgm S B (zv_pk (S 3)) t = true ∧ zgP S B r party l false (zga (zv_pk (S 3)) t) (zgg (S 0 1) t))) (fun o => ∃ b : Bool, o = some (if b = true then 1 else 0, M) ∧ (b = true ↔ zgP S B r party (l + 1) true (zv_pk (S 3)) (S 0 1))) (4 * S 0 0 + 1) ?_ ?_ N 0 () (by omega) (by omega) (fun t h => by omega)
  · intro f t _ ht hW ih
    have ih := ih ()
    have q3 : (zn t : Int32) + 1 = zn (t + 1) := zn_add _ 1
    have hgl := zg_gl (S 0 1) t
    unfold b_X11_game_47
    rw [zg_turns hG.1.1, hG.1.2.1, hG.1.2.2.1, zg_mt hN hS hG ha ht, zg_bt hS ha ht]
    simp only [Option.bind_some]
    rw [if_neg (by rw [zn_le (by omega) (by omega)]; omega), q3]
    cases hm : zgm S B (zv_pk (S 3)) t with
    | false =>
      rw [if_pos (by rfl)]
      refine ih (fun t1 h1 => ?_)
      by_cases e : t1 = t
      · subst e; rw [hm]; rintro ⟨h, -⟩; cases h
      · exact hW t1 (by omega)
    | true =>
      rw [if_neg (by decide), zg_if (fun v => j_X11_game_100 N (zn r) (zn party) (zn (l + 1)) M (zn t) f (zn (zga (zv_pk (S 3)) t)) v) (by omega)]
      unfold j_X11_game_100
      obtain ⟨b, y1, y2⟩ := zg_second (N := N) (n := l + 1) hN hS hG (zg_al hS ha ht) hr hp (show zgg (S 0 1) t < 40000 by omega) (by omega) h3
      rw [y1, q3]
      simp only [Option.bind_some]
      cases hb : b with
      | false =>
        rw [if_pos (by rfl)]
        refine ih (fun t1 h1 => ?_)
        by_cases e : t1 = t
        · subst e
          rintro ⟨-, h⟩
          have := y2.mpr h
          rw [hb] at this; cases this
        · exact hW t1 (by omega)
      | true =>
        rw [if_neg (by decide)]
        exact ⟨true, rfl, ⟨fun _ => zgP_ex.mpr ⟨t, ht, hm, y2.mp hb⟩, fun _ => rfl⟩⟩
  · intro f _ hW
    unfold b_X11_game_47
    rw [zg_turns hG.1.1]
    simp only [Option.bind_some]
    rw [if_pos (by rw [zn_le (by omega) (by omega)]; omega)]
    refine ⟨false, rfl, ⟨fun h => (by cases h), fun h => ?_⟩⟩
    obtain ⟨t, h1, h2, h3⟩ := zgP_ex.mp h
    exact absurd ⟨h2, h3⟩ (hW t h1)
theorem zfx_37 {X X1 : zq_M} (f : zf1 37 X X1) : zfx X X1 := ⟨fun c hc => f.2 c (by omega), by rw [f.2 54 (by omega)], by rw [f.1], by rw [f.1], by rw [f.1]⟩
theorem zI_game (N : Nat) (hN : 40000 < N) : zq_op_game N zI := by
  intro q j X M a b c hq hI
  have hI1 := zI_idle q j X M hI
  obtain ⟨S, h, C, W, U, E, T, hA⟩ := zy_pic N hq hI
  obtain ⟨X0, x1, x2, x3⟩ := zy_lookX (by omega) hA
  obtain ⟨M0, m1, m2, m3⟩ := zy_lookM (by omega) hA
  obtain ⟨hS, hq1, hX, hM, a1, a2, a3, a4, a5, a6⟩ := hA
  have hn := hS.1
  have hb1 := hS.2.1
  have h32 := zs_p2 hn
  have h0p : 0 < 2 ^ S 0 0 := Nat.pow_pos (by omega)
  unfold f_X10_game f_X11_game
  have hall : (zq_shl (1 : Int32) (M.1 69 0)) - (1 : Int32) = zn (2 ^ S 0 0 - 1) := by
    rw [hM.1, zl_1, zn_shl (by omega), Nat.one_mul, zn_sub (by omega)]
  rw [zw_xr, zw_mr, zy_all hX.1 hn, hall, x1, m1]
  simp only [Option.bind_some, zw_x, zw_m]
  have d4 : ¬ ((1 : Int32) = 0) := by decide
  by_cases c0 : a < 0 ∨ 2 < a
  · simp only [c0, if_true, not_true, if_false]
    exact ⟨_, _, _, rfl, rfl, hI1⟩
  simp only [c0, d4, if_false, not_false_iff, if_true]
  by_cases c1 : b < 0 ∨ zn (2 ^ S 0 0 - 1) < b
  · simp only [c1, if_true]
    exact ⟨_, _, _, rfl, rfl, hI1⟩
  simp only [c1, d4, if_false]
  by_cases c2 : c < 1 ∨ 3 < c
  · simp only [c2, if_true, not_true, if_false]
    exact ⟨_, _, _, rfl, rfl, hI1⟩
  simp only [c2, d4, if_false, not_false_iff, if_true]
  obtain ⟨r, hr, rfl⟩ := zw_in (n := 2) (fun h => c0 (Or.inl h)) (fun h => c0 (Or.inr h)) (by omega)
  obtain ⟨party, hp, rfl⟩ := zw_in (n := 2 ^ S 0 0 - 1) (fun h => c1 (Or.inl h)) (fun h => c1 (Or.inr h)) (by omega)
  have c00 : ¬ c < 0 := by
    intro h
    apply c2
    left
    rw [Int32.lt_iff_toInt_lt] at h ⊢
    have e0 : (0 : Int32).toInt = 0 := rfl
    have e1 : (1 : Int32).toInt = 1 := rfl
    rw [e0] at h
    rw [e1]; omega
  obtain ⟨n, hn3, rfl⟩ := zw_in (n := 3) c00 (fun h => c2 (Or.inr h)) (by omega)
  have hn1 : 1 ≤ n := by
    apply Classical.byContradiction
    intro h
    apply c2
    left
    have : n = 0 := by omega
    subst this
    decide
  unfold f_X8_canWin f_X8_wins fr_X8_wins
  rw [zy_pkX (n := S 0 0) (P := S 3) (by omega) x2.1.1 hn x2.1.2.2.2.2.1 hS.2.2.2.2.2.1 hS.2.2.2.2.2.2.2.2.2, x2.1.2.1]
  simp only [Option.bind_some]
  obtain ⟨X2, b1, y1, y2, y3⟩ := zg_wins (N := N) (r := r) (party := party) (by omega) hS (by omega) (by omega) n 64 (by omega) true (zv_pk (S 3)) (S 0 1) X0 x2 (zy_wln hS) (by omega)
  obtain ⟨b2, n1, n2⟩ := zg_first (N := N) (r := r) (party := party) (n := n) (by omega) hS m2 (by omega) (by omega) hn1 hn3
  have y1' : zq_loop (fun _ _ _ _ _ _ _ => none) (B_X8_wins N j) 64 (zn r) (zn party) (zn (zv_pk (S 3))) (zn (S 0 1)) (zn n) (1 : Int32) X0 = some (if b1 = true then 1 else 0, X2) := y1
  rw [y1', n1]
  simp only [Option.bind_some, zq_p]
  have hbb : b1 = b2 := by rw [Bool.eq_iff_iff, y3, n2]
  subst hbb
  refine ⟨if b1 = true then 1 else 0, X2, M0, ?_, rfl, zI_scr (zfx_t x3 (zfx_37 y2)) m3 hI1⟩
  cases b1 <;> rfl
