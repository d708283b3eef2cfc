def zJ (n : Nat) (ok : Nat → Nat → Nat → Bool) (c : Nat → Nat → Nat → Nat → Prop) (a p r : Nat) (G : Nat → Nat → Prop) : Prop := ∀ x v, G x v ↔ ∃ a1 p1 r1, p1 < n ∧ r1 < 4 ∧ (a1 < a ∨ a1 = a ∧ (p1 < p ∨ p1 = p ∧ r1 < r)) ∧ ok a1 p1 r1 = true ∧ zp_mv a1 p1 r1 = x ∧ c a1 p1 r1 v
theorem zJ_0 {n : Nat} {ok : Nat → Nat → Nat → Bool} {c : Nat → Nat → Nat → Nat → Prop} {G : Nat → Nat → Prop} (h : ∀ x v, ¬ G x v) : zJ n ok c 0 0 0 G := by
  intro x v
  refine ⟨fun g => absurd g (h x v), ?_⟩
  rintro ⟨a1, p1, r1, h1, h2, h3, -⟩
  omega
theorem zJ_yes {n a p r : Nat} {ok : Nat → Nat → Nat → Bool} {c : Nat → Nat → Nat → Nat → Prop} {G G1 : Nat → Nat → Prop} (h : zJ n ok c a p r G) (hp : p < n) (hr : r < 4) (ho : ok a p r = true) (hG : ∀ x v, G1 x v ↔ G x v ∨ (zp_mv a p r = x ∧ c a p r v)) : zJ n ok c a p (r + 1) G1 := by
  intro x v
  rw [hG, h x v]
  constructor
  · rintro (⟨a1, p1, r1, h1, h2, h3, h4⟩ | ⟨h1, h2⟩)
    · exact ⟨a1, p1, r1, h1, h2, by omega, h4⟩
    · exact ⟨a, p, r, hp, hr, by omega, ho, h1, h2⟩
  · rintro ⟨a1, p1, r1, h1, h2, h3, h4, h5, h6⟩
    by_cases e : a1 = a ∧ p1 = p ∧ r1 = r
    · obtain ⟨rfl, rfl, rfl⟩ := e
      exact Or.inr ⟨h5, h6⟩
    · exact Or.inl ⟨a1, p1, r1, h1, h2, by omega, h4, h5, h6⟩
theorem zJ_no {n a p r : Nat} {ok : Nat → Nat → Nat → Bool} {c : Nat → Nat → Nat → Nat → Prop} {G : Nat → Nat → Prop} (h : zJ n ok c a p r G) (ho : ok a p r = false) : zJ n ok c a p (r + 1) G := by
  intro x v
  rw [h x v]
  constructor
  · rintro ⟨a1, p1, r1, h1, h2, h3, h4⟩
    exact ⟨a1, p1, r1, h1, h2, by omega, h4⟩
  · rintro ⟨a1, p1, r1, h1, h2, h3, h4, h5, h6⟩
    by_cases e : a1 = a ∧ p1 = p ∧ r1 = r
    · obtain ⟨rfl, rfl, rfl⟩ := e
      rw [ho] at h4; cases h4
    · exact ⟨a1, p1, r1, h1, h2, by omega, h4, h5, h6⟩
theorem zJ_p {n a p : Nat} {ok : Nat → Nat → Nat → Bool} {c : Nat → Nat → Nat → Nat → Prop} {G : Nat → Nat → Prop} (h : zJ n ok c a p 4 G) : zJ n ok c a (p + 1) 0 G := by
  intro x v
  rw [h x v]
  constructor
  · rintro ⟨a1, p1, r1, h1, h2, h3, h4⟩
    exact ⟨a1, p1, r1, h1, h2, by omega, h4⟩
  · rintro ⟨a1, p1, r1, h1, h2, h3, h4⟩
    exact ⟨a1, p1, r1, h1, h2, by omega, h4⟩
theorem zJ_a {n a : Nat} {ok : Nat → Nat → Nat → Bool} {c : Nat → Nat → Nat → Nat → Prop} {G : Nat → Nat → Prop} (h : zJ n ok c a n 0 G) : zJ n ok c (a + 1) 0 0 G := by
  intro x v
  rw [h x v]
  constructor
  · rintro ⟨a1, p1, r1, h1, h2, h3, h4⟩
    exact ⟨a1, p1, r1, h1, h2, by omega, h4⟩
  · rintro ⟨a1, p1, r1, h1, h2, h3, h4⟩
    exact ⟨a1, p1, r1, h1, h2, by omega, h4⟩
theorem zJ_skip {n a : Nat} {ok : Nat → Nat → Nat → Bool} {c : Nat → Nat → Nat → Nat → Prop} {G : Nat → Nat → Prop} (ho : ∀ p r, ok a p r = false) (h : zJ n ok c a 0 0 G) : zJ n ok c (a + 1) 0 0 G := by
  intro x v
  rw [h x v]
  constructor
  · rintro ⟨a1, p1, r1, h1, h2, h3, h4⟩
    exact ⟨a1, p1, r1, h1, h2, by omega, h4⟩
  · rintro ⟨a1, p1, r1, h1, h2, h3, h4, h5⟩
    by_cases e : a1 = a
    · subst e; rw [ho] at h4; cases h4
    · exact ⟨a1, p1, r1, h1, h2, by omega, h4, h5⟩
theorem zy_fill {N c len : Nat} {sh : zq_H} {X : zq_M} {v : Int32} (hN : len < N) (hl : len < 2147483648) : ∃ X1, f_J7_fill_53178 N sh X c len v = some X1 ∧ zf1 c X X1 ∧ (∀ i, i < len → X1.1 c i = v) ∧ ∀ i, len ≤ i → X1.1 c i = X.1 c i := by
  unfold f_J7_fill_53178
  refine zL (α := Int32 → zq_M → Option zq_M) (fun (X1 : zq_M) k g => g (zn k) X1) (fun k X1 => zf1 c X X1 ∧ (∀ i, i < k → X1.1 c i = v) ∧ ∀ i, k ≤ i → X1.1 c i = X.1 c i) (fun o => ∃ X1, o = some X1 ∧ zf1 c X X1 ∧ (∀ i, i < len → X1.1 c i = v) ∧ ∀ i, len ≤ i → X1.1 c i = X.1 c i) len ?_ ?_ N 0 X (by omega) (by omega) ⟨zf1_r _ _, fun i hi => by omega, fun i hi => rfl⟩
  · intro g k X1 hk ⟨f1, f2, f3⟩ ih
    unfold b_J7_fill_53178_5
    simp (disch := omega) only [zl_0, zl_1, zl_2, zl_3, zl_4, zl_5, zl_6, zn_ck, zn_ix, zn_add, zn_sub, zn_mul, zn_le, zn_lt, zn_eq, zn_plc1, zn_shl, zn_or, zn_bitc, Option.bind_some, zq_p, zq_b, Nat.one_mul, Nat.zero_add, Nat.add_zero]
    rw [if_neg (by omega)]
    refine ih _ ⟨zf1_u f1, fun i hi => ?_, fun i hi => ?_⟩
    · rw [zq_g1]
      by_cases e : i = k
      · rw [if_pos ⟨rfl, e⟩]
      · rw [if_neg (fun h => e h.2)]; exact f2 i (by omega)
    · rw [zq_us1 (by omega)]; exact f3 i (by omega)
  · intro g X1 ⟨f1, f2, f3⟩
    unfold b_J7_fill_53178_5
    simp (disch := omega) only [zl_0, zl_1, zl_2, zl_3, zl_4, zl_5, zl_6, zn_ck, zn_ix, zn_add, zn_sub, zn_mul, zn_le, zn_lt, zn_eq, zn_plc1, zn_shl, zn_or, zn_bitc, Option.bind_some, zq_p, zq_b, Nat.one_mul, Nat.zero_add, Nat.add_zero]
    rw [if_pos (by omega)]
    exact ⟨X1, rfl, f1, f2, f3⟩
abbrev zINF : Nat := 1073741824
def zinc (P : Nat → Nat → Nat → Nat) (n md d u a p r : Nat) : Nat := if md = 1 then u + P p r (zp_mn n a r + 1) else if d = 0 then 4 * p + r else u
def zZ (n w : Nat) (B : Nat → Nat → Nat → Bool) (P : Nat → Nat → Nat → Nat) (md : Nat) : Nat → Nat → Nat → Prop
  | 0, x, v => x = w ∧ v < zINF
  | d + 1, x, v => v < zINF ∧ ∃ a p r u, a < 4 ^ n ∧ p < n ∧ r < 4 ∧ zZ n w B P md d a u ∧ zp_may n B a p r = true ∧ zp_mv a p r = x ∧ zinc P n md d u a p r ≤ v
theorem zZ_v {n w md d x v : Nat} {B : Nat → Nat → Nat → Bool} {P : Nat → Nat → Nat → Nat} (h : zZ n w B P md d x v) : v < zINF := by
  cases d with
  | zero => exact h.2
  | succ d => exact h.1
theorem zZ_x {n w md d x v : Nat} {B : Nat → Nat → Nat → Bool} {P : Nat → Nat → Nat → Nat} (hn : n ≤ 5) (hw : w < 4 ^ n) (h : zZ n w B P md d x v) : x < 4 ^ n := by
  cases d with
  | zero => rw [h.1]; exact hw
  | succ d =>
    obtain ⟨-, a, p, r, u, h1, h2, h3, h4, h5, h6, h7⟩ := h
    rw [← h6]
    exact zp_mlt hn h1 h2 h3
theorem zinc_m {P : Nat → Nat → Nat → Nat} {n md d u u1 a p r : Nat} (h : u ≤ u1) : zinc P n md d u a p r ≤ zinc P n md d u1 a p r := by
  unfold zinc
  split
  · omega
  · split <;> omega
theorem zZ_set {n w md d : Nat} {B : Nat → Nat → Nat → Bool} {P : Nat → Nat → Nat → Nat} (hw : w < 4 ^ n) (hn : n ≤ 5) (h : ∀ x v, zZ n w B P md (d + 1) x v ↔ zZ n w B P md d x v) : ∀ x v, zZ n w B P md (d + 2) x v ↔ zZ n w B P md (d + 1) x v := by
  cases d with
  | zero =>
    exfalso
    have h0 : zZ n w B P md 0 w 0 := ⟨rfl, by decide⟩
    obtain ⟨-, a, p, r, u, h1, h2, h3, h4, h5, h6, h7⟩ := (h w 0).mpr h0
    have h4 : a = w := h4.1
    subst h4
    have hd := zp_dig (a := a) (p := p) (r := r) (q := p) (by omega) h3 (by omega)
    rw [h6, if_pos rfl] at hd
    unfold zp_may at h5
    rw [hd] at h5
    simp at h5
  | succ d =>
    intro x v
    show (v < zINF ∧ _) ↔ (v < zINF ∧ _)
    have e : ∀ u a p r, zinc P n md (d + 1 + 1) u a p r = zinc P n md (d + 1) u a p r := by
      intro u a p r
      unfold zinc
      split
      · rfl
      · rw [if_neg (by omega), if_neg (by omega)]
    constructor
    · rintro ⟨h0, a, p, r, u, h1, h2, h3, h4, h5, h6, h7⟩
      exact ⟨h0, a, p, r, u, h1, h2, h3, (h a u).mp h4, h5, h6, by rw [← e]; exact h7⟩
    · rintro ⟨h0, a, p, r, u, h1, h2, h3, h4, h5, h6, h7⟩
      exact ⟨h0, a, p, r, u, h1, h2, h3, (h a u).mpr h4, h5, h6, by rw [e]; exact h7⟩
def zwF (X X1 : zq_M) : Prop := X1.2 = X.2 ∧ ∀ c, c ≠ 37 ∧ c ≠ 41 ∧ c ≠ 42 ∧ c ≠ 43 ∧ c ≠ 44 → X1.1 c = X.1 c
theorem zwF_t {X Y Z : zq_M} (h : zwF X Y) (g : zwF Y Z) : zwF X Z := ⟨g.1.trans h.1, fun c hc => (g.2 c hc).trans (h.2 c hc)⟩
theorem zwF_1 {c0 : Nat} {X Y : zq_M} (hc : c0 = 37 ∨ c0 = 41 ∨ c0 = 42 ∨ c0 = 43 ∨ c0 = 44) (h : zf1 c0 X Y) : zwF X Y := ⟨h.1, fun c h1 => h.2 c (by omega)⟩
theorem zwF_u {c0 k : Nat} {v : Int32} {X Y : zq_M} (hc : c0 = 37 ∨ c0 = 41 ∨ c0 = 42 ∨ c0 = 43 ∨ c0 = 44) (h : zwF X Y) : zwF X (zq_u1 Y c0 k v) := ⟨h.1, fun c h1 => (zq_un (by omega)).trans (h.2 c h1)⟩
theorem zyGX_fr {j h : Nat} {X X1 : zq_M} {S : Nat → Nat → Nat} {P : Nat → Nat → Nat → Nat} {B : Nat → Nat → Nat → Bool} (h2 : X1.2 = X.2) (hc : ∀ c, c ≤ 27 ∨ c = 39 ∨ c = 40 ∨ 111 ≤ c → X1.1 c = X.1 c) (hG : zyGX j X S h P B) : zyGX j X1 S h P B := by
  obtain ⟨a1, ⟨a2, a3, a4, a5⟩, a6, a7⟩ := hG
  refine ⟨zyX_fr (fun c hc1 => hc c (by omega)) a1, ⟨by rw [h2]; exact a2, a3, by rw [hc h (by omega)]; exact a4, a5⟩, ?_, ?_⟩
  · intro p r m h1 h2 h3 h4
    rw [hc 39 (by omega)]; exact a6 p r m h1 h2 h3 h4
  · intro p r m h1 h2 h3 h4
    rw [hc 40 (by omega)]; exact a7 p r m h1 h2 h3 h4
theorem zyGX_w {j h : Nat} {X X1 : zq_M} {S : Nat → Nat → Nat} {P : Nat → Nat → Nat → Nat} {B : Nat → Nat → Nat → Bool} (f : zwF X X1) (hG : zyGX j X S h P B) : zyGX j X1 S h P B := zyGX_fr f.1 (fun c hc => f.2 c (by omega)) hG
def zwS (n : Nat) (X : zq_M) (md d st : Nat) (L : Nat → Nat) : Prop := X.1 41 4 = zn (4 ^ n) ∧ X.1 41 5 = zn d ∧ X.1 41 6 = zn st ∧ X.1 41 7 = zn md ∧ (∀ a, a < 1024 → X.1 42 a = zn (L a)) ∧ ∀ a, L a ≤ zINF
theorem zn_4n {n : Nat} (hn : n ≤ 5) : zq_shl (1 : Int32) ((2 : Int32) * zn n) = zn (4 ^ n) := by
  rw [zl_1, zl_2, zn_mul, zn_shl (by omega), Nat.one_mul, Nat.pow_mul]
theorem zw_begin {N j h md : Nat} {X : zq_M} {S : Nat → Nat → Nat} {P : Nat → Nat → Nat → Nat} {B : Nat → Nat → Nat → Bool} (hN : 1100 < N) (hS : zyB S) (hG : zyGX j X S h P B) (hm : md < 2) : ∃ X1, f_X9_begin N j X (zn md) = some X1 ∧ zwF X X1 ∧ zwS (S 0 0) X1 md 0 0 (fun a => if a = zv_pk (S 3) then 0 else zINF) := by
  have hn := hS.1
  have hwl := zy_wl hS
  unfold f_X9_begin
  have gz : ∀ {ρ : Type} (o : Option ρ), zq_gz (zn md) o = o := by
    intro ρ o
    have : md = 0 ∨ md = 1 := by omega
    rcases this with rfl | rfl <;> rfl
  have gz0 : ∀ {ρ : Type} (o : Option ρ), zq_gz (0 : Int32) o = o := fun o => rfl
  have hq : (1073741824 : Int32) = zn zINF := rfl
  simp only [gz, gz0, zq_b]
  have e0 : (zq_u1 X 41 7 (zn md)).1 1 0 = zn (S 0 0) := by rw [zq_us1 (by omega)]; exact hG.1.1
  rw [e0, zn_4n hn, hq]
  obtain ⟨X5, x1, x2, x3, x4⟩ := zy_fill (N := N) (c := 42) (len := 1024) (sh := zq_shX j) (X := zq_u1 (zq_u1 (zq_u1 (zq_u1 X 41 7 (zn md)) 41 4 (zn (4 ^ S 0 0))) 41 5 0) 41 6 0) (v := zn zINF) (by omega) (by omega)
  rw [x1]
  simp only [Option.bind_some]
  have f4 : zwF X (zq_u1 (zq_u1 (zq_u1 (zq_u1 X 41 7 (zn md)) 41 4 (zn (4 ^ S 0 0))) 41 5 0) 41 6 0) := zwF_u (by omega) (zwF_u (by omega) (zwF_u (by omega) (zwF_u (by omega) ⟨rfl, fun _ _ => rfl⟩)))
  have f5 : zwF X X5 := zwF_t f4 (zwF_1 (by omega) x2)
  have g5 := zyGX_w f5 hG
  rw [zy_pkX (n := S 0 0) (P := S 3) (by omega) g5.1.1 hn g5.1.2.2.2.2.1 hS.2.2.2.2.2.1 hS.2.2.2.2.2.2.2.2.2]
  simp only [Option.bind_some]
  rw [zn_ck (by omega) (by omega), zn_ix (by omega)]
  refine ⟨_, rfl, zwF_u (by omega) f5, ?_, ?_, ?_, ?_, ?_, ?_⟩
  · rw [zq_us1 (by omega), x2.2 41 (by omega), zq_us1 (by omega), zq_us1 (by omega), zq_g1, if_pos ⟨rfl, rfl⟩]
  · rw [zq_us1 (by omega), x2.2 41 (by omega), zq_us1 (by omega), zq_g1, if_pos ⟨rfl, rfl⟩]; rfl
  · rw [zq_us1 (by omega), x2.2 41 (by omega), zq_g1, if_pos ⟨rfl, rfl⟩]; rfl
  · rw [zq_us1 (by omega), x2.2 41 (by omega), zq_us1 (by omega), zq_us1 (by omega), zq_us1 (by omega), zq_g1, if_pos ⟨rfl, rfl⟩]
  · intro a ha
    rw [zq_g1]
    show _ = zn (if a = zv_pk (S 3) then 0 else zINF)
    by_cases e : a = zv_pk (S 3)
    · rw [if_pos ⟨rfl, e⟩, if_pos e]; rfl
    · rw [if_neg (fun h => e h.2), if_neg e]; exact x3 a ha
  · intro a
    dsimp only
    split <;> omega
def zU (S : Nat → Nat → Nat) (a r g p : Nat) : Bool := decide (r < 3) && zk_sp S r (fun q => a / 4 ^ q % 4 == r) g p
theorem zw_tell {N j h r md d st : Nat} {X : zq_M} {S : Nat → Nat → Nat} {L : Nat → Nat} {P : Nat → Nat → Nat → Nat} {B : Nat → Nat → Nat → Bool} (hN : 1100 < N) (hS : zyB S) (hG : zyGX j X S h P B) (hw : zwS (S 0 0) X md d st L) (hr : r < 4) (hd : d < 100) : ∃ X1, f_X9_tellSpeakers N j X (zn r) = some X1 ∧ (X1.2 = X.2 ∧ ∀ c, c ≠ 37 ∧ c ≠ 44 → X1.1 c = X.1 c) ∧ ∀ t, t < 2 ^ S 0 0 → X1.1 44 t = zn (zs_set (fun p => decide (r < 3) && zk_sp S r (zs_bit t) (S 0 1 + d) p) (S 0 0)) := by
  have hn := hS.1
  have hb1 := hS.2.1
  have h32 := zs_p2 hn
  have h0p : 0 < 2 ^ S 0 0 := Nat.pow_pos (by omega)
  unfold f_X9_tellSpeakers
  refine zL (α := Int32 → zq_M → Option zq_M) (fun (X1 : zq_M) k g => g (zn k) X1) (fun k X1 => (X1.2 = X.2 ∧ ∀ c, c ≠ 37 ∧ c ≠ 44 → X1.1 c = X.1 c) ∧ ∀ t, t < k → X1.1 44 t = zn (zs_set (fun p => decide (r < 3) && zk_sp S r (zs_bit t) (S 0 1 + d) p) (S 0 0))) (fun o => ∃ X1, o = some X1 ∧ (X1.2 = X.2 ∧ ∀ c, c ≠ 37 ∧ c ≠ 44 → X1.1 c = X.1 c) ∧ ∀ t, t < 2 ^ S 0 0 → X1.1 44 t = zn (zs_set (fun p => decide (r < 3) && zk_sp S r (zs_bit t) (S 0 1 + d) p) (S 0 0))) (2 ^ S 0 0) ?_ ?_ N 0 X (by omega) (by omega) ⟨⟨rfl, fun _ _ => rfl⟩, fun t ht => by omega⟩
  · intro g k X1 hk ⟨f1, f2⟩ ih
    have G1 : zyGX j X1 S h P B := zyGX_fr f1.1 (fun c hc => f1.2 c (by omega)) hG
    obtain ⟨X2, e1, e2⟩ := zy_spX (N := N) (j := j) (t := k) (r := r) (g := S 0 1 + d) (by omega) hS G1.1 hk hr (by omega) G1.2.1
    unfold b_X9_tellSpeakers_2
    rw [zy_all G1.1.1 hn, G1.1.2.1, f1.2 41 (by omega), hw.2.1, zn_add, e1]
    simp only [Option.bind_some, zq_p, zq_b]
    rw [if_neg (by rw [zn_lt (by omega) (by omega)]; omega), zn_ck (by omega) (by omega), zn_ix (by omega), zl_1, zn_add]
    refine ih _ ⟨⟨e2.1.trans f1.1, fun c hc => ?_⟩, fun t ht => ?_⟩
    · rw [zq_un (by omega), e2.2 c (by omega)]; exact f1.2 c hc
    · rw [zq_g1]
      by_cases e : t = k
      · rw [if_pos ⟨rfl, e⟩, e]
      · rw [if_neg (fun h => e h.2), e2.2 44 (by omega)]; exact f2 t (by omega)
  · intro g X1 ⟨f1, f2⟩
    have G1 : zyGX j X1 S h P B := zyGX_fr f1.1 (fun c hc => f1.2 c (by omega)) hG
    unfold b_X9_tellSpeakers_2
    rw [zy_all G1.1.1 hn]
    simp only [Option.bind_some]
    rw [if_pos (by rw [zn_lt (by omega) (by omega)]; omega)]
    exact ⟨X1, rfl, f1, f2⟩
