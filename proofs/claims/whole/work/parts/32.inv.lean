def zx (X : zq_M) (c k : Nat) : Nat := zq_ix (X.1 c k)
def zv_bd (X : zq_M) (c k m : Nat) : Prop := ∃ a : Nat, a < m ∧ X.1 c k = zn a
def zv_sc (X : zq_M) (s q hc : Nat) : Prop :=
  zv_bd X s 0 6 ∧ (∀ i, i < 5 → zv_bd X (s + 1) i 100) ∧ (∀ i, i < 5 → zv_bd X (s + 2) i 100) ∧ (∀ i, i < 5 → zv_bd X (s + 3) i 4) ∧ (∀ i, i < 5 → zv_bd X (s + 4) i 256) ∧ (∀ i, i < 3 → zv_bd X (s + 5) i 7) ∧ (∀ i, i < 3 → zv_bd X (s + 6) i 10) ∧
  zv_bd X s 7 (q + 1) ∧ zv_bd X s 8 10000 ∧ zv_bd X s 11 13 ∧ (∀ i, i < 12 → zv_bd X (s + 7) i 32) ∧ (∀ i, i < 12 → zv_bd X (s + 8) i 5) ∧ zv_bd X s 13 13 ∧ (∀ i, i < 12 → ∃ a b : Nat, a < 5 ∧ b < 8 ∧ X.1 (s + 9) i = zn (10 * a + b)) ∧ (X.1 s 14 = -1 ∨ zv_bd X s 14 hc) ∧ (∀ i, i < 5 → zx X s 0 ≤ i → X.1 (s + 3) i = 0) ∧ (∀ i, i < 12 → i < zx X s 11 → zs_cnt (zs_bit (zx X (s + 7) i)) 10 % 2 = 1 ∧ zx X (s + 8) i < zx X s 0)
def zv_pk (f : Nat → Nat) : Nat := f 0 + 4 * f 1 + 16 * f 2 + 64 * f 3 + 256 * f 4
def zv_eq (X M : zq_M) (s p w c k t r b A H K D V S W G : Nat) : Prop :=
  M.1 69 p = X.1 s 0 ∧ M.1 69 w = zn (zv_pk (zx X (s + 3))) ∧ M.1 69 c = X.1 s 7 ∧ M.1 69 k = X.1 s 8 ∧ M.1 69 t = X.1 s 14 ∧ M.1 69 r = X.1 s 11 ∧ M.1 69 b = X.1 s 13 ∧
  (∀ i, i < 5 → M.1 A i = X.1 (s + 1) i) ∧ (∀ i, i < 5 → M.1 H i = X.1 (s + 2) i) ∧ (∀ i, i < 5 → M.1 K i = X.1 (s + 4) i) ∧ (∀ i, i < 3 → M.1 D i = X.1 (s + 5) i) ∧ (∀ i, i < 3 → M.1 V i = X.1 (s + 6) i) ∧
  (∀ i, i < 12 → M.1 S i = X.1 (s + 7) i) ∧ (∀ i, i < 12 → M.1 W i = X.1 (s + 8) i) ∧ (∀ i, i < 12 → M.1 G i = X.1 (s + 9) i)
def zv_now (q : Nat) (X M : zq_M) : Prop := zv_sc X 1 q (zx X 0 6) ∧ zv_eq X M 1 0 1 2 3 11 36 42 70 71 72 73 74 93 94 96
def zv_img (q : Nat) (X M : zq_M) : Prop := (X.1 0 2 = 0 ∧ M.1 69 45 = 0) ∨ (X.1 0 2 = 1 ∧ M.1 69 45 = 1 ∧ zv_sc X 11 q (zx X 0 6) ∧ zv_eq X M 11 47 48 49 50 46 51 52 98 99 100 101 102 103 104 105)
def zv_txt (X M : zq_M) : Prop := zv_bd X 0 4 101 ∧ M.1 69 12 = X.1 0 4 ∧ ∀ i, i < 100 → zv_bd X 21 i 128 ∧ M.1 75 i = X.1 21 i
def zv_act (q : Nat) (X M : zq_M) : Prop := (∃ a : Nat, a < 4096 ∧ X.1 54 1 = zn a) ∧ M.1 69 61 = X.1 54 1 ∧ ∀ i, i < 20 → M.1 106 i = X.1 55 i
def zv_tap (X M : zq_M) : Prop := ∀ t, t < 6 → X.2.2 56 t = some (57 + 2 * t) ∧ M.1 107 t = X.1 (57 + 2 * t) 0 ∧ M.1 108 t = X.1 (57 + 2 * t) 1 ∧ (X.1 (57 + 2 * t) 0 = -1 ∧ X.1 (57 + 2 * t) 1 = 0 ∨ zv_bd X (57 + 2 * t) 0 5) ∧ zv_bd X (57 + 2 * t) 1 61 ∧ (0 ≤ X.1 (57 + 2 * t) 0 → ∀ i, i < 60 → M.2.1 109 (60 * t + i) = X.2.1 (58 + 2 * t) i)
def zt_run : List Nat → Nat → Option Nat
  | [], d => some d
  | k :: l, d => if k = 0 then (if 1 ≤ d then zt_run l d else none) else if k ≤ 2 then (if 2 ≤ d then zt_run l (d - 1) else none) else (if d < 12 ∧ k < 1803 then zt_run l (d + 1) else none)
def zt_cx (k : Nat) : Int32 := if k = 0 then -1 else if k = 1 then -2 else if k = 2 then -3 else zn (k - 3)
def zt_cm (k : Nat) : Int32 := if k = 0 then -33 else if k = 1 then -38 else if k = 2 then -124 else zn (1000 * ((k - 3) % 6) + 100 * ((k - 3) / 6 % 3) + (k - 3) / 18)
def zh_same (W U : Nat → Nat) : Nat → Nat
  | 0 => 0
  | c + 1 => if W c = 3 then U c else zh_same W U c
def zh_x (X : zq_M) (h C : Nat) (W U E : Nat → Nat) (T : Nat → List Nat) : Prop :=
  C ≤ 10 ∧ X.1 h 0 = zn C ∧ X.1 h 6 = zn (zh_same W U C) ∧ E 0 = 0 ∧ ∀ c, c < C → W c < 4 ∧ U c < 100 ∧ X.1 (h + 1) c = zn (W c) ∧ X.1 (h + 2) c = zn (U c) ∧ X.1 (h + 3) c = zn (E (c + 1)) ∧ E (c + 1) = E c + (T c).length ∧ E (c + 1) ≤ 100 ∧ (W c ≠ 3 → zt_run (T c) 0 = some 1) ∧ ∀ t k, (T c)[t]? = some k → X.1 (h + 4) (E c + t) = zt_cx k
def zh_m (M : zq_M) (i C : Nat) (W U F : Nat → Nat) (T : Nat → List Nat) : Prop :=
  i < 6 ∧ M.1 76 i = zn C ∧ ∀ c, c < C → M.1 77 (10 * i + c) = zn (W c) ∧ (W c ≠ 1 → M.1 78 (10 * i + c) = zn (U c)) ∧ (W c ≠ 3 → F c + (T c).length ≤ 100 * (i + 1) ∧ M.1 79 (10 * i + c) = zn (F c) ∧ M.1 80 (10 * i + c) = zn (F c + (T c).length) ∧ ∀ t k, (T c)[t]? = some k → M.1 81 (F c + t) = zt_cm k)
def zv_hh (X M : zq_M) (h i : Nat) : Prop := ∃ (C : Nat) (W U E F : Nat → Nat) (T : Nat → List Nat), zh_x X h C W U E T ∧ zh_m M i C W U F T
def zv_let (i : Nat) : Nat := [112, 114, 105, 99, 101, 98, 97, 114, 119, 111, 114, 116, 104, 115, 97, 109, 101].getD i 0
def zv_hou (j : Nat) (X M : zq_M) : Prop := zv_bd X 0 6 7 ∧ M.1 69 10 = X.1 0 6 ∧ X.1 23 0 = 0 ∧ X.1 23 6 = 0 ∧ (∀ i, i < 17 → M.1 83 i = zn (zv_let i)) ∧ (∀ i, i < zx X 0 6 → ∃ h : Nat, h < j ∧ X.2.2 22 i = some (111 + 5 * h) ∧ zv_hh X M (111 + 5 * h) i) ∧ j = 6 ∧ ∀ i, i < 6 → X.2.2 22 i = some (111 + 5 * i)
def zI (q j : Nat) (X M : zq_M) : Prop := zv_now q X M ∧ zv_img q X M ∧ zv_txt X M ∧ zv_act q X M ∧ zv_tap X M ∧ zv_hou j X M
theorem zv_bd_mono {X : zq_M} {c k m n : Nat} (h : m ≤ n) (hb : zv_bd X c k m) : zv_bd X c k n := by
  obtain ⟨a, h1, h2⟩ := hb
  exact ⟨a, by omega, h2⟩
theorem zv_sc_mono {X : zq_M} {s q hc : Nat} (h : zv_sc X s q hc) : zv_sc X s (q + 1) hc := by
  obtain ⟨h1, h2, h3, h4, h5, h6, h7, h8, h9⟩ := h
  exact ⟨h1, h2, h3, h4, h5, h6, h7, zv_bd_mono (by omega) h8, h9⟩
theorem zI_idle : zq_idle zI := by
  intro q j X M ⟨h1, h2, h3, h4, h5, h6⟩
  refine ⟨⟨zv_sc_mono h1.1, h1.2⟩, ?_, h3, h4, h5, h6⟩
  rcases h2 with h2 | ⟨h2, h3, h4, h5⟩
  · exact Or.inl h2
  · exact Or.inr ⟨h2, h3, zv_sc_mono h4, h5⟩
