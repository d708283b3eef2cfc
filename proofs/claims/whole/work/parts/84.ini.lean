def zi_g {α : Type} (d : α) : List (Nat × Nat × α) → Nat → Nat → α
  | [], _, _ => d
  | x :: l, c, k => if c = x.1 ∧ k = x.2.1 then x.2.2 else zi_g d l c k
def zi_n {α : Type} (c : Nat) : List (Nat × Nat × α) → Bool
  | [] => true
  | x :: l => !(Nat.beq c x.1) && zi_n c l
theorem zi_g0 {α : Type} (d : α) {c : Nat} (k : Nat) : ∀ l : List (Nat × Nat × α), zi_n c l = true → zi_g d l c k = d
  | [], _ => rfl
  | x :: l, h => by
    unfold zi_n at h
    rw [Bool.and_eq_true] at h
    have h1 : ¬ c = x.1 := by
      intro he
      rw [he] at h
      simp at h
    unfold zi_g
    rw [if_neg (fun hh => h1 hh.1)]
    exact zi_g0 d k l h.2
def zi_M (A : List (Nat × Nat × Int32)) (B : List (Nat × Nat × Int64)) (C : List (Nat × Nat × Option Nat)) : zq_M := (zi_g 0 A, zi_g 0 B, zi_g none C)
theorem zi_0 : (fun _ _ => 0, fun _ _ => 0, fun _ _ => none) = zi_M [] [] [] := rfl
theorem zi_z {A : List (Nat × Nat × Int32)} {B : List (Nat × Nat × Int64)} {C : List (Nat × Nat × Option Nat)} {c : Nat} (ha : zi_n c A = true) (hb : zi_n c B = true) (hc : zi_n c C = true) : zq_z (zi_M A B C) c = zi_M A B C := by
  unfold zq_z zi_M
  dsimp only
  congr 1
  · funext c1 k
    by_cases h : c1 = c
    · subst h; rw [if_pos rfl, zi_g0 _ _ _ ha]
    · rw [if_neg h]
  congr 1
  · funext c1 k
    by_cases h : c1 = c
    · subst h; rw [if_pos rfl, zi_g0 _ _ _ hb]
    · rw [if_neg h]
  · funext c1 k
    by_cases h : c1 = c
    · subst h; rw [if_pos rfl, zi_g0 _ _ _ hc]
    · rw [if_neg h]
theorem zi_u1 {A : List (Nat × Nat × Int32)} {B : List (Nat × Nat × Int64)} {C : List (Nat × Nat × Option Nat)} {c k : Nat} {v : Int32} : zq_u1 (zi_M A B C) c k v = zi_M ((c, k, v) :: A) B C := rfl
theorem zi_u2 {A : List (Nat × Nat × Int32)} {B : List (Nat × Nat × Int64)} {C : List (Nat × Nat × Option Nat)} {c k : Nat} {v : Int64} : zq_u2 (zi_M A B C) c k v = zi_M A ((c, k, v) :: B) C := rfl
theorem zi_u3 {A : List (Nat × Nat × Int32)} {B : List (Nat × Nat × Int64)} {C : List (Nat × Nat × Option Nat)} {c k : Nat} {v : Option Nat} : zq_u3 (zi_M A B C) c k v = zi_M A B ((c, k, v) :: C) := rfl
theorem zi_b {β : Type} {A : List (Nat × Nat × Int32)} {B : List (Nat × Nat × Int64)} {C : List (Nat × Nat × Option Nat)} (f : zq_M → β) : zq_b (zi_M A B C) f = f (zi_M A B C) := rfl
theorem zi_5 {A : List (Nat × Nat × Int32)} {C : List (Nat × Nat × Option Nat)} {h : Nat} (ha : ((((((((zi_n (h+1) A && zi_n (h+2) A) && zi_n (h+3) A) && zi_n (h+4) A) && zi_n (h+5) A) && zi_n (h+6) A) && zi_n (h+7) A) && zi_n (h+8) A) && zi_n (h+9) A) = true) (hb : ((((((((zi_n (h+1) C && zi_n (h+2) C) && zi_n (h+3) C) && zi_n (h+4) C) && zi_n (h+5) C) && zi_n (h+6) C) && zi_n (h+7) C) && zi_n (h+8) C) && zi_n (h+9) C) = true) : f_X5_init h (zi_M A [] C) = some (zi_M ((h, 14, -1) :: A) [] C) := by
  simp only [Bool.and_eq_true] at ha hb
  obtain ⟨⟨⟨⟨⟨⟨⟨⟨a1, a2⟩, a3⟩, a4⟩, a5⟩, a6⟩, a7⟩, a8⟩, a9⟩ := ha
  obtain ⟨⟨⟨⟨⟨⟨⟨⟨b1, b2⟩, b3⟩, b4⟩, b5⟩, b6⟩, b7⟩, b8⟩, b9⟩ := hb
  unfold f_X5_init
  simp only [zi_b, zi_z (B := []) a1 rfl b1, zi_z (B := []) a2 rfl b2, zi_z (B := []) a3 rfl b3, zi_z (B := []) a4 rfl b4, zi_z (B := []) a5 rfl b5, zi_z (B := []) a6 rfl b6, zi_z (B := []) a7 rfl b7, zi_z (B := []) a8 rfl b8, zi_z (B := []) a9 rfl b9, zi_u1]
theorem zi_2 {A : List (Nat × Nat × Int32)} {C : List (Nat × Nat × Option Nat)} {h : Nat} (ha : (((zi_n (h+1) A && zi_n (h+2) A) && zi_n (h+3) A) && zi_n (h+4) A) = true) (hb : (((zi_n (h+1) C && zi_n (h+2) C) && zi_n (h+3) C) && zi_n (h+4) C) = true) : f_X2_init h (zi_M A [] C) = some (zi_M A [] C) := by
  simp only [Bool.and_eq_true] at ha hb
  obtain ⟨⟨⟨a1, a2⟩, a3⟩, a4⟩ := ha
  obtain ⟨⟨⟨b1, b2⟩, b3⟩, b4⟩ := hb
  unfold f_X2_init
  simp only [zi_b, zi_z (B := []) a1 rfl b1, zi_z (B := []) a2 rfl b2, zi_z (B := []) a3 rfl b3, zi_z (B := []) a4 rfl b4]
theorem zi_7 {A : List (Nat × Nat × Int32)} {C : List (Nat × Nat × Option Nat)} {h : Nat} (ha : zi_n (h+1) A = true) (hb : zi_n (h+1) C = true) : f_X7_init h (zi_M A [] C) = some (zi_M ((h, 0, -1) :: A) [] C) := by
  unfold f_X7_init
  have e : zi_n (h + 1) ((h, 0, (-1 : Int32)) :: A) = true := by
    unfold zi_n
    rw [ha]
    have : Nat.beq (h + 1) h = false := by
      rw [Bool.eq_false_iff]
      intro hh
      have := Nat.eq_of_beq_eq_true hh
      omega
    simp [this]
  simp only [zi_b, zi_u1, zi_z (B := []) e rfl hb]
theorem zi_sz {A : List (Nat × Nat × Int32)} {B : List (Nat × Nat × Int64)} {C : List (Nat × Nat × Option Nat)} {c : Nat} {f : zq_M → Option zq_M} {r : zq_M} (ha : zi_n c A = true) (hb : zi_n c B = true) (hc : zi_n c C = true) (h : f (zi_M A B C) = some r) : zq_b (zq_z (zi_M A B C) c) f = some r := by
  rw [zi_z ha hb hc]; exact h
theorem zi_sc {o : Option zq_M} {X r : zq_M} {f : zq_M → Option zq_M} (ho : o = some X) (h : f X = some r) : o.bind f = some r := by
  rw [ho]; exact h
theorem zi_s1 {A : List (Nat × Nat × Int32)} {B : List (Nat × Nat × Int64)} {C : List (Nat × Nat × Option Nat)} {c k : Nat} {v : Int32} {f : zq_M → Option zq_M} {r : zq_M} (h : f (zi_M ((c, k, v) :: A) B C) = some r) : zq_b (zq_u1 (zi_M A B C) c k v) f = some r := h
theorem zi_s2 {A : List (Nat × Nat × Int32)} {B : List (Nat × Nat × Int64)} {C : List (Nat × Nat × Option Nat)} {c k : Nat} {v : Int64} {f : zq_M → Option zq_M} {r : zq_M} (h : f (zi_M A ((c, k, v) :: B) C) = some r) : zq_b (zq_u2 (zi_M A B C) c k v) f = some r := h
theorem zi_s3 {A : List (Nat × Nat × Int32)} {B : List (Nat × Nat × Int64)} {C : List (Nat × Nat × Option Nat)} {c k : Nat} {v : Option Nat} {f : zq_M → Option zq_M} {r : zq_M} (h : f (zi_M A B ((c, k, v) :: C)) = some r) : zq_b (zq_u3 (zi_M A B C) c k v) f = some r := h
theorem zi_s1k {A : List (Nat × Nat × Int32)} {B : List (Nat × Nat × Int64)} {C : List (Nat × Nat × Option Nat)} {i : Int32} (k : Nat) {c n : Nat} {v : Int32} {f : zq_M → Option zq_M} {r : zq_M} (hi : i = zn k) (hk : k < n) (hn : n < 100) (h : f (zi_M ((c, k, v) :: A) B C) = some r) : zq_ck i n (zq_b (zq_u1 (zi_M A B C) c (zq_ix i) v) f) = some r := by
  rw [hi, zn_ck hk (by omega), zn_ix (by omega)]; exact h
theorem zi_s3k {A : List (Nat × Nat × Int32)} {B : List (Nat × Nat × Int64)} {C : List (Nat × Nat × Option Nat)} {i : Int32} (k : Nat) {c n : Nat} {v : Option Nat} {f : zq_M → Option zq_M} {r : zq_M} (hi : i = zn k) (hk : k < n) (hn : n < 100) (h : f (zi_M A B ((c, k, v) :: C)) = some r) : zq_ck i n (zq_b (zq_u3 (zi_M A B C) c (zq_ix i) v) f) = some r := by
  rw [hi, zn_ck hk (by omega), zn_ix (by omega)]; exact h
theorem zi_sg {o : Option zq_M} {r : zq_M} (h : o = some r) : zq_gz (0 : Int32) o = some r := by
  unfold zq_gz
  rw [if_pos (Or.inl rfl)]; exact h
theorem zi_c3 : f_X3_init (zi_M [(11, 14, -1), (1, 14, -1)] [] []) = some (zi_M [(11, 14, -1), (1, 14, -1)] [] [(28, 3, some 30), (28, 0, some 29)]) := by
  unfold f_X3_init
  refine zi_sz rfl rfl rfl ?_
  refine zi_s3 ?_
  refine zi_sz rfl rfl rfl ?_
  refine zi_sc (zi_2 rfl rfl) ?_
  refine zi_s3 ?_
  rfl
theorem zi_c6 : f_X6_init (zi_M [(11, 14, -1), (1, 14, -1)] [] [(28, 3, some 30), (28, 0, some 29)]) = some (zi_M [(11, 14, -1), (1, 14, -1)] [] [(35, 1, some 23), (28, 3, some 30), (28, 0, some 29)]) := by
  unfold f_X6_init
  refine zi_sz rfl rfl rfl ?_
  refine zi_sz rfl rfl rfl ?_
  refine zi_sz rfl rfl rfl ?_
  refine zi_sz rfl rfl rfl ?_
  refine zi_sz rfl rfl rfl ?_
  refine zi_s3 ?_
  rfl
theorem zi_c9 : f_X9_init (zi_M [(11, 14, -1), (1, 14, -1)] [] [(35, 1, some 23), (28, 3, some 30), (28, 0, some 29)]) = some (zi_M [(11, 14, -1), (1, 14, -1)] [] [(35, 1, some 23), (28, 3, some 30), (28, 0, some 29)]) := by
  unfold f_X9_init
  refine zi_sz rfl rfl rfl ?_
  refine zi_sz rfl rfl rfl ?_
  refine zi_sz rfl rfl rfl ?_
  rfl
theorem zi_c1 : f_X1_init (zi_M [(11, 14, -1), (1, 14, -1)] [] [(35, 1, some 23), (28, 3, some 30), (28, 0, some 29)]) = some (zi_M [(11, 14, -1), (1, 14, -1)] [] [(35, 1, some 23), (28, 3, some 30), (28, 0, some 29)]) := by
  unfold f_X1_init
  refine zi_sz rfl rfl rfl ?_
  refine zi_sz rfl rfl rfl ?_
  refine zi_sz rfl rfl rfl ?_
  refine zi_sz rfl rfl rfl ?_
  refine zi_sz rfl rfl rfl ?_
  rfl
theorem zi_c4 : f_X4_init (zi_M [(11, 14, -1), (1, 14, -1)] [] [(35, 1, some 23), (28, 3, some 30), (28, 0, some 29)]) = some (zi_M [(11, 14, -1), (1, 14, -1)] [] [(35, 1, some 23), (28, 3, some 30), (28, 0, some 29)]) := by
  unfold f_X4_init
  refine zi_sz rfl rfl rfl ?_
  rfl
theorem zi_c0 : f_X0_init (zi_M [(11, 14, -1), (1, 14, -1)] [] [(35, 1, some 23), (28, 3, some 30), (28, 0, some 29)]) = some (zi_M [(11, 14, -1), (1, 14, -1)] [] [(35, 1, some 23), (28, 3, some 30), (28, 0, some 29)]) := by
  unfold f_X0_init
  refine zi_sz rfl rfl rfl ?_
  rfl
theorem zi_x : f_X10_init (zq_z (zi_M [] [] []) 0) = some (zi_M [(67, 0, -1), (65, 0, -1), (63, 0, -1), (61, 0, -1), (59, 0, -1), (57, 0, -1), (11, 14, -1), (1, 14, -1)] [] [(22, 5, some 136), (22, 4, some 131), (22, 3, some 126), (22, 2, some 121), (22, 1, some 116), (22, 0, some 111), (56, 5, some 67), (56, 4, some 65), (56, 3, some 63), (56, 2, some 61), (56, 1, some 59), (56, 0, some 57), (35, 1, some 23), (28, 3, some 30), (28, 0, some 29)]) := by
  rw [zi_z (c := 0) rfl rfl rfl]
  unfold f_X10_init
  refine zi_sz rfl rfl rfl ?_
  refine zi_sc (zi_5 rfl rfl) ?_
  refine zi_sz rfl rfl rfl ?_
  refine zi_sc (zi_5 rfl rfl) ?_
  refine zi_sz rfl rfl rfl ?_
  refine zi_sz rfl rfl rfl ?_
  refine zi_sz rfl rfl rfl ?_
  refine zi_sc (zi_2 rfl rfl) ?_
  refine zi_sz rfl rfl rfl ?_
  refine zi_sc zi_c3 ?_
  refine zi_sz rfl rfl rfl ?_
  refine zi_sc zi_c6 ?_
  refine zi_sz rfl rfl rfl ?_
  refine zi_sc zi_c9 ?_
  refine zi_sz rfl rfl rfl ?_
  refine zi_sc zi_c1 ?_
  refine zi_sz rfl rfl rfl ?_
  refine zi_sc (show f_X8_init _ = _ from rfl) ?_
  refine zi_sz rfl rfl rfl ?_
  refine zi_sc zi_c4 ?_
  refine zi_sz rfl rfl rfl ?_
  refine zi_sc zi_c0 ?_
  refine zi_sz rfl rfl rfl ?_
  refine zi_sz rfl rfl rfl ?_
  refine zi_sc (zi_7 rfl rfl) ?_
  refine zi_s3k 0 rfl (by decide) (by decide) ?_
  refine zi_sz rfl rfl rfl ?_
  refine zi_sc (zi_7 rfl rfl) ?_
  refine zi_s3k 1 rfl (by decide) (by decide) ?_
  refine zi_sz rfl rfl rfl ?_
  refine zi_sc (zi_7 rfl rfl) ?_
  refine zi_s3k 2 rfl (by decide) (by decide) ?_
  refine zi_sz rfl rfl rfl ?_
  refine zi_sc (zi_7 rfl rfl) ?_
  refine zi_s3k 3 rfl (by decide) (by decide) ?_
  refine zi_sz rfl rfl rfl ?_
  refine zi_sc (zi_7 rfl rfl) ?_
  refine zi_s3k 4 rfl (by decide) (by decide) ?_
  refine zi_sz rfl rfl rfl ?_
  refine zi_sc (zi_7 rfl rfl) ?_
  refine zi_s3k 5 rfl (by decide) (by decide) ?_
  refine zi_sz rfl rfl rfl ?_
  refine zi_sc (zi_2 rfl rfl) ?_
  refine zi_s3k 0 rfl (by decide) (by decide) ?_
  refine zi_sz rfl rfl rfl ?_
  refine zi_sc (zi_2 rfl rfl) ?_
  refine zi_s3k 1 rfl (by decide) (by decide) ?_
  refine zi_sz rfl rfl rfl ?_
  refine zi_sc (zi_2 rfl rfl) ?_
  refine zi_s3k 2 rfl (by decide) (by decide) ?_
  refine zi_sz rfl rfl rfl ?_
  refine zi_sc (zi_2 rfl rfl) ?_
  refine zi_s3k 3 rfl (by decide) (by decide) ?_
  refine zi_sz rfl rfl rfl ?_
  refine zi_sc (zi_2 rfl rfl) ?_
  refine zi_s3k 4 rfl (by decide) (by decide) ?_
  refine zi_sz rfl rfl rfl ?_
  refine zi_sc (zi_2 rfl rfl) ?_
  refine zi_s3k 5 rfl (by decide) (by decide) ?_
  rfl
def zi_A : List (Nat × Nat × Int32) := [(107, 5, -1), (107, 4, -1), (107, 3, -1), (107, 2, -1), (107, 1, -1), (107, 0, -1), (69, 61, 0), (69, 52, 0), (69, 51, 0), (69, 50, 0), (69, 49, 0), (69, 48, 0), (69, 47, 0), (69, 46, -1), (69, 45, 0), (69, 42, 0), (69, 36, 0), (83, 16, 101), (83, 15, 109), (83, 14, 97), (83, 13, 115), (83, 12, 104), (83, 11, 116), (83, 10, 114), (83, 9, 111), (83, 8, 119), (83, 7, 114), (83, 6, 97), (83, 5, 98), (83, 4, 101), (83, 3, 99), (83, 2, 105), (83, 1, 114), (83, 0, 112), (69, 25, 0), (69, 24, 0), (69, 23, 0), (69, 14, 0), (69, 13, 0), (69, 12, 0), (69, 11, -1), (69, 10, 0), (69, 9, 0), (69, 3, 0), (69, 2, 0), (69, 1, 0), (69, 0, 0)]
def zi_B : List (Nat × Nat × Int64) := [(69, 41, 1), (69, 40, 0)]
set_option maxRecDepth 20000 in
theorem zi_m : f_X11_init (zq_z (zi_M [] [] []) 69) = some (zi_M zi_A zi_B []) := by
  rw [zi_z (c := 69) rfl rfl rfl]
  unfold f_X11_init
  refine zi_s1 ?_
  refine zi_s1 ?_
  refine zi_s1 ?_
  refine zi_s1 ?_
  refine zi_sz rfl rfl rfl ?_
  refine zi_sz rfl rfl rfl ?_
  refine zi_sz rfl rfl rfl ?_
  refine zi_sz rfl rfl rfl ?_
  refine zi_sz rfl rfl rfl ?_
  refine zi_s1 ?_
  refine zi_s1 ?_
  refine zi_s1 ?_
  refine zi_s1 ?_
  refine zi_s1 ?_
  refine zi_s1 ?_
  refine zi_sz rfl rfl rfl ?_
  refine zi_sz rfl rfl rfl ?_
  refine zi_sz rfl rfl rfl ?_
  refine zi_sz rfl rfl rfl ?_
  refine zi_sz rfl rfl rfl ?_
  refine zi_sz rfl rfl rfl ?_
  refine zi_sz rfl rfl rfl ?_
  refine zi_sz rfl rfl rfl ?_
  refine zi_s1 ?_
  refine zi_s1 ?_
  refine zi_s1 ?_
  refine zi_sz rfl rfl rfl ?_
  refine zi_s1k 0 rfl (by decide) (by decide) ?_
  refine zi_s1k 1 rfl (by decide) (by decide) ?_
  refine zi_s1k 2 rfl (by decide) (by decide) ?_
  refine zi_s1k 3 rfl (by decide) (by decide) ?_
  refine zi_s1k 4 rfl (by decide) (by decide) ?_
  refine zi_s1k 5 rfl (by decide) (by decide) ?_
  refine zi_s1k 6 rfl (by decide) (by decide) ?_
  refine zi_s1k 7 rfl (by decide) (by decide) ?_
  refine zi_s1k 8 rfl (by decide) (by decide) ?_
  refine zi_s1k 9 rfl (by decide) (by decide) ?_
  refine zi_s1k 10 rfl (by decide) (by decide) ?_
  refine zi_s1k 11 rfl (by decide) (by decide) ?_
  refine zi_s1k 12 rfl (by decide) (by decide) ?_
  refine zi_s1k 13 rfl (by decide) (by decide) ?_
  refine zi_s1k 14 rfl (by decide) (by decide) ?_
  refine zi_s1k 15 rfl (by decide) (by decide) ?_
  refine zi_s1k 16 rfl (by decide) (by decide) ?_
  refine zi_sz rfl rfl rfl ?_
  refine zi_sz rfl rfl rfl ?_
  refine zi_sz rfl rfl rfl ?_
  refine zi_sz rfl rfl rfl ?_
  refine zi_sz rfl rfl rfl ?_
  refine zi_sz rfl rfl rfl ?_
  refine zi_sz rfl rfl rfl ?_
  refine zi_sz rfl rfl rfl ?_
  refine zi_sz rfl rfl rfl ?_
  refine zi_s1 ?_
  refine zi_sz rfl rfl rfl ?_
  refine zi_sz rfl rfl rfl ?_
  refine zi_sz rfl rfl rfl ?_
  refine zi_s2 ?_
  refine zi_s2 ?_
  refine zi_s1 ?_
  refine zi_sz rfl rfl rfl ?_
  refine zi_sz rfl rfl rfl ?_
  refine zi_sg ?_
  refine zi_s1 ?_
  refine zi_s1 ?_
  refine zi_s1 ?_
  refine zi_s1 ?_
  refine zi_s1 ?_
  refine zi_s1 ?_
  refine zi_s1 ?_
  refine zi_s1 ?_
  refine zi_sz rfl rfl rfl ?_
  refine zi_sz rfl rfl rfl ?_
  refine zi_sz rfl rfl rfl ?_
  refine zi_sz rfl rfl rfl ?_
  refine zi_sz rfl rfl rfl ?_
  refine zi_sz rfl rfl rfl ?_
  refine zi_sz rfl rfl rfl ?_
  refine zi_sz rfl rfl rfl ?_
  refine zi_s1 ?_
  refine zi_sz rfl rfl rfl ?_
  refine zi_sz rfl rfl rfl ?_
  refine zi_s1k 0 rfl (by decide) (by decide) ?_
  refine zi_s1k 1 rfl (by decide) (by decide) ?_
  refine zi_s1k 2 rfl (by decide) (by decide) ?_
  refine zi_s1k 3 rfl (by decide) (by decide) ?_
  refine zi_s1k 4 rfl (by decide) (by decide) ?_
  refine zi_s1k 5 rfl (by decide) (by decide) ?_
  refine zi_sz rfl rfl rfl ?_
  refine zi_sz rfl rfl rfl ?_
  refine zi_sz rfl rfl rfl ?_
  rfl
def zi_XA : List (Nat × Nat × Int32) := [(67, 0, -1), (65, 0, -1), (63, 0, -1), (61, 0, -1), (59, 0, -1), (57, 0, -1), (11, 14, -1), (1, 14, -1)]
def zi_XC : List (Nat × Nat × Option Nat) := [(22, 5, some 136), (22, 4, some 131), (22, 3, some 126), (22, 2, some 121), (22, 1, some 116), (22, 0, some 111), (56, 5, some 67), (56, 4, some 65), (56, 3, some 63), (56, 2, some 61), (56, 1, some 59), (56, 0, some 57), (35, 1, some 23), (28, 3, some 30), (28, 0, some 29)]
theorem zi_xz {c : Nat} (k : Nat) (h : zi_n c zi_XA = true) : (zi_M zi_XA [] zi_XC).1 c k = 0 := zi_g0 0 k zi_XA h
theorem zi_mz {c : Nat} (k : Nat) (h : zi_n c zi_A = true) : (zi_M zi_A zi_B []).1 c k = 0 := zi_g0 0 k zi_A h
theorem zi_bd {c : Nat} (k : Nat) {m : Nat} (hm : 0 < m) (h : zi_n c zi_XA = true) : zv_bd (zi_M zi_XA [] zi_XC) c k m := ⟨0, hm, zi_xz k h⟩
theorem zi_xm {c c1 : Nat} (k : Nat) (h : zi_n c zi_A = true) (h1 : zi_n c1 zi_XA = true) : (zi_M zi_A zi_B []).1 c k = (zi_M zi_XA [] zi_XC).1 c1 k := (zi_mz k h).trans (zi_xz k h1).symm
theorem zi_let : ∀ i, i < 17 → (zi_M zi_A zi_B []).1 83 i = zn (zv_let i) := by decide +kernel
theorem zi_now : zv_now 0 (zi_M zi_XA [] zi_XC) (zi_M zi_A zi_B []) := by
  refine ⟨⟨⟨0, by omega, rfl⟩, fun i _ => zi_bd i (by omega) rfl, fun i _ => zi_bd i (by omega) rfl, fun i _ => zi_bd i (by omega) rfl, fun i _ => zi_bd i (by omega) rfl, fun i _ => zi_bd i (by omega) rfl, fun i _ => zi_bd i (by omega) rfl, ⟨0, by omega, rfl⟩, ⟨0, by omega, rfl⟩, ⟨0, by omega, rfl⟩, fun i _ => zi_bd i (by omega) rfl, fun i _ => zi_bd i (by omega) rfl, ⟨0, by omega, rfl⟩, fun i _ => ⟨0, 0, by omega, by omega, zi_xz i rfl⟩, Or.inl rfl, fun i _ _ => zi_xz i rfl, fun i _ h => ?_⟩, ?_⟩
  · have : zx (zi_M zi_XA [] zi_XC) 1 11 = 0 := rfl
    omega
  · refine ⟨rfl, ?_, rfl, rfl, rfl, rfl, rfl, fun i _ => zi_xm i rfl rfl, fun i _ => zi_xm i rfl rfl, fun i _ => zi_xm i rfl rfl, fun i _ => zi_xm i rfl rfl, fun i _ => zi_xm i rfl rfl, fun i _ => zi_xm i rfl rfl, fun i _ => zi_xm i rfl rfl, fun i _ => zi_xm i rfl rfl⟩
    have h : ∀ i, zx (zi_M zi_XA [] zi_XC) 4 i = 0 := by
      intro i
      unfold zx
      rw [zi_xz i rfl]
      rfl
    have h2 : zv_pk (zx (zi_M zi_XA [] zi_XC) 4) = 0 := by
      unfold zv_pk
      rw [h, h, h, h, h]
    show (zi_M zi_A zi_B []).1 69 1 = zn (zv_pk (zx (zi_M zi_XA [] zi_XC) 4))
    rw [h2]
    rfl
theorem zi_tap : zv_tap (zi_M zi_XA [] zi_XC) (zi_M zi_A zi_B []) := by
  intro t ht
  rcases (show t = 0 ∨ t = 1 ∨ t = 2 ∨ t = 3 ∨ t = 4 ∨ t = 5 by omega) with rfl | rfl | rfl | rfl | rfl | rfl
  · exact ⟨rfl, rfl, rfl, Or.inl ⟨rfl, rfl⟩, ⟨0, by omega, rfl⟩, fun h => absurd (show (0 : Int32) ≤ -1 from h) (by decide)⟩
  · exact ⟨rfl, rfl, rfl, Or.inl ⟨rfl, rfl⟩, ⟨0, by omega, rfl⟩, fun h => absurd (show (0 : Int32) ≤ -1 from h) (by decide)⟩
  · exact ⟨rfl, rfl, rfl, Or.inl ⟨rfl, rfl⟩, ⟨0, by omega, rfl⟩, fun h => absurd (show (0 : Int32) ≤ -1 from h) (by decide)⟩
  · exact ⟨rfl, rfl, rfl, Or.inl ⟨rfl, rfl⟩, ⟨0, by omega, rfl⟩, fun h => absurd (show (0 : Int32) ≤ -1 from h) (by decide)⟩
  · exact ⟨rfl, rfl, rfl, Or.inl ⟨rfl, rfl⟩, ⟨0, by omega, rfl⟩, fun h => absurd (show (0 : Int32) ≤ -1 from h) (by decide)⟩
  · exact ⟨rfl, rfl, rfl, Or.inl ⟨rfl, rfl⟩, ⟨0, by omega, rfl⟩, fun h => absurd (show (0 : Int32) ≤ -1 from h) (by decide)⟩
theorem zi_hs : ∀ i, i < 6 → (zi_M zi_XA [] zi_XC).2.2 22 i = some (111 + 5 * i) := by decide +kernel
theorem zI_ini : zq_ini zI := by
  refine ⟨zi_M zi_XA [] zi_XC, zi_M zi_A zi_B [], ?_, ?_, zi_now, Or.inl ⟨rfl, rfl⟩, ⟨⟨0, by omega, rfl⟩, rfl, fun i _ => ⟨zi_bd i (by omega) rfl, zi_xm i rfl rfl⟩⟩, ⟨⟨0, by omega, rfl⟩, rfl, fun i _ => zi_xm i rfl rfl⟩, zi_tap, ⟨0, by omega, rfl⟩, rfl, rfl, rfl, zi_let, fun i h => ?_, rfl, zi_hs⟩
  · rw [zi_0]
    exact zi_x
  · rw [zi_0]
    exact zi_m
  · have : zx (zi_M zi_XA [] zi_XC) 0 6 = 0 := rfl
    omega
