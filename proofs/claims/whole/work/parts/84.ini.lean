def zi_g {α : Type} (d : α) : List (Nat × Nat × α) → Nat → Nat → α
  | [], _, _ => d
  | x :: l, c, k => if c = x.1 ∧ k = x.2.1 then x.2.2 else zi_g d l c k
def zi_n {α : Type} (c : Nat) : List (Nat × Nat × α) → Bool
  | [] => true
  | x :: l => !(Nat.beq c x.1) && zi_n c l
theorem zi_g0 {α : Type} (d : α) {c : Nat} (k : Nat) : ∀ l : List (Nat × Nat × α), zi_n c l = true → zi_g d l c k = d
  | [], _ => rfl
  | x :: l, h => by
    unfold zi_n at h
    rw [Bool.and_eq_true] at h
    have h1 : ¬ c = x.1 := by
      intro he
      rw [he] at h
      simp at h
    unfold zi_g
    rw [if_neg (fun hh => h1 hh.1)]
    exact zi_g0 d k l h.2
def zi_M (A : List (Nat × Nat × Int32)) (B : List (Nat × Nat × Int64)) (C : List (Nat × Nat × Option Nat)) : zq_M := (zi_g 0 A, zi_g 0 B, zi_g none C)
theorem zi_0 : (fun _ _ => 0, fun _ _ => 0, fun _ _ => none) = zi_M [] [] [] := rfl
theorem zi_z {A : List (Nat × Nat × Int32)} {B : List (Nat × Nat × Int64)} {C : List (Nat × Nat × Option Nat)} {c : Nat} (ha : zi_n c A = true) (hb : zi_n c B = true) (hc : zi_n c C = true) : zq_z (zi_M A B C) c = zi_M A B C := by
  unfold zq_z zi_M
  dsimp only
  congr 1
  · funext c1 k
    by_cases h : c1 = c
    · subst h; rw [if_pos rfl, zi_g0 _ _ _ ha]
    · rw [if_neg h]
  congr 1
  · funext c1 k
    by_cases h : c1 = c
    · subst h; rw [if_pos rfl, zi_g0 _ _ _ hb]
    · rw [if_neg h]
  · funext c1 k
    by_cases h : c1 = c
    · subst h; rw [if_pos rfl, zi_g0 _ _ _ hc]
    · rw [if_neg h]
theorem zi_u1 {A : List (Nat × Nat × Int32)} {B : List (Nat × Nat × Int64)} {C : List (Nat × Nat × Option Nat)} {c k : Nat} {v : Int32} : zq_u1 (zi_M A B C) c k v = zi_M ((c, k, v) :: A) B C := rfl
theorem zi_u2 {A : List (Nat × Nat × Int32)} {B : List (Nat × Nat × Int64)} {C : List (Nat × Nat × Option Nat)} {c k : Nat} {v : Int64} : zq_u2 (zi_M A B C) c k v = zi_M A ((c, k, v) :: B) C := rfl
theorem zi_u3 {A : List (Nat × Nat × Int32)} {B : List (Nat × Nat × Int64)} {C : List (Nat × Nat × Option Nat)} {c k : Nat} {v : Option Nat} : zq_u3 (zi_M A B C) c k v = zi_M A B ((c, k, v) :: C) := rfl
theorem zi_b {β : Type} {A : List (Nat × Nat × Int32)} {B : List (Nat × Nat × Int64)} {C : List (Nat × Nat × Option Nat)} (f : zq_M → β) : zq_b (zi_M A B C) f = f (zi_M A B C) := rfl
theorem zi_5 {A : List (Nat × Nat × Int32)} {C : List (Nat × Nat × Option Nat)} {h : Nat} (ha : ((((((((zi_n (h+1) A && zi_n (h+2) A) && zi_n (h+3) A) && zi_n (h+4) A) && zi_n (h+5) A) && zi_n (h+6) A) && zi_n (h+7) A) && zi_n (h+8) A) && zi_n (h+9) A) = true) (hb : ((((((((zi_n (h+1) C && zi_n (h+2) C) && zi_n (h+3) C) && zi_n (h+4) C) && zi_n (h+5) C) && zi_n (h+6) C) && zi_n (h+7) C) && zi_n (h+8) C) && zi_n (h+9) C) = true) : f_X5_init h (zi_M A [] C) = some (zi_M ((h, 14, -1) :: A) [] C) := by
  simp only [Bool.and_eq_true] at ha hb
  obtain ⟨⟨⟨⟨⟨⟨⟨⟨a1, a2⟩, a3⟩, a4⟩, a5⟩, a6⟩, a7⟩, a8⟩, a9⟩ := ha
  obtain ⟨⟨⟨⟨⟨⟨⟨⟨b1, b2⟩, b3⟩, b4⟩, b5⟩, b6⟩, b7⟩, b8⟩, b9⟩ := hb
  unfold f_X5_init
  simp only [zi_b, zi_z (B := []) a1 rfl b1, zi_z (B := []) a2 rfl b2, zi_z (B := []) a3 rfl b3, zi_z (B := []) a4 rfl b4, zi_z (B := []) a5 rfl b5, zi_z (B := []) a6 rfl b6, zi_z (B := []) a7 rfl b7, zi_z (B := []) a8 rfl b8, zi_z (B := []) a9 rfl b9, zi_u1]
theorem zi_2 {A : List (Nat × Nat × Int32)} {C : List (Nat × Nat × Option Nat)} {h : Nat} (ha : (((zi_n (h+1) A && zi_n (h+2) A) && zi_n (h+3) A) && zi_n (h+4) A) = true) (hb : (((zi_n (h+1) C && zi_n (h+2) C) && zi_n (h+3) C) && zi_n (h+4) C) = true) : f_X2_init h (zi_M A [] C) = some (zi_M A [] C) := by
  simp only [Bool.and_eq_true] at ha hb
  obtain ⟨⟨⟨a1, a2⟩, a3⟩, a4⟩ := ha
  obtain ⟨⟨⟨b1, b2⟩, b3⟩, b4⟩ := hb
  unfold f_X2_init
  simp only [zi_b, zi_z (B := []) a1 rfl b1, zi_z (B := []) a2 rfl b2, zi_z (B := []) a3 rfl b3, zi_z (B := []) a4 rfl b4]
theorem zi_7 {A : List (Nat × Nat × Int32)} {C : List (Nat × Nat × Option Nat)} {h : Nat} (ha : zi_n (h+1) A = true) (hb : zi_n (h+1) C = true) : f_X7_init h (zi_M A [] C) = some (zi_M ((h, 0, -1) :: A) [] C) := by
  unfold f_X7_init
  have e : zi_n (h + 1) ((h, 0, (-1 : Int32)) :: A) = true := by
    unfold zi_n
    rw [ha]
    have : Nat.beq (h + 1) h = false := by
      rw [Bool.eq_false_iff]
      intro hh
      have := Nat.eq_of_beq_eq_true hh
      omega
    simp [this]
  simp only [zi_b, zi_u1, zi_z (B := []) e rfl hb]
set_option maxRecDepth 20000 in
theorem zi_x : f_X10_init (zq_z (fun _ _ => 0, fun _ _ => 0, fun _ _ => none) 0) = some (zi_M [(67, 0, -1), (65, 0, -1), (63, 0, -1), (61, 0, -1), (59, 0, -1), (57, 0, -1), (11, 14, -1), (1, 14, -1)] [] [(56, 5, some 67), (56, 4, some 65), (56, 3, some 63), (56, 2, some 61), (56, 1, some 59), (56, 0, some 57), (35, 1, some 23), (28, 3, some 30), (28, 0, some 29)]) := by
  have z : ∀ {A : List (Nat × Nat × Int32)} {C : List (Nat × Nat × Option Nat)} {c : Nat}, zi_n c A = true → zi_n c C = true → zq_z (zi_M A [] C) c = zi_M A [] C := fun ha hc => zi_z ha rfl hc
  rw [zi_0]
  unfold f_X10_init f_X3_init f_X6_init f_X9_init f_X1_init f_X8_init f_X4_init f_X0_init
  have c0 : ∀ {ρ : Type} {o : Option ρ}, zq_ck (0 : Int32) 6 o = o := fun {ρ o} => if_neg (by decide)
  have c1 : ∀ {ρ : Type} {o : Option ρ}, zq_ck (1 : Int32) 6 o = o := fun {ρ o} => if_neg (by decide)
  have c2 : ∀ {ρ : Type} {o : Option ρ}, zq_ck (2 : Int32) 6 o = o := fun {ρ o} => if_neg (by decide)
  have c3 : ∀ {ρ : Type} {o : Option ρ}, zq_ck (3 : Int32) 6 o = o := fun {ρ o} => if_neg (by decide)
  have c4 : ∀ {ρ : Type} {o : Option ρ}, zq_ck (4 : Int32) 6 o = o := fun {ρ o} => if_neg (by decide)
  have c5 : ∀ {ρ : Type} {o : Option ρ}, zq_ck (5 : Int32) 6 o = o := fun {ρ o} => if_neg (by decide)
  simp (disch := decide) only [zi_b, z, zi_5, zi_2, zi_7, zi_u3, c0, c1, c2, c3, c4, c5, Option.bind_some]
  rfl
