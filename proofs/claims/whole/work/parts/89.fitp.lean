def zF_m : List Nat → Nat → Bool
  | [], _ => false
  | a :: l, p => Nat.beq a p || zF_m l p
def zF_i : List Nat → Nat → Nat
  | [], _ => 0
  | a :: l, p => if Nat.beq a p = true then 0 else zF_i l p + 1
theorem zF_beq (a b : Nat) : Nat.beq a b = true ↔ a = b := ⟨Nat.eq_of_beq_eq_true, fun h => by subst h; exact Nat.beq_refl a⟩
theorem zF_ma (x p : Nat) : ∀ l, zF_m (l ++ [x]) p = (zF_m l p || Nat.beq x p)
  | [] => by simp [zF_m]
  | a :: l => by
    show (Nat.beq a p || zF_m (l ++ [x]) p) = ((Nat.beq a p || zF_m l p) || Nat.beq x p)
    rw [zF_ma x p l, Bool.or_assoc]
theorem zF_ia (x p : Nat) : ∀ l, zF_m l p = true → zF_i (l ++ [x]) p = zF_i l p
  | [], h => by cases h
  | a :: l, h => by
    show (if Nat.beq a p = true then 0 else zF_i (l ++ [x]) p + 1) = (if Nat.beq a p = true then 0 else zF_i l p + 1)
    by_cases h1 : Nat.beq a p = true
    · rw [if_pos h1, if_pos h1]
    · rw [if_neg h1, if_neg h1, zF_ia x p l (by
        have h2 : (Nat.beq a p || zF_m l p) = true := h
        rw [Bool.or_eq_true] at h2
        exact h2.resolve_left h1)]
theorem zF_in (p : Nat) : ∀ l, zF_m l p = false → zF_i (l ++ [p]) p = l.length
  | [], _ => by
    show (if Nat.beq p p = true then 0 else _) = 0
    rw [if_pos (Nat.beq_refl p)]
  | a :: l, h => by
    have h2 : (Nat.beq a p || zF_m l p) = false := h
    rw [Bool.or_eq_false_iff] at h2
    show (if Nat.beq a p = true then 0 else zF_i (l ++ [p]) p + 1) = l.length + 1
    rw [if_neg (by rw [h2.1]; decide), zF_in p l h2.2]
theorem zF_il (p : Nat) : ∀ l, zF_m l p = true → zF_i l p < l.length
  | [], h => by cases h
  | a :: l, h => by
    show (if Nat.beq a p = true then 0 else zF_i l p + 1) < l.length + 1
    by_cases h1 : Nat.beq a p = true
    · rw [if_pos h1]; omega
    · have h2 : (Nat.beq a p || zF_m l p) = true := h
      rw [Bool.or_eq_true] at h2
      have := zF_il p l (h2.resolve_left h1)
      rw [if_neg h1]; omega
def zF_v (G : List Nat → Nat) (n : Nat) : Nat → List Nat → Nat
  | 0, l => G l
  | m + 1, l => zs_sum (fun p => if zF_m l p = true then 0 else zF_v G n m (l ++ [p])) n
def zF_j {α : Type} (g : Nat → List α) : Nat → List α
  | 0 => []
  | n + 1 => zF_j g n ++ g n
def zF_l (n : Nat) : Nat → List Nat → List (List Nat)
  | 0, l => [l]
  | m + 1, l => zF_j (fun p => if zF_m l p = true then [] else zF_l n m (l ++ [p])) n
def zF_s {α : Type} (G : α → Nat) : List α → Nat
  | [] => 0
  | a :: l => G a + zF_s G l
theorem zF_sa {α : Type} (G : α → Nat) (b : List α) : ∀ a, zF_s G (a ++ b) = zF_s G a + zF_s G b
  | [] => by show zF_s G b = 0 + _; omega
  | x :: a => by
    show G x + zF_s G (a ++ b) = G x + zF_s G a + zF_s G b
    rw [zF_sa G b a]; omega
theorem zF_sj {α : Type} (G : α → Nat) (g : Nat → List α) : ∀ n, zF_s G (zF_j g n) = zs_sum (fun p => zF_s G (g p)) n
  | 0 => rfl
  | n + 1 => by
    show zF_s G (zF_j g n ++ g n) = zs_sum (fun p => zF_s G (g p)) n + zF_s G (g n)
    rw [zF_sa, zF_sj G g n]
theorem zF_vl (G : List Nat → Nat) (n : Nat) : ∀ m l, zF_v G n m l = zF_s G (zF_l n m l)
  | 0, l => by show G l = G l + 0; omega
  | m + 1, l => by
    show zs_sum _ n = zF_s G (zF_j _ n)
    rw [zF_sj]
    congr 1
    funext p
    by_cases h : zF_m l p = true
    · rw [if_pos h, if_pos h]; rfl
    · rw [if_neg h, if_neg h]; exact zF_vl G n m (l ++ [p])
def zF_go (n : Nat) : Nat → Nat → Nat → Bool
  | 0, _, _ => true
  | m + 1, c, s => if zs_bit s (c % n) = true then false else zF_go n m (c / n) (s ||| 2 ^ (c % n))
def zF_d (n c p : Nat) : Nat := c / n ^ p % n
def zF_code (n : Nat) (l : List Nat) : Nat → Nat
  | 0 => 0
  | k + 1 => zF_code n l k + zF_i l k * n ^ k
def zF_all {α : Type} (p : α → Bool) : List α → Bool
  | [] => true
  | a :: l => p a && zF_all p l
def zF_nd : List Nat → Bool
  | [] => true
  | a :: l => !(zF_m l a) && zF_nd l
def zF_to (f : Nat → Bool) : Nat → Bool
  | 0 => true
  | n + 1 => f n && zF_to f n
theorem zF_toe {f : Nat → Bool} : ∀ {n k}, zF_to f n = true → k < n → f k = true
  | 0, k, _, h => absurd h (by omega)
  | n + 1, k, h, hk => by
    have h2 : (f n && zF_to f n) = true := h
    rw [Bool.and_eq_true] at h2
    by_cases h3 : k = n
    · rw [h3]; exact h2.1
    · exact zF_toe h2.2 (by omega)
def zF_mp (n : Nat) : List (List Nat) → List Nat
  | [] => []
  | l :: r => zF_code n l n :: zF_mp n r
def zF_ok (n : Nat) (L : List (List Nat)) : Bool := zF_all (fun l => Nat.blt (zF_code n l n) (n ^ n) && zF_to (fun p => Nat.beq (zF_d n (zF_code n l n) p) (zF_i l p)) n) L
theorem zF_sm {n : Nat} (G : (Nat → Nat) → Nat) (hG : ∀ f g : Nat → Nat, (∀ p, p < n → f p = g p) → G f = G g) : ∀ L, zF_ok n L = true → zF_s (fun l => G (zF_i l)) L = zF_s (fun c => G (zF_d n c)) (zF_mp n L)
  | [], _ => rfl
  | l :: L, h => by
    have h2 : ((Nat.blt (zF_code n l n) (n ^ n) && zF_to (fun p => Nat.beq (zF_d n (zF_code n l n) p) (zF_i l p)) n) && zF_ok n L) = true := h
    rw [Bool.and_eq_true, Bool.and_eq_true] at h2
    show G (zF_i l) + zF_s _ L = G (zF_d n (zF_code n l n)) + zF_s _ (zF_mp n L)
    rw [zF_sm G hG L h2.2, hG (zF_i l) (zF_d n (zF_code n l n)) (fun p hp => by have h3 := zF_toe h2.1.2 hp; exact ((zF_beq (zF_d n (zF_code n l n) p) (zF_i l p)).mp h3).symm)]
theorem zF_lt {n : Nat} : ∀ L, zF_ok n L = true → ∀ c, zF_m (zF_mp n L) c = true → c < n ^ n
  | [], _, c, h => by cases h
  | l :: L, h, c, hc => by
    have h2 : ((Nat.blt (zF_code n l n) (n ^ n) && zF_to (fun p => Nat.beq (zF_d n (zF_code n l n) p) (zF_i l p)) n) && zF_ok n L) = true := h
    rw [Bool.and_eq_true, Bool.and_eq_true] at h2
    have h3 : (Nat.beq (zF_code n l n) c || zF_m (zF_mp n L) c) = true := hc
    rw [Bool.or_eq_true] at h3
    rcases h3 with h3 | h3
    · rw [zF_beq] at h3
      rw [← h3]
      exact Nat.le_of_ble_eq_true h2.1.1
    · exact zF_lt L h2.2 c h3
theorem zs_sum0 {f : Nat → Nat} : ∀ n, (∀ k, k < n → f k = 0) → zs_sum f n = 0
  | 0, _ => rfl
  | n + 1, h => by
    show zs_sum f n + f n = 0
    rw [zs_sum0 n (fun k hk => h k (by omega)), h n (by omega)]
theorem zs_sumg {f g : Nat → Nat} : ∀ n, (∀ k, k < n → f k = g k) → zs_sum f n = zs_sum g n
  | 0, _ => rfl
  | n + 1, h => by
    show zs_sum f n + f n = zs_sum g n + g n
    rw [zs_sumg n (fun k hk => h k (by omega)), h n (by omega)]
theorem zs_sum1 (f : Nat → Nat) (a : Nat) : ∀ n, a < n → zs_sum (fun c => if c = a then f c else 0) n = f a
  | 0, h => absurd h (by omega)
  | n + 1, h => by
    show zs_sum _ n + (if n = a then f n else 0) = f a
    by_cases h1 : n = a
    · rw [if_pos h1, zs_sum0 n (fun k hk => if_neg (by omega)), h1]; omega
    · rw [if_neg h1, zs_sum1 f a n (by omega), Nat.add_zero]
theorem zs_suma (f g : Nat → Nat) : ∀ n, zs_sum (fun c => f c + g c) n = zs_sum f n + zs_sum g n
  | 0 => rfl
  | n + 1 => by
    show zs_sum _ n + (f n + g n) = zs_sum f n + f n + (zs_sum g n + g n)
    rw [zs_suma f g n]; omega
theorem zF_sum (h : Nat → Nat) (M : Nat) : ∀ L, zF_nd L = true → (∀ c, zF_m L c = true → c < M) → zF_s h L = zs_sum (fun c => if zF_m L c = true then h c else 0) M
  | [], _, _ => by
    rw [zs_sum0 M (fun k _ => if_neg (by show ¬ false = true; decide))]; rfl
  | a :: L, hn, hl => by
    have h2 : (!(zF_m L a) && zF_nd L) = true := hn
    rw [Bool.and_eq_true] at h2
    have h3 : zF_m L a = false := by simpa using h2.1
    show h a + zF_s h L = _
    have ha : a < M := hl a (by show (Nat.beq a a || _) = true; rw [Nat.beq_refl]; rfl)
    rw [zF_sum h M L h2.2 (fun c hc => hl c (by show (Nat.beq a c || zF_m L c) = true; rw [hc, Bool.or_true])), ← zs_sum1 h a M ha, ← zs_suma]
    apply zs_sumg
    intro c _
    have e : zF_m (a :: L) c = (Nat.beq a c || zF_m L c) := rfl
    rw [e]
    by_cases h4 : c = a
    · subst h4
      rw [if_pos rfl, h3, Nat.beq_refl]
      show h c + 0 = h c
      omega
    · rw [if_neg h4]
      have h5 : Nat.beq a c = false := by
        rw [Bool.eq_false_iff]
        intro h6
        exact h4 ((zF_beq _ _).mp h6).symm
      rw [h5, Bool.false_or]
      omega
theorem zF_t1 : zF_ok 1 (zF_l 1 1 []) = true ∧ zF_nd (zF_mp 1 (zF_l 1 1 [])) = true := by decide +kernel
theorem zF_t2 : zF_ok 2 (zF_l 2 2 []) = true ∧ zF_nd (zF_mp 2 (zF_l 2 2 [])) = true := by decide +kernel
theorem zF_t3 : zF_ok 3 (zF_l 3 3 []) = true ∧ zF_nd (zF_mp 3 (zF_l 3 3 [])) = true := by decide +kernel
theorem zF_t4 : zF_ok 4 (zF_l 4 4 []) = true ∧ zF_nd (zF_mp 4 (zF_l 4 4 [])) = true := by decide +kernel
theorem zF_t5 : zF_ok 5 (zF_l 5 5 []) = true ∧ zF_nd (zF_mp 5 (zF_l 5 5 [])) = true := by decide +kernel
theorem zF_u2 : zF_to (fun a => zF_to (fun b => (zF_go 2 2 (16 * a + b) 0 == zF_m (zF_mp 2 (zF_l 2 2 [])) (16 * a + b)) || Nat.ble 4 (16 * a + b)) 16) 1 = true := by decide +kernel
theorem zF_u3 : zF_to (fun a => zF_to (fun b => (zF_go 3 3 (16 * a + b) 0 == zF_m (zF_mp 3 (zF_l 3 3 [])) (16 * a + b)) || Nat.ble 27 (16 * a + b)) 16) 2 = true := by decide +kernel
theorem zF_u4 : zF_to (fun a => zF_to (fun b => (zF_go 4 4 (16 * a + b) 0 == zF_m (zF_mp 4 (zF_l 4 4 [])) (16 * a + b)) || Nat.ble 256 (16 * a + b)) 16) 16 = true := by decide +kernel
theorem zF_u5 : zF_to (fun a => zF_to (fun b => (zF_go 5 5 (16 * a + b) 0 == zF_m (zF_mp 5 (zF_l 5 5 [])) (16 * a + b)) || Nat.ble 3125 (16 * a + b)) 16) 196 = true := by decide +kernel
theorem zF_u {n A : Nat} (hA : n ^ n ≤ 16 * A) (h : zF_to (fun a => zF_to (fun b => (zF_go n n (16 * a + b) 0 == zF_m (zF_mp n (zF_l n n [])) (16 * a + b)) || Nat.ble (n ^ n) (16 * a + b)) 16) A = true) (c : Nat) (hc : c < n ^ n) : zF_go n n c 0 = zF_m (zF_mp n (zF_l n n [])) c := by
  have h0 := zF_toe h (show c / 16 < A by omega)
  have h1 := zF_toe h0 (show c % 16 < 16 by omega)
  rw [show 16 * (c / 16) + c % 16 = c by omega, Bool.or_eq_true] at h1
  rcases h1 with h1 | h1
  · exact eq_of_beq h1
  · exact absurd (Nat.le_of_ble_eq_true h1) (by omega)
theorem zF_bridge {n : Nat} (hn : n ≤ 5) (h0 : 0 < n) (G : (Nat → Nat) → Nat) (hG : ∀ f g : Nat → Nat, (∀ p, p < n → f p = g p) → G f = G g) : zF_v (fun l => G (zF_i l)) n n [] = zs_sum (fun c => if zF_go n n c 0 = true then G (zF_d n c) else 0) (n ^ n) := by
  have key : (zF_ok n (zF_l n n []) = true ∧ zF_nd (zF_mp n (zF_l n n [])) = true) ∧ ∀ c, c < n ^ n → zF_go n n c 0 = zF_m (zF_mp n (zF_l n n [])) c := by
    rcases (show n = 1 ∨ n = 2 ∨ n = 3 ∨ n = 4 ∨ n = 5 by omega) with rfl | rfl | rfl | rfl | rfl
    · refine ⟨zF_t1, fun c hc => ?_⟩
      have : c = 0 := by omega
      subst this
      decide
    · exact ⟨zF_t2, fun c hc => zF_u (A := 1) (by decide) zF_u2 c hc⟩
    · exact ⟨zF_t3, fun c hc => zF_u (A := 2) (by decide) zF_u3 c hc⟩
    · exact ⟨zF_t4, fun c hc => zF_u (A := 16) (by decide) zF_u4 c hc⟩
    · exact ⟨zF_t5, fun c hc => zF_u (A := 196) (by decide) zF_u5 c hc⟩
  obtain ⟨⟨k1, k2⟩, k3⟩ := key
  rw [zF_vl, zF_sm G hG _ k1, zF_sum _ (n ^ n) _ k2 (zF_lt _ k1)]
  apply zs_sumg
  intro c hc
  rw [k3 c hc]
