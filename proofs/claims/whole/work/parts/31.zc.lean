def zs_sum (f : Nat → Nat) : Nat → Nat
  | 0 => 0
  | n + 1 => zs_sum f n + f n
def zs_set (p : Nat → Bool) (n : Nat) : Nat := zs_sum (fun k => if p k = true then 2 ^ k else 0) n
def zs_cnt (p : Nat → Bool) (n : Nat) : Nat := zs_sum (fun k => if p k = true then 1 else 0) n
def zs_bit (a k : Nat) : Bool := a / 2 ^ k % 2 == 1
theorem zb_x (N : Nat) (sh : zq_H) (X : zq_M) (a : Int32) : f_J6_bitCount_0f7a4 N sh X a = f_J6_bitCount_0f7a4 0 (fun _ => none) (fun _ _ => 0, fun _ _ => 0, fun _ _ => none) a := rfl
theorem zb_d : ∀ a : Nat, a < 1024 → f_J6_bitCount_0f7a4 0 (fun _ => none) (fun _ _ => 0, fun _ _ => 0, fun _ _ => none) (zn a) = some (zn (zs_cnt (zs_bit a) 10)) := by
  decide +kernel
theorem zb_c (N : Nat) (sh : zq_H) (X : zq_M) {a : Nat} (h : a < 1024) : f_J6_bitCount_0f7a4 N sh X (zn a) = some (zn (zs_cnt (zs_bit a) 10)) := (zb_x N sh X (zn a)).trans (zb_d a h)
