theorem zj_sl : 7302249 ≤ room_1.slots := by decide

def zq_Aw (s : State) : Nat → Prop := fun q => s.heap.size ≤ q
def zq_JC (p : Program) (s : State) (m : MethodId) (meth : Method) (c : Code) (b L : Nat) (xs : Nat → Int32) (G : zq_G) : Prop := lw_At p s m meth c b L xs ∧ G.2.2.1 = s.heap.size ∧ va_K G.2.1 vwCl (zq_ty G) s ∧ zq_E G (zq_Aw s) s s.heap
def zq_J (p : Program) (e : Env) (s : State) (m : MethodId) (below : List Frame) (meth : Method) (c : Code) (b : Nat) (G : zq_G) (kc kn pc : Nat) (lo : List (Nat × Value)) (st : List Value) (shx : zq_H) (X : zq_M) (shm : zq_H) (M : zq_M) (z : Nat) : Prop :=
  ∀ (H : Heap) (locs : List Loc) (ls : Array Slot), H.size = z → va_S (zq_Aw s) s.heap H locs → zq_P G shx X H → zq_P G shm M H → lv_has ls 4 lo → W p G.1 e room_1 s m #[Value.ref b] below meth c H locs kc kn (lw_Z below #[Value.ref b] s) (F0 m pc ls st)
def zq_dis (s1 s2 : zq_H) : Prop := ∀ (d : Nat) (x y : zq_S), s1 d = some x → s2 d = some y → False
section
variable {p : Program} {e : Env} {s : State} {m : MethodId} {below : List Frame} {meth : Method} {c : Code} {b L : Nat} {xs : Nat → Int32} {G : zq_G} {kc kn pc : Nat} {lo : List (Nat × Value)} {st : List Value} {shx shm : zq_H} {X M : zq_M} {z : Nat}
theorem zj_iconst (JC : zq_JC p s m meth c b L xs G) {n : Int} {v : Int32} (hd : decode code pc = .ok (.iconst n, 1)) (hv : Int32.ofInt n = v) (K : zq_J p e s m below meth c b G kc kn (pc + 1) lo (.int v :: st) shx X shm M z) : zq_J p e s m below meth c b G kc kn (pc) lo (st) shx X shm M z := by
  intro H locs ls hz hS hX hM hl
  exact lv_iconst JC.1.1 JC.1.2.1 hd hv (K H locs ls hz hS hX hM hl)
theorem zj_bipush (JC : zq_JC p s m meth c b L xs G) {n : Int} {v : Int32} (hd : decode code pc = .ok (.bipush n, 2)) (hv : (Int8.ofInt n).toInt32 = v) (K : zq_J p e s m below meth c b G kc kn (pc + 2) lo (.int v :: st) shx X shm M z) : zq_J p e s m below meth c b G kc kn (pc) lo (st) shx X shm M z := by
  intro H locs ls hz hS hX hM hl
  exact lv_bipush JC.1.1 JC.1.2.1 hd hv (K H locs ls hz hS hX hM hl)
theorem zj_iload_n (JC : zq_JC p s m meth c b L xs G) {k : Fin 4} {x : Int32} (hd : decode code pc = .ok (.iload_n k, 1)) (q : Nat) {i : Nat} (hi : (k : Nat) = i) (hj : lo[q]? = some (i, .int x)) (K : zq_J p e s m below meth c b G kc kn (pc + 1) lo (.int x :: st) shx X shm M z) : zq_J p e s m below meth c b G kc kn (pc) lo (st) shx X shm M z := by
  intro H locs ls hz hS hX hM hl
  exact lv_iload_n JC.1.1 JC.1.2.1 hd hi (lv_at hl q hj) (K H locs ls hz hS hX hM hl)
theorem zj_aload_n (JC : zq_JC p s m meth c b L xs G) {k : Fin 4} {x : Nat} (hd : decode code pc = .ok (.aload_n k, 1)) (q : Nat) {i : Nat} (hi : (k : Nat) = i) (hj : lo[q]? = some (i, .ref x)) (K : zq_J p e s m below meth c b G kc kn (pc + 1) lo (.ref x :: st) shx X shm M z) : zq_J p e s m below meth c b G kc kn (pc) lo (st) shx X shm M z := by
  intro H locs ls hz hS hX hM hl
  exact lv_aload_n JC.1.1 JC.1.2.1 hd hi (lv_at hl q hj) (K H locs ls hz hS hX hM hl)
theorem zj_istore_n (JC : zq_JC p s m meth c b L xs G) {k : Fin 4} {i : Nat} {x : Int32} {lo2 : List (Nat × Value)} (hd : decode code pc = .ok (.istore_n k, 1)) (hi : (k : Nat) = i) (hn : i < 4) (h2 : (i, .int x) :: zq_st i lo = lo2) (K : zq_J p e s m below meth c b G kc kn (pc + 1) lo2 (st) shx X shm M z) : zq_J p e s m below meth c b G kc kn (pc) lo (.int x :: st) shx X shm M z := by
  intro H locs ls hz hS hX hM hl
  exact lv_istore_n JC.1.1 JC.1.2.1 hd hi hl hn h2 (fun ls2 hl2 => K H locs ls2 hz hS hX hM hl2)
theorem zj_astore_n (JC : zq_JC p s m meth c b L xs G) {k : Fin 4} {i : Nat} {x : Nat} {lo2 : List (Nat × Value)} (hd : decode code pc = .ok (.astore_n k, 1)) (hi : (k : Nat) = i) (hn : i < 4) (h2 : (i, .ref x) :: zq_st i lo = lo2) (K : zq_J p e s m below meth c b G kc kn (pc + 1) lo2 (st) shx X shm M z) : zq_J p e s m below meth c b G kc kn (pc) lo (.ref x :: st) shx X shm M z := by
  intro H locs ls hz hS hX hM hl
  exact lv_astore_n JC.1.1 JC.1.2.1 hd hi hl hn h2 (fun ls2 hl2 => K H locs ls2 hz hS hX hM hl2)
theorem zj_iinc (JC : zq_JC p s m meth c b L xs G) {i q : Nat} {n : Int} {x v : Int32} {lo2 : List (Nat × Value)} (hd : decode code pc = .ok (.iinc i n, 3)) (hj : lo[q]? = some (i, .int x)) (hv : x + Int32.ofInt n = v) (hn : i < 4) (h2 : (i, .int v) :: zq_st i lo = lo2) (K : zq_J p e s m below meth c b G kc kn (pc + 3) lo2 (st) shx X shm M z) : zq_J p e s m below meth c b G kc kn (pc) lo (st) shx X shm M z := by
  intro H locs ls hz hS hX hM hl
  exact lv_iinc JC.1.1 JC.1.2.1 hd hl (k := q) hj hv hn h2 (fun ls2 hl2 => K H locs ls2 hz hS hX hM hl2)
theorem zj_iadd (JC : zq_JC p s m meth c b L xs G) {x y : Int32} (hd : decode code pc = .ok (.iadd, 1))  (K : zq_J p e s m below meth c b G kc kn (pc + 1) lo (.int (x + y) :: st) shx X shm M z) : zq_J p e s m below meth c b G kc kn (pc) lo (.int y :: .int x :: st) shx X shm M z := by
  intro H locs ls hz hS hX hM hl
  exact lv_iadd JC.1.1 JC.1.2.1 hd  (K H locs ls hz hS hX hM hl)
theorem zj_isub (JC : zq_JC p s m meth c b L xs G) {x y : Int32} (hd : decode code pc = .ok (.isub, 1))  (K : zq_J p e s m below meth c b G kc kn (pc + 1) lo (.int (x - y) :: st) shx X shm M z) : zq_J p e s m below meth c b G kc kn (pc) lo (.int y :: .int x :: st) shx X shm M z := by
  intro H locs ls hz hS hX hM hl
  exact lv_isub JC.1.1 JC.1.2.1 hd  (K H locs ls hz hS hX hM hl)
theorem zj_iand (JC : zq_JC p s m meth c b L xs G) {x y : Int32} (hd : decode code pc = .ok (.iand, 1))  (K : zq_J p e s m below meth c b G kc kn (pc + 1) lo (.int (x &&& y) :: st) shx X shm M z) : zq_J p e s m below meth c b G kc kn (pc) lo (.int y :: .int x :: st) shx X shm M z := by
  intro H locs ls hz hS hX hM hl
  exact lv_iand JC.1.1 JC.1.2.1 hd  (K H locs ls hz hS hX hM hl)
theorem zj_land (JC : zq_JC p s m meth c b L xs G) {x y : Int64} (hd : decode code pc = .ok (.land, 1))  (K : zq_J p e s m below meth c b G kc kn (pc + 1) lo (.long (x &&& y) :: st) shx X shm M z) : zq_J p e s m below meth c b G kc kn (pc) lo (.long y :: .long x :: st) shx X shm M z := by
  intro H locs ls hz hS hX hM hl
  exact lv_land JC.1.1 JC.1.2.1 hd  (K H locs ls hz hS hX hM hl)
theorem zj_lor (JC : zq_JC p s m meth c b L xs G) {x y : Int64} (hd : decode code pc = .ok (.lor, 1))  (K : zq_J p e s m below meth c b G kc kn (pc + 1) lo (.long (x ||| y) :: st) shx X shm M z) : zq_J p e s m below meth c b G kc kn (pc) lo (.long y :: .long x :: st) shx X shm M z := by
  intro H locs ls hz hS hX hM hl
  exact lv_lor JC.1.1 JC.1.2.1 hd  (K H locs ls hz hS hX hM hl)
theorem zj_i2l (JC : zq_JC p s m meth c b L xs G) {x : Int32} (hd : decode code pc = .ok (.i2l, 1))  (K : zq_J p e s m below meth c b G kc kn (pc + 1) lo (.long x.toInt64 :: st) shx X shm M z) : zq_J p e s m below meth c b G kc kn (pc) lo (.int x :: st) shx X shm M z := by
  intro H locs ls hz hS hX hM hl
  exact lv_i2l JC.1.1 JC.1.2.1 hd rfl (K H locs ls hz hS hX hM hl)
theorem zj_lshl (JC : zq_JC p s m meth c b L xs G) {x : Int64} {y : Int32} (hd : decode code pc = .ok (.lshl, 1))  (K : zq_J p e s m below meth c b G kc kn (pc + 1) lo (.long (zq_lshl x y) :: st) shx X shm M z) : zq_J p e s m below meth c b G kc kn (pc) lo (.int y :: .long x :: st) shx X shm M z := by
  intro H locs ls hz hS hX hM hl
  exact lv_lshl JC.1.1 JC.1.2.1 hd rfl (K H locs ls hz hS hX hM hl)
theorem zj_lcmp (JC : zq_JC p s m meth c b L xs G) {x y : Int64} (hd : decode code pc = .ok (.lcmp, 1))  (K : zq_J p e s m below meth c b G kc kn (pc + 1) lo (.int (lg_cmp x y) :: st) shx X shm M z) : zq_J p e s m below meth c b G kc kn (pc) lo (.long y :: .long x :: st) shx X shm M z := by
  intro H locs ls hz hS hX hM hl
  exact W.lcmp JC.1.1 JC.1.2.1 hd  (K H locs ls hz hS hX hM hl)
theorem zj_dup (JC : zq_JC p s m meth c b L xs G) {v : Value} (hd : decode code pc = .ok (.dup, 1)) (hv : v.category = 1) (K : zq_J p e s m below meth c b G kc kn (pc + 1) lo (v :: v :: st) shx X shm M z) : zq_J p e s m below meth c b G kc kn (pc) lo (v :: st) shx X shm M z := by
  intro H locs ls hz hS hX hM hl
  exact lv_dup JC.1.1 JC.1.2.1 hd hv (K H locs ls hz hS hX hM hl)
theorem zj_ldc2 (JC : zq_JC p s m meth c b L xs G) {idx : Nat} {v : Int64} (hd : decode code pc = .ok (.ldc2_w idx, 3)) (hc : Cond.constantLong R_law idx v ∈ zq_T) (K : zq_J p e s m below meth c b G kc kn (pc + 3) lo (.long v :: st) shx X shm M z) : zq_J p e s m below meth c b G kc kn (pc) lo (st) shx X shm M z := by
  intro H locs ls hz hS hX hM hl
  exact lv_ldc2 JC.1.1 JC.1.2.1 JC.1.2.2.2.2.1 (JC.1.2.2.2.2.2.1 _ (List.mem_filter.mp hc).1) hd (K H locs ls hz hS hX hM hl)
theorem zj_goto (JC : zq_JC p s m meth c b L xs G) {off : Int} (tgt : Nat) (hd : decode code pc = .ok (.goto off, 3)) (ht : (pc : Int) + off = (tgt : Int)) (K : zq_J p e s m below meth c b G kc kn (tgt) lo (st) shx X shm M z) : zq_J p e s m below meth c b G kc kn (pc) lo (st) shx X shm M z := by
  intro H locs ls hz hS hX hM hl
  exact lv_goto JC.1.1 JC.1.2.1 hd ht (K H locs ls hz hS hX hM hl)
theorem zj_gt (JC : zq_JC p s m meth c b L xs G) {x y : Int32} {off : Int} (tgt : Nat) (hd : decode code pc = .ok (.if_icmp .gt off, 3)) (ht : (pc : Int) + off = (tgt : Int)) (KT : y < x → zq_J p e s m below meth c b G kc kn (tgt) lo (st) shx X shm M z) (KF : ¬ y < x → zq_J p e s m below meth c b G kc kn (pc + 3) lo (st) shx X shm M z) : zq_J p e s m below meth c b G kc kn (pc) lo (.int y :: .int x :: st) shx X shm M z := by
  intro H locs ls hz hS hX hM hl
  exact lv_icmp_gt JC.1.1 JC.1.2.1 hd ht (fun h => KT h H locs ls hz hS hX hM hl) (fun h => KF h H locs ls hz hS hX hM hl)
theorem zj_eq (JC : zq_JC p s m meth c b L xs G) {x : Int32} {off : Int} (tgt : Nat) (hd : decode code pc = .ok (.if_icmp .eq off, 3)) (ht : (pc : Int) + off = (tgt : Int)) (KT : zq_J p e s m below meth c b G kc kn (tgt) lo (st) shx X shm M z) : zq_J p e s m below meth c b G kc kn (pc) lo (.int x :: .int x :: st) shx X shm M z := by
  intro H locs ls hz hS hX hM hl
  exact lv_icmp_eq JC.1.1 JC.1.2.1 hd ht (fun h => KT H locs ls hz hS hX hM hl) (fun h => absurd rfl h)
theorem zj_leq (JC : zq_JC p s m meth c b L xs G) {x : Int64} {off : Int} (tgt : Nat) (hd : decode code pc = .ok (.ifCond .eq off, 3)) (ht : (pc : Int) + off = (tgt : Int)) (KT : zq_J p e s m below meth c b G kc kn (tgt) lo (st) shx X shm M z) : zq_J p e s m below meth c b G kc kn (pc) lo (.int (lg_cmp x x) :: st) shx X shm M z := by
  intro H locs ls hz hS hX hM hl
  exact lv_if_eq JC.1.1 JC.1.2.1 hd ht (fun h => KT H locs ls hz hS hX hM hl) (fun h => absurd (by simp [lg_cmp]) h)
theorem zj_tab (JC : zq_JC p s m meth c b L xs G) {dflt lo1 hi off n : Int} {offs : Array Int} {len : Nat} {x : Int32} (tgt : Nat) (hd : decode code pc = .ok (.tableswitch dflt lo1 hi offs, len)) (hc : x.toInt = n) (h1 : ¬ n < lo1) (h2 : ¬ hi < n) (ho : offs[(n - lo1).toNat]? = some off) (ht : (pc : Int) + off = (tgt : Int)) (K : zq_J p e s m below meth c b G kc kn (tgt) lo (st) shx X shm M z) : zq_J p e s m below meth c b G kc kn (pc) lo (.int x :: st) shx X shm M z := by
  intro H locs ls hz hS hX hM hl
  subst hc
  exact lv_tableIn JC.1.1 JC.1.2.1 hd h1 h2 ho ht (K H locs ls hz hS hX hM hl)
theorem zj_tabD (JC : zq_JC p s m meth c b L xs G) {dflt lo1 hi : Int} {offs : Array Int} {len : Nat} {x : Int32} (tgt : Nat) (hd : decode code pc = .ok (.tableswitch dflt lo1 hi offs, len)) (hx : x.toInt < lo1 ∨ hi < x.toInt) (ht : (pc : Int) + dflt = (tgt : Int)) (K : zq_J p e s m below meth c b G kc kn (tgt) lo (st) shx X shm M z) : zq_J p e s m below meth c b G kc kn (pc) lo (.int x :: st) shx X shm M z := by
  intro H locs ls hz hS hX hM hl
  exact lv_tableOut JC.1.1 JC.1.2.1 hd hx ht (K H locs ls hz hS hX hM hl)
theorem zj_sld (JC : zq_JC p s m meth c b L xs G) {i : Int32} (hd : decode code pc = .ok (.iaload, 1)) (hi : vp_in i L) (K : zq_J p e s m below meth c b G kc kn (pc + 1) lo (.int (xs i.toNatClampNeg) :: st) shx X shm M z) : zq_J p e s m below meth c b G kc kn (pc) lo (.int i :: .ref b :: st) shx X shm M z := by
  intro H locs ls hz hS hX hM hl
  exact va_sld JC.1.1 JC.1.2.1 JC.1.2.2.2.2.2.2.1 JC.1.2.2.2.2.2.2.2.1 (Nat.not_le.mpr JC.1.2.2.2.2.2.2.2.1) hS hi hd (K H locs ls hz hS hX hM hl)
theorem zj_slen (JC : zq_JC p s m meth c b L xs G) (hd : decode code pc = .ok (.arraylength, 1)) (K : zq_J p e s m below meth c b G kc kn (pc + 1) lo (.int (Int32.ofNat L) :: st) shx X shm M z) : zq_J p e s m below meth c b G kc kn (pc) lo (.ref b :: st) shx X shm M z := by
  intro H locs ls hz hS hX hM hl
  exact va_slen JC.1.1 JC.1.2.1 JC.1.2.2.2.2.2.2.1 JC.1.2.2.2.2.2.2.2.1 (Nat.not_le.mpr JC.1.2.2.2.2.2.2.2.1) hS hd (K H locs ls hz hS hX hM hl)
theorem zj_ret (JC : zq_JC p s m meth c b L xs G) (hd : decode code pc = .ok (.ireturn, 1)) (h1 : kc ≤ 600000) (h2 : kn ≤ 7302249) : zq_J p e s m below meth c b G kc kn (pc) lo [.int 1] shx X shm M z := by
  intro H locs ls hz hS hX hM hl
  refine va_forget (fun q hq => hS.2.2 q hq) (W.widen h1 (Nat.le_trans h2 zj_sl) ?_)
  exact lw_ret JC.1.1 JC.1.2.1 JC.1.2.2.1 JC.1.2.2.2.2.2.2.2.2.1 hd
theorem zj_lo {l2 : List (Nat × Value)} (ks : List Nat) (h : lv_pick lo ks = l2) (K : zq_J p e s m below meth c b G kc kn (pc) l2 (st) shx X shm M z) : zq_J p e s m below meth c b G kc kn (pc) lo (st) shx X shm M z := by
  intro H locs ls hz hS hX hM hl
  exact K H locs ls hz hS hX hM (lv_sub hl ks h)

theorem zj_keep {shO sh1 : zq_H} {XO : zq_M} {H H1 : Heap} (hO : zq_P G shO XO H) (hz : H.size = z) (hd : zq_dis shO sh1) (hk : ∀ q : Nat, q < H.size → ¬ zq_A G sh1 z q → H1[q]? = H[q]?) : zq_P G shO XO H1 := by
  intro d x hx
  have h1 := hO d x hx
  refine h1.kept (hk _ h1.lt ?_)
  intro h
  rcases h with ⟨d2, y, hy, he⟩ | h
  · have h2 : d = d2 := zq_ad_inj he
    subst h2
    exact hd d x y hx hy
  · have h3 : zq_ad G d < H.size := h1.lt
    omega
theorem zj_pre (JC : zq_JC p s m meth c b L xs G) {args : List Value} {sh1 : zq_H} {X1 : zq_M} {H : Heap} {locs : List Loc} (hz : H.size = z) (hS : va_S (zq_Aw s) s.heap H locs) (hP : zq_P G sh1 X1 H) : ∀ U : State, U.heap = H → s.WarmedH U.vm → va_Pc args (zq_B G sh1 z X1) args.toArray U := by
  intro U hU hW
  refine ⟨rfl, by rw [hU]; exact hz, by rw [hU]; exact hP, va_K.moved hW.alike JC.2.2.1, ?_⟩
  rw [hU]
  refine zq_E.go hW (fun q h1 h2 => hS.2.1 q h1 h2) (fun q hq => ?_) JC.2.2.2
  rcases hq with ⟨d, x, hd, rfl⟩ | hq
  · show s.heap.size ≤ zq_ad G d
    unfold zq_ad
    rw [JC.2.1]
    omega
  · exact Nat.le_trans hS.1 (by rw [hz]; exact hq)
theorem zj_after {ρ1 : Type} (JC : zq_JC p s m meth c b L xs G) {lv1 : zq_L} {enc1 : ρ1 → Option Value × zq_W} {rest : List Value} {r1 : ρ1} {a : Array Value} {H : Heap} {locs : List Loc} {ls : Array Slot} {sh1 shO : zq_H} {XO : zq_M} {Q : State → Prop} (hz : H.size = z) (hS : va_S (zq_Aw s) s.heap H locs) (hO : zq_P G shO XO H) (hdis : zq_dis shO sh1)
    (hrun : va_Run p G.1 e room_1 s m #[Value.ref b] below meth c H locs kc kn lv1.2.1 lv1.2.2 (F0 m pc ls st) rest (zq_Q G (zq_A G sh1 z) (enc1 r1) a) (zq_A G sh1 z))
    (K : ∀ (H1 : Heap) (locs1 : List Loc), H1.size = (enc1 r1).2.2.1 → va_S (zq_Aw s) s.heap H1 locs1 → zq_P G (enc1 r1).2.1 (enc1 r1).2.2.2 H1 → zq_P G shO XO H1 → W p G.1 e room_1 s m #[Value.ref b] below meth c H1 locs1 (kc + lv1.2.1) (kn + lv1.2.2) Q (F0 m (pc + 3) ls ((enc1 r1).1.toList ++ rest))) : W p G.1 e room_1 s m #[Value.ref b] below meth c H locs kc kn Q (F0 m pc ls st) := by
  have hAA : ∀ q, zq_A G sh1 z q → zq_Aw s q := by
    intro q hq
    rcases hq with ⟨d, x, hd, rfl⟩ | hq
    · show s.heap.size ≤ zq_ad G d
      unfold zq_ad
      rw [JC.2.1]
      omega
    · exact Nat.le_trans hS.1 (by rw [hz]; exact hq)
  intro T hT X0
  obtain ⟨v, st₀, t, T', L', h0, X', hL, e1, e2, ⟨hv, hsz, hP1, hA1, hF1, hF2⟩, stp⟩ := hrun T hT X0
  cases hv
  rw [h0] at hF1 hF2
  obtain ⟨t2, a1, b1⟩ := K T'.heap (locs ++ L') (by rw [e1]; exact hsz) ⟨Nat.le_trans hS.1 (by rw [e1]; exact hF1), fun q h1 h2 => by rw [e1, hF2 q (Nat.lt_of_lt_of_le h1 hS.1) (fun y => h2 (hAA q y))]; exact hS.2.1 q h1 h2, fun q hq => by
      rcases List.mem_append.mp hq with h | h
      · exact hS.2.2 q h
      · exact hAA _ (hL q h)⟩ (by rw [e1]; exact hP1) (by rw [e1]; exact zj_keep hO hz hdis hF2) T' rfl X'
  exact ⟨t2, stp t2 a1, b1⟩
theorem zj_rm {lv1 : zq_L} {mL : Nat} (h : lv1.1 ≤ 1000) (hm : mL ≤ 40) : (zq_R lv1).frames + 1 ≤ room_1.frames ∧ 8 + (mL + 11) + (zq_R lv1).locals ≤ room_1.locals := by
  refine ⟨?_, ?_⟩
  · show lv1.1 + 1 ≤ 2048
    omega
  · show 8 + (mL + 11) + 60 * lv1.1 ≤ 84000
    omega

theorem zj_Vx {ρ1 : Type} {Y1 : zq_Y} {lv1 : zq_L} {enc1 : ρ1 → Option Value × zq_W} {o1 : Option ρ1} (JC : zq_JC p s m meth c b L xs G) {d ci n idx : Nat} {q : vw_C} {ks : List Nat} {rest : List Value} {r1 : ρ1} (As : List Value) (hd : decode code pc = .ok (.invokevirtual idx, 3)) (hV : zq_V G Y1 lv1 enc1 0 0 0 (lv_args 0 (.ref (zq_ad G d) :: As)) [] shx z X o1) (ho : o1 = some r1) (hcd : zq_cd Y1 n ∧ Cond.instanceMethod Y1.1 ∈ zq_T ∧ Cond.selects Y1.1.cls Y1.1 Y1.1 ∈ zq_T) (hlk : Cond.methodLink R_law idx Y1.1 ∈ zq_T) (hs : shx d = some (.inl (ci, ks))) (hci : vwCl[ci]? = some q) (hq : q.1 = Y1.1.cls) (hn : As.length = n) (hst : st = As.reverse ++ .ref (zq_ad G d) :: rest) (hcat : (rest.map fun v => v.category).sum ≤ 8) (hlen : (lg_sl (.ref (zq_ad G d) :: As)).length ≤ Y1.2.2.1) (hlv : lv1.1 ≤ 1000) (hf : kc + lv1.2.1 ≤ 600000 ∧ kn + lv1.2.2 ≤ 7302249) (hdis : zq_dis shm shx)
    (K : zq_J p e s m below meth c b G (kc + lv1.2.1) (kn + lv1.2.2) (pc + 3) lo ((enc1 r1).1.toList ++ rest) (enc1 r1).2.1 (enc1 r1).2.2.2 shm M (enc1 r1).2.2.1) : zq_J p e s m below meth c b G kc kn pc lo st shx X shm M z := by
  intro H locs ls hz hS hX hM hl
  obtain ⟨⟨k1, k2, k3, k4, k5⟩, hin, hse⟩ := hcd
  have htT : ∀ w ∈ zq_T, w.before #[Value.ref b] s = true := fun w hw => JC.1.2.2.2.2.2.1 w (List.mem_filter.mp hw).1
  have hG : GoodIn zq_T (wsV R_law idx Y1.1.cls Y1.1 (zq_ws Y1)) := by
    refine zq_good (fun w hw => ?_)
    rcases List.mem_append.mp hw with h | h
    · simp only [List.mem_cons, List.not_mem_nil, or_false] at h
      rcases h with rfl | rfl | rfl | rfl <;> assumption
    · rcases List.mem_cons.mp h with rfl | h
      · exact k1
      · exact h
  refine zj_after (r1 := r1) (enc1 := enc1) (lv1 := lv1) (sh1 := shx) (shO := shm) (XO := M) JC hz hS hM hdis (va_runV (As := As) (rest := rest) ⟨JC.1.1, JC.1.2.1, JC.1.2.2.2.1, JC.1.2.2.2.2.1, htT⟩ (zq_met hV ho k4 hlen) (cwV n htT hG rfl rfl rfl ⟨rfl, k3⟩ (zj_rm hlv k5)) ⟨zq_blind, ?_, zj_pre JC hz hS hX⟩ rfl hn hl.1 hst (lv_room hcat) hd ⟨hf.1, Nat.le_trans hf.2 zj_sl⟩) (fun H1 locs1 e1 e2 e3 e4 => K H1 locs1 ls e1 e2 e3 e4 hl)
  obtain ⟨cell, g1, g2, g3⟩ := va_recv JC.2.2.1 (zq_one hX hs) hci (q0 := 0) rfl
  exact ⟨cell, g1, g2, by rw [← hq]; exact g3⟩
theorem zj_Ix {Y1 : zq_Y} {lv1 : zq_L} {sh2 : zq_H} {z2 : Nat} {o1 : Option zq_M} (JC : zq_JC p s m meth c b L xs G) {d idx : Nat} {rest : List Value} {r1 : zq_M} (hd : decode code pc = .ok (.invokespecial idx, 3)) (hV : zq_V G Y1 lv1 (zq_ev sh2 z2) 0 0 0 (lv_args 0 [.ref (zq_ad G d)]) [] shx z X o1) (ho : o1 = some r1) (hcd : zq_cd Y1 0 ∧ Cond.instanceMethod Y1.1 ∈ zq_T) (hi : Y1.1.name = "<init>") (hre : Y1.2.2.2 = none) (hlk : Cond.methodLink R_law idx Y1.1 ∈ zq_T) (hst : st = .ref (zq_ad G d) :: rest) (hcat : (rest.map fun v => v.category).sum ≤ 8) (hlen : (lg_sl [.ref (zq_ad G d)]).length ≤ Y1.2.2.1) (hlv : lv1.1 ≤ 1000) (hf : kc + lv1.2.1 ≤ 600000 ∧ kn + lv1.2.2 ≤ 7302249) (hdis : zq_dis shm shx)
    (K : zq_J p e s m below meth c b G (kc + lv1.2.1) (kn + lv1.2.2) (pc + 3) lo rest sh2 r1 shm M z2) : zq_J p e s m below meth c b G kc kn pc lo st shx X shm M z := by
  intro H locs ls hz hS hX hM hl
  obtain ⟨⟨k1, k2, k3, k4, k5⟩, hin⟩ := hcd
  have htT : ∀ w ∈ zq_T, w.before #[Value.ref b] s = true := fun w hw => JC.1.2.2.2.2.2.1 w (List.mem_filter.mp hw).1
  have hG : GoodIn zq_T (zq_ws Y1) := zq_good (fun w hw => by
    rcases List.mem_cons.mp hw with rfl | h
    · exact k1
    · exact h)
  exact zj_after (r1 := r1) (enc1 := zq_ev sh2 z2) (lv1 := lv1) (sh1 := shx) (shO := shm) (XO := M) JC hz hS hM hdis (va_runI (As := []) (rest := rest) ⟨JC.1.1, JC.1.2.1, JC.1.2.2.2.1, JC.1.2.2.2.2.1, htT⟩ (zq_met hV ho k4 hlen) (cwI 0 htT hG (by unfold zq_ws; rw [hre]) rfl rfl (htT _ k2) (htT _ hlk) (htT _ hin) hi k3 (zj_rm hlv k5)) ⟨zq_blind, zj_pre JC hz hS hX⟩ rfl rfl hl.1 hst (lv_room hcat) hd ⟨hf.1, Nat.le_trans hf.2 zj_sl⟩) (fun H1 locs1 e1 e2 e3 e4 => K H1 locs1 ls e1 e2 e3 e4 hl)
theorem zj_Nx (JC : zq_JC p s m meth c b L xs G) {d ci idx : Nat} {q : vw_C} {ks : List Nat} (hd : decode code pc = .ok (.new idx, 3)) (hq : vwCl[ci]? = some q) (hcl : Cond.classLink R_law idx q.1 ∈ zq_T) (hin : Cond.instantiable q.1 q.2.2 ∈ zq_T) (hini : Cond.initialized q.1 ∈ zq_T) (hdf : ∀ k, k < q.2.2 → defaultValue (zq_tyf ci k) = vp_V (zq_fs G (fun _ => 0) (fun _ => 0) (fun _ => none) ks) k) (hc : zq_ad G d = z) (h1 : kc + 1 ≤ 600000) (h2 : kn + q.2.2 ≤ 7302249) (hdis : shm d = none)
    (K : zq_J p e s m below meth c b G (kc + 1) (kn + q.2.2) (pc + 3) lo (.ref (zq_ad G d) :: st) (zq_us shx d (.inl (ci, ks))) (zq_z X d) shm M (z + 1)) : zq_J p e s m below meth c b G kc kn pc lo st shx X shm M z := by
  intro H locs ls hz hS hX hM hl
  have htT : ∀ w ∈ zq_T, w.before #[Value.ref b] s = true := fun w hw => JC.1.2.2.2.2.2.1 w (List.mem_filter.mp hw).1
  have hKn := JC.2.2.1.1 ci _ hq
  refine W.newcK JC.1.1 JC.1.2.1 JC.1.2.2.2.2.1 (htT _ hcl) (htT _ hin) (htT _ hini) rfl hd h1 (Nat.le_trans h2 zj_sl) hKn.2.1 rfl fun H1 kC hkC e1 z1 o1 => ?_
  have hh : H.size = zq_ad G d := hz.trans hc.symm
  rw [show (Value.ref H.size) = Value.ref (zq_ad G d) by rw [hh]]
  have hnew : zq_P G (zq_us shx d (.inl (ci, ks))) (zq_z X d) H1 := by
    refine zq_P.upd (c := d) (s1 := .inl (ci, ks)) hX ?_ (if_pos rfl) (fun k hk => if_neg hk) (fun k hk => zq_z_ne hk) (fun k x hk hx => o1 _ (hX k x hx).lt)
    rw [hh] at e1
    refine ⟨_, hq, (u_born (zq_tyf ci) htT (zq_hin ci q hq) hKn hkC e1 (zq_tyo ci q hq).1).to (fun k hk => ?_)⟩
    have f1 : (zq_z X d).1 d = fun _ => 0 := by funext j; simp [zq_z]
    have f2 : (zq_z X d).2.1 d = fun _ => 0 := by funext j; simp [zq_z]
    have f3 : (zq_z X d).2.2 d = fun _ => none := by funext j; simp [zq_z]
    rw [hdf k hk, f1, f2, f3]
  have hold : zq_P G shm M H1 := fun k x hx => (hM k x hx).kept (o1 _ (hM k x hx).lt)
  exact K H1 locs ls (by rw [z1, hz]) ⟨Nat.le_trans hS.1 (by omega), fun x g1 g2 => (o1 x (Nat.lt_of_lt_of_le g1 hS.1)).trans (hS.2.1 x g1 g2), hS.2.2⟩ hnew hold hl
theorem zj_Vm {ρ1 : Type} {Y1 : zq_Y} {lv1 : zq_L} {enc1 : ρ1 → Option Value × zq_W} {o1 : Option ρ1} (JC : zq_JC p s m meth c b L xs G) {d ci n idx : Nat} {q : vw_C} {ks : List Nat} {rest : List Value} {r1 : ρ1} (As : List Value) (hd : decode code pc = .ok (.invokevirtual idx, 3)) (hV : zq_V G Y1 lv1 enc1 0 0 0 (lv_args 0 (.ref (zq_ad G d) :: As)) [] shm z M o1) (ho : o1 = some r1) (hcd : zq_cd Y1 n ∧ Cond.instanceMethod Y1.1 ∈ zq_T ∧ Cond.selects Y1.1.cls Y1.1 Y1.1 ∈ zq_T) (hlk : Cond.methodLink R_law idx Y1.1 ∈ zq_T) (hs : shm d = some (.inl (ci, ks))) (hci : vwCl[ci]? = some q) (hq : q.1 = Y1.1.cls) (hn : As.length = n) (hst : st = As.reverse ++ .ref (zq_ad G d) :: rest) (hcat : (rest.map fun v => v.category).sum ≤ 8) (hlen : (lg_sl (.ref (zq_ad G d) :: As)).length ≤ Y1.2.2.1) (hlv : lv1.1 ≤ 1000) (hf : kc + lv1.2.1 ≤ 600000 ∧ kn + lv1.2.2 ≤ 7302249) (hdis : zq_dis shx shm)
    (K : zq_J p e s m below meth c b G (kc + lv1.2.1) (kn + lv1.2.2) (pc + 3) lo ((enc1 r1).1.toList ++ rest) shx X (enc1 r1).2.1 (enc1 r1).2.2.2 (enc1 r1).2.2.1) : zq_J p e s m below meth c b G kc kn pc lo st shx X shm M z := by
  intro H locs ls hz hS hX hM hl
  obtain ⟨⟨k1, k2, k3, k4, k5⟩, hin, hse⟩ := hcd
  have htT : ∀ w ∈ zq_T, w.before #[Value.ref b] s = true := fun w hw => JC.1.2.2.2.2.2.1 w (List.mem_filter.mp hw).1
  have hG : GoodIn zq_T (wsV R_law idx Y1.1.cls Y1.1 (zq_ws Y1)) := by
    refine zq_good (fun w hw => ?_)
    rcases List.mem_append.mp hw with h | h
    · simp only [List.mem_cons, List.not_mem_nil, or_false] at h
      rcases h with rfl | rfl | rfl | rfl <;> assumption
    · rcases List.mem_cons.mp h with rfl | h
      · exact k1
      · exact h
  refine zj_after (r1 := r1) (enc1 := enc1) (lv1 := lv1) (sh1 := shm) (shO := shx) (XO := X) JC hz hS hX hdis (va_runV (As := As) (rest := rest) ⟨JC.1.1, JC.1.2.1, JC.1.2.2.2.1, JC.1.2.2.2.2.1, htT⟩ (zq_met hV ho k4 hlen) (cwV n htT hG rfl rfl rfl ⟨rfl, k3⟩ (zj_rm hlv k5)) ⟨zq_blind, ?_, zj_pre JC hz hS hM⟩ rfl hn hl.1 hst (lv_room hcat) hd ⟨hf.1, Nat.le_trans hf.2 zj_sl⟩) (fun H1 locs1 e1 e2 e3 e4 => K H1 locs1 ls e1 e2 e4 e3 hl)
  obtain ⟨cell, g1, g2, g3⟩ := va_recv JC.2.2.1 (zq_one hM hs) hci (q0 := 0) rfl
  exact ⟨cell, g1, g2, by rw [← hq]; exact g3⟩
theorem zj_Im {Y1 : zq_Y} {lv1 : zq_L} {sh2 : zq_H} {z2 : Nat} {o1 : Option zq_M} (JC : zq_JC p s m meth c b L xs G) {d idx : Nat} {rest : List Value} {r1 : zq_M} (hd : decode code pc = .ok (.invokespecial idx, 3)) (hV : zq_V G Y1 lv1 (zq_ev sh2 z2) 0 0 0 (lv_args 0 [.ref (zq_ad G d)]) [] shm z M o1) (ho : o1 = some r1) (hcd : zq_cd Y1 0 ∧ Cond.instanceMethod Y1.1 ∈ zq_T) (hi : Y1.1.name = "<init>") (hre : Y1.2.2.2 = none) (hlk : Cond.methodLink R_law idx Y1.1 ∈ zq_T) (hst : st = .ref (zq_ad G d) :: rest) (hcat : (rest.map fun v => v.category).sum ≤ 8) (hlen : (lg_sl [.ref (zq_ad G d)]).length ≤ Y1.2.2.1) (hlv : lv1.1 ≤ 1000) (hf : kc + lv1.2.1 ≤ 600000 ∧ kn + lv1.2.2 ≤ 7302249) (hdis : zq_dis shx shm)
    (K : zq_J p e s m below meth c b G (kc + lv1.2.1) (kn + lv1.2.2) (pc + 3) lo rest shx X sh2 r1 z2) : zq_J p e s m below meth c b G kc kn pc lo st shx X shm M z := by
  intro H locs ls hz hS hX hM hl
  obtain ⟨⟨k1, k2, k3, k4, k5⟩, hin⟩ := hcd
  have htT : ∀ w ∈ zq_T, w.before #[Value.ref b] s = true := fun w hw => JC.1.2.2.2.2.2.1 w (List.mem_filter.mp hw).1
  have hG : GoodIn zq_T (zq_ws Y1) := zq_good (fun w hw => by
    rcases List.mem_cons.mp hw with rfl | h
    · exact k1
    · exact h)
  exact zj_after (r1 := r1) (enc1 := zq_ev sh2 z2) (lv1 := lv1) (sh1 := shm) (shO := shx) (XO := X) JC hz hS hX hdis (va_runI (As := []) (rest := rest) ⟨JC.1.1, JC.1.2.1, JC.1.2.2.2.1, JC.1.2.2.2.2.1, htT⟩ (zq_met hV ho k4 hlen) (cwI 0 htT hG (by unfold zq_ws; rw [hre]) rfl rfl (htT _ k2) (htT _ hlk) (htT _ hin) hi k3 (zj_rm hlv k5)) ⟨zq_blind, zj_pre JC hz hS hM⟩ rfl rfl hl.1 hst (lv_room hcat) hd ⟨hf.1, Nat.le_trans hf.2 zj_sl⟩) (fun H1 locs1 e1 e2 e3 e4 => K H1 locs1 ls e1 e2 e4 e3 hl)
theorem zj_Nm (JC : zq_JC p s m meth c b L xs G) {d ci idx : Nat} {q : vw_C} {ks : List Nat} (hd : decode code pc = .ok (.new idx, 3)) (hq : vwCl[ci]? = some q) (hcl : Cond.classLink R_law idx q.1 ∈ zq_T) (hin : Cond.instantiable q.1 q.2.2 ∈ zq_T) (hini : Cond.initialized q.1 ∈ zq_T) (hdf : ∀ k, k < q.2.2 → defaultValue (zq_tyf ci k) = vp_V (zq_fs G (fun _ => 0) (fun _ => 0) (fun _ => none) ks) k) (hc : zq_ad G d = z) (h1 : kc + 1 ≤ 600000) (h2 : kn + q.2.2 ≤ 7302249) (hdis : shx d = none)
    (K : zq_J p e s m below meth c b G (kc + 1) (kn + q.2.2) (pc + 3) lo (.ref (zq_ad G d) :: st) shx X (zq_us shm d (.inl (ci, ks))) (zq_z M d) (z + 1)) : zq_J p e s m below meth c b G kc kn pc lo st shx X shm M z := by
  intro H locs ls hz hS hX hM hl
  have htT : ∀ w ∈ zq_T, w.before #[Value.ref b] s = true := fun w hw => JC.1.2.2.2.2.2.1 w (List.mem_filter.mp hw).1
  have hKn := JC.2.2.1.1 ci _ hq
  refine W.newcK JC.1.1 JC.1.2.1 JC.1.2.2.2.2.1 (htT _ hcl) (htT _ hin) (htT _ hini) rfl hd h1 (Nat.le_trans h2 zj_sl) hKn.2.1 rfl fun H1 kC hkC e1 z1 o1 => ?_
  have hh : H.size = zq_ad G d := hz.trans hc.symm
  rw [show (Value.ref H.size) = Value.ref (zq_ad G d) by rw [hh]]
  have hnew : zq_P G (zq_us shm d (.inl (ci, ks))) (zq_z M d) H1 := by
    refine zq_P.upd (c := d) (s1 := .inl (ci, ks)) hM ?_ (if_pos rfl) (fun k hk => if_neg hk) (fun k hk => zq_z_ne hk) (fun k x hk hx => o1 _ (hM k x hx).lt)
    rw [hh] at e1
    refine ⟨_, hq, (u_born (zq_tyf ci) htT (zq_hin ci q hq) hKn hkC e1 (zq_tyo ci q hq).1).to (fun k hk => ?_)⟩
    have f1 : (zq_z M d).1 d = fun _ => 0 := by funext j; simp [zq_z]
    have f2 : (zq_z M d).2.1 d = fun _ => 0 := by funext j; simp [zq_z]
    have f3 : (zq_z M d).2.2 d = fun _ => none := by funext j; simp [zq_z]
    rw [hdf k hk, f1, f2, f3]
  have hold : zq_P G shx X H1 := fun k x hx => (hX k x hx).kept (o1 _ (hX k x hx).lt)
  exact K H1 locs ls (by rw [z1, hz]) ⟨Nat.le_trans hS.1 (by omega), fun x g1 g2 => (o1 x (Nat.lt_of_lt_of_le g1 hS.1)).trans (hS.2.1 x g1 g2), hS.2.2⟩ hold hnew hl
end
