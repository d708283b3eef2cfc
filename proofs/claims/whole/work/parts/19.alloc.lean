
def zq_ev (sh : zq_H) (z : Nat) (X : zq_M) : Option Value × zq_W := (none, sh, z, X)
section
variable {ρ : Type} {G : zq_G} {Y Y1 : zq_Y} {lv lv1 : zq_L} {l1 : Nat} {enc : ρ → Option Value × zq_W} {kc kn pc : Nat} {lo : List (Nat × Value)} {st : List Value} {sh : zq_H} {z : Nat} {X : zq_M} {o : Option ρ}
theorem zq_born {p : Program} {e : Env} {s : State} {m : MethodId} {args : Array Value} {below : List Frame} {meth : Method} {c' : Code} {A : Nat → Prop} {H H1 : Heap} {locs : List Loc} {ls : Array Slot} {r : ρ} {c kc1 kn1 pc1 : Nat} {st1 : List Value} {s1 : zq_S} (hr : o = some r) (C : zq_C G Y p s m args meth c' A) (hz : H.size = z) (hS : va_S A s.heap H locs) (hA : ∀ c s, sh c = some s → A (zq_ad G c)) (hP : zq_P G sh X H) (hl : lv_has ls Y.2.2.1 lo) (hc : zq_ad G c = z)
    (hat : va_at G.2.1 vwCl (zq_ad G c, zq_cell G (zq_z X c) c s1) H1) (z1 : H1.size = H.size + 1) (o1 : ∀ q, q < H.size → H1[q]? = H[q]?) (K : zq_V G Y lv enc kc1 kn1 pc1 lo st1 (zq_us sh c s1) (z + 1) (zq_z X c) o) : W p G.1 e (zq_R lv) s m args below meth c' H1 locs kc1 kn1 (MQ below (zq_Q G A (enc r)) args s lv.2.1 lv.2.2 A) (F0 m pc1 ls st1) := by
  refine K r hr p e s m args below meth c' A H1 locs ls C (by rw [z1, hz]) ⟨Nat.le_trans hS.1 (by omega), fun x h1 h2 => (o1 x (Nat.lt_of_lt_of_le h1 hS.1)).trans (hS.2.1 x h1 h2), hS.2.2⟩ ?_ ?_ hl
  · intro d s' hd'
    by_cases hdc : d = c
    · subst hdc
      exact C.2.2.2.2.2.2.2.2.2.2 _ (by rw [hc, ← hz]; exact hS.1)
    · rw [show zq_us sh c s1 d = sh d from if_neg hdc] at hd'
      exact hA d _ hd'
  · refine hP.upd (c := c) (s1 := s1) hat (if_pos rfl) (fun d hd' => if_neg hd') (fun d hd' => zq_z_ne hd') (fun d s' hd' hs' => o1 _ ?_)
    exact (hP d s' hs').lt
theorem zr_new {c ci idx : Nat} {q : vw_C} {ks : List Nat} {f : zq_M → Option ρ} (hd : decode Y.2.1 pc = .ok (.new idx, 3)) (hq : vwCl[ci]? = some q) (hcl : Cond.classLink Y.1.cls idx q.1 ∈ zq_T) (hin : Cond.instantiable q.1 q.2.2 ∈ zq_T) (hini : Cond.initialized q.1 ∈ zq_T) (hdf : ∀ k, k < q.2.2 → defaultValue (zq_tyf ci k) = vp_V (zq_fs G (fun _ => 0) (fun _ => 0) (fun _ => none) ks) k) (hc : zq_ad G c = z) (h1 : kc + 1 ≤ lv.2.1) (h2 : kn + q.2.2 ≤ lv.2.2) (K : ∀ X1, zq_V G Y lv enc (kc + 1) (kn + q.2.2) (pc + 3) lo (.ref (zq_ad G c) :: st) (zq_us sh c (.inl (ci, ks))) (z + 1) X1 (f X1)) : zq_V G Y lv enc kc kn pc lo st sh z X (zq_b (zq_z X c) f) := by
  intro r hr p e s m args below meth c' A H locs ls C hz hS hA hP hl
  have hts := C.2.2.2.2.2.1
  have hKn := C.2.2.2.2.2.2.2.2.1.1 ci _ hq
  refine W.newcK C.1 C.2.1 C.2.2.2.2.1 (hts _ hcl) (hts _ hin) (hts _ hini) rfl hd h1 h2 hKn.2.1 rfl fun H1 kC hkC e1 z1 o1 => ?_
  have hh : H.size = zq_ad G c := hz.trans hc.symm
  rw [show (Value.ref H.size) = Value.ref (zq_ad G c) by rw [hh]]
  refine zq_born hr C hz hS hA hP hl hc ?_ z1 o1 (K (zq_z X c))
  rw [hh] at e1
  refine ⟨_, hq, (u_born (zq_tyf ci) hts (zq_hin ci q hq) hKn hkC e1 (zq_tyo ci q hq).1).to (fun k hk => ?_)⟩
  rw [hdf k hk]
  congr 1
  show zq_fs G _ _ _ ks = zq_fs G ((zq_z X c).1 c) ((zq_z X c).2.1 c) ((zq_z X c).2.2 c) ks
  congr 1 <;> (funext j; simp [zq_z])
theorem zr_newa {c kd N1 : Nat} {n : Int32} {atype : ArrayType} {f : zq_M → Option ρ} (hd : decode Y.2.1 pc = .ok (.newarray atype, 2)) (hw : Cond.arrayClass (newarray.typeOf atype) ∈ zq_T) (ht : newarray.typeOf atype = zq_tk kd) (hkd : kd < 3) (hn : ¬ n < 0) (hN : n.toNatClampNeg = N1) (hb : N1 * 8 ≤ 536870912) (hc : zq_ad G c = z) (h1 : kc + 1 ≤ lv.2.1) (h2 : kn + N1 ≤ lv.2.2) (K : ∀ X1, zq_V G Y lv enc (kc + 1) (kn + N1) (pc + 2) lo (.ref (zq_ad G c) :: st) (zq_us sh c (.inr (kd, N1))) (z + 1) X1 (f X1)) : zq_V G Y lv enc kc kn pc lo (.int n :: st) sh z X (zq_b (zq_z X c) f) := by
  intro r hr p e s m args below meth c' A H locs ls C hz hS hA hP hl
  have hts := C.2.2.2.2.2.1
  have hK := C.2.2.2.2.2.2.2.2.1
  have hbytes : N1 * componentBytes (newarray.typeOf atype) ≤ 536870912 := by
    have h8 : componentBytes (newarray.typeOf atype) ≤ 8 := by cases atype <;> decide
    exact Nat.le_trans (Nat.mul_le_mul_left _ h8) hb
  refine va_newaK C.1 C.2.1 (hts _ hw) rfl hd rfl hn hN hbytes h1 h2 rfl fun H1 cA e1 z1 o1 hAr hNm => ?_
  have hh : H.size = zq_ad G c := hz.trans hc.symm
  rw [show (Value.ref H.size) = Value.ref (zq_ad G c) by rw [hh]]
  refine zq_born hr C hz hS hA hP hl hc ?_ z1 o1 (K (zq_z X c))
  rw [hh] at e1
  rw [ht] at e1 hNm
  have hcA : cA = zq_aC G kd := by
    match kd, hkd with
    | 0, _ => exact Option.some.inj (hNm.symm.trans (hK.2 0 _ rfl).2)
    | 1, _ => exact Option.some.inj (hNm.symm.trans (hK.2 1 _ rfl).2)
    | 2, _ => exact Option.some.inj (hNm.symm.trans (hK.2 2 _ rfl).2)
  subst hcA
  show H1[zq_ad G c]? = some (vp_cell (zq_aC G kd) (zq_ar G ((zq_z X c).1 c) ((zq_z X c).2.1 c) ((zq_z X c).2.2 c) kd N1))
  rw [e1]
  match kd, hkd with
  | 0, _ =>
    show _ = some (arrV (zq_aC G 0) N1 (fun j => .int ((zq_z X c).1 c j)))
    congr 2
    funext j
    simp [zq_z, zq_tk, defaultValue]
  | 1, _ =>
    show _ = some (arrV (zq_aC G 1) N1 (fun j => .int ((zq_z X c).1 c j)))
    congr 2
    funext j
    simp [zq_z, zq_tk, defaultValue]
  | 2, _ =>
    show _ = some (arrV (zq_aC G 2) N1 (fun j => .long ((zq_z X c).2.1 c j)))
    congr 2
    funext j
    simp [zq_z, zq_tk, defaultValue]
theorem zr_newq {c kd N1 idx : Nat} {n : Int32} {C0 : String} {f : zq_M → Option ρ} (hd : decode Y.2.1 pc = .ok (.anewarray idx, 3)) (hcl : Cond.classLink Y.1.cls idx C0 ∈ zq_T) (hk : kd = 3 ∧ C0 = "MiddleSpeaks$House" ∨ kd = 4 ∧ C0 = "MiddleSpeaks$Tape") (hn : ¬ n < 0) (hN : n.toNatClampNeg = N1) (hb : N1 * 4 ≤ 536870912) (hc : zq_ad G c = z) (h1 : kc + 1 ≤ lv.2.1) (h2 : kn + N1 ≤ lv.2.2) (K : ∀ X1, zq_V G Y lv enc (kc + 1) (kn + N1) (pc + 3) lo (.ref (zq_ad G c) :: st) (zq_us sh c (.inr (kd, N1))) (z + 1) X1 (f X1)) : zq_V G Y lv enc kc kn pc lo (.int n :: st) sh z X (zq_b (zq_z X c) f) := by
  intro r hr p e s m args below meth c' A H locs ls C hz hS hA hP hl
  have hts := C.2.2.2.2.2.1
  have hK := C.2.2.2.2.2.2.2.2.1
  obtain ⟨-, -, hA1, hA2, -⟩ := C.2.2.2.2.2.2.2.2.2.1
  have hover : va_AO C0 s := by
    rcases hk with ⟨-, rfl⟩ | ⟨-, rfl⟩
    · exact hA1
    · exact hA2
  subst hN
  refine W.anew C.1 C.2.1 C.2.2.2.2.1 (hts _ hcl) (va_AO.use hover) rfl hd rfl hn hb h1 h2 fun cA kA comp f1 f2 f3 f4 => ?_
  have hh : H.size = zq_ad G c := hz.trans hc.symm
  rw [show (Value.ref H.size) = Value.ref (zq_ad G c) by rw [hh]]
  generalize hH1 : H.push ({ cls := cA, slots := Array.replicate n.toNatClampNeg .null, vm := .none } : Cell) = H1
  have z1 : H1.size = H.size + 1 := by rw [← hH1, Array.size_push]
  have e1 : H1[H.size]? = some (arrV cA n.toNatClampNeg (fun _ => .null)) := by rw [← hH1, Array.getElem?_push_size, ← arrV_new]
  have o1 : ∀ q : Nat, q < H.size → H1[q]? = H[q]? := fun q hq => by rw [← hH1, Array.getElem?_push, if_neg (Nat.ne_of_lt hq)]
  refine zq_born hr C hz hS hA hP hl hc ?_ z1 o1 (K (zq_z X c))
  rw [hh] at e1
  have hcA : cA = zq_aC G kd := by
    rcases hk with ⟨rfl, rfl⟩ | ⟨rfl, rfl⟩
    · obtain ⟨kB, comp2, g1, g2, g3, g4⟩ := (hK.2 3 _ rfl).2
      exact Option.some.inj (f1.symm.trans g4)
    · obtain ⟨kB, comp2, g1, g2, g3, g4⟩ := (hK.2 4 _ rfl).2
      exact Option.some.inj (f1.symm.trans g4)
  subst hcA
  show H1[zq_ad G c]? = some (vp_cell (zq_aC G kd) (zq_ar G ((zq_z X c).1 c) ((zq_z X c).2.1 c) ((zq_z X c).2.2 c) kd n.toNatClampNeg))
  rw [e1]
  rcases hk with ⟨rfl, -⟩ | ⟨rfl, -⟩
  · show _ = some (arrV (zq_aC G 3) n.toNatClampNeg (fun j => va_rf (((zq_z X c).2.2 c j).map (zq_ad G))))
    congr 2
    funext j
    simp [zq_z, va_rf]
  · show _ = some (arrV (zq_aC G 4) n.toNatClampNeg (fun j => va_rf (((zq_z X c).2.2 c j).map (zq_ad G))))
    congr 2
    funext j
    simp [zq_z, va_rf]
theorem zr_aast {a n kd v ci : Nat} {i : Int32} {q : vw_C} {ks : List Nat} {f : zq_M → Option ρ} (hd : decode Y.2.1 pc = .ok (.aastore, 1)) (ha : sh a = some (.inr (kd, n))) (hk3 : ∀ f1 f2 f3, zq_ar G f1 f2 f3 kd n = (n, .inr (.inr (.inr (.inr (fun j => (f3 j).map (zq_ad G))))))) (hq : vwCl[ci]? = some q) (hk : (zq_ty G)[kd]? = some (zq_aC G kd, .object q.1)) (hv : sh v = some (.inl (ci, ks))) (K : ∀ X1, zq_V G Y lv enc kc kn (pc + 1) lo st sh z X1 (f X1)) : zq_V G Y lv enc kc kn pc lo (.ref (zq_ad G v) :: .int i :: .ref (zq_ad G a) :: st) sh z X (zq_ck i n (zq_b (zq_u3 X a (zq_ix i) (some v)) f)) := by
  intro r hr p e s m args below meth c A H locs ls C hz hS hA hP hl
  obtain ⟨hi, hr⟩ := zq_ck_some hr
  have hK := C.2.2.2.2.2.2.2.2.1
  have hlt : i.toNatClampNeg < n := Nat.not_le.mp fun q => hi (Or.inr q)
  have h0 : ¬ i < 0 := fun q => hi (Or.inl q)
  have h1 := hP a _ ha
  have hcell : H[zq_ad G a]? = some (arrV (zq_aC G kd) n (fun j => va_rf ((X.2.2 a j).map (zq_ad G)))) := by
    have h2 : H[zq_ad G a]? = some (vp_cell (zq_aC G kd) (zq_ar G (X.1 a) (X.2.1 a) (X.2.2 a) kd n)) := h1
    rw [hk3] at h2
    exact h2
  obtain ⟨r', hr', cellV, g1, g2, g3, -⟩ := hP v _ hv
  have hcls := (hK.1 ci q hq).2
  obtain ⟨kA, comp, k1, k2, k3, -⟩ := (hK.2 kd _ hk).2
  have hcomp : comp = G.2.1.1 ci := Option.some.inj (k3.symm.trans hcls.1)
  subst hcomp
  obtain ⟨kC, hkC, -⟩ := hcls.2
  refine W.aast C.1 C.2.1 hcell (fun q h => by cases h) (fun h => by cases h) k1 k2 rfl hkC ⟨h0, by rw [arrV_size]; exact hlt⟩ g1 (fun q h => by rw [g3] at h; cases h) (by rw [g2]; exact hkC) (by rw [g2]; exact va_assign hcls) rfl rfl hd fun H1 e1 e2 e3 => ?_
  refine zq_arW hr ha C hz hS hA hP hl (K (zq_u3 X a (zq_ix i) (some v))) (fun d hd' => zq_u3_ne hd') ?_ e2 e3
  rw [e1, hk3]
  show some ((arrV (zq_aC G kd) n (fun j => va_rf ((X.2.2 a j).map (zq_ad G)))).setSlot _ _) = some (arrV (zq_aC G kd) n (fun j => va_rf ((zq_up X.2.2 a (zq_ix i) (some v) a j).map (zq_ad G))))
  rw [arrV_store]
  congr 2
  funext j
  by_cases hj : j = i.toNatClampNeg
  · subst hj
    simp [updV, zq_up, zq_ix, va_rf]
  · simp [updV, zq_up, zq_ix, hj]
end
