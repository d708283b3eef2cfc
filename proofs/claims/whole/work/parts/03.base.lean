
abbrev zq_M : Type := (Nat → Nat → Int32) × (Nat → Nat → Int64) × (Nat → Nat → Option Nat)
abbrev zq_S : Type := (Nat × List Nat) ⊕ (Nat × Nat)
abbrev zq_H : Type := Nat → Option zq_S
abbrev zq_W : Type := zq_H × Nat × zq_M
abbrev zq_G : Type := Launch × va_G × Nat × (Nat → ClassId) × Nat × Nat × (Nat → Nat) × (Nat → Nat)
abbrev zq_Y : Type := MethodName × ByteArray × Nat × Option FieldType
abbrev zq_L : Type := Nat × Nat × Nat
def zq_prm (c : Nat) : Nat := if c < 69 then c else if c < 111 then c + 30 else if c < 141 then c - 42 else c
def zq_ad (G : zq_G) (c : Nat) : Nat := G.2.2.1 + zq_prm c
def zq_aC (G : zq_G) (k : Nat) : ClassId := G.2.2.2.1 k
def zq_up {α : Type} (f : Nat → Nat → α) (c k : Nat) (v : α) : Nat → Nat → α := fun c' k' => if c' = c ∧ k' = k then v else f c' k'
def zq_u1 (X : zq_M) (c k : Nat) (v : Int32) : zq_M := (zq_up X.1 c k v, X.2.1, X.2.2)
def zq_u2 (X : zq_M) (c k : Nat) (v : Int64) : zq_M := (X.1, zq_up X.2.1 c k v, X.2.2)
def zq_u3 (X : zq_M) (c k : Nat) (v : Option Nat) : zq_M := (X.1, X.2.1, zq_up X.2.2 c k v)
def zq_z (X : zq_M) (c : Nat) : zq_M := (fun c' k => if c' = c then 0 else X.1 c' k, fun c' k => if c' = c then 0 else X.2.1 c' k, fun c' k => if c' = c then none else X.2.2 c' k)
def zq_us (sh : zq_H) (c : Nat) (s : zq_S) : zq_H := fun c' => if c' = c then some s else sh c'
def zq_fv (G : zq_G) (f1 : Nat → Int32) (f2 : Nat → Int64) (f3 : Nat → Option Nat) (k kd : Nat) : Value := match kd with
  | 0 => .int (f1 k)
  | 1 => .long (f2 k)
  | 2 => va_rf ((f3 k).map (zq_ad G))
  | 3 => .null
  | j + 4 => .ref (zq_ad G j)
def zq_fs (G : zq_G) (f1 : Nat → Int32) (f2 : Nat → Int64) (f3 : Nat → Option Nat) (ks : List Nat) : List Value := ks.mapIdx (fun k kd => zq_fv G f1 f2 f3 k kd)
def zq_ar (G : zq_G) (f1 : Nat → Int32) (f2 : Nat → Int64) (f3 : Nat → Option Nat) (kd n : Nat) : vp_A := match kd with
  | 0 => (n, .inl f1)
  | 1 => (n, .inl f1)
  | 2 => (n, .inr (.inl f2))
  | _ => (n, .inr (.inr (.inr (.inr (fun j => (f3 j).map (zq_ad G))))))
def zq_cel (G : zq_G) (f1 : Nat → Int32) (f2 : Nat → Int64) (f3 : Nat → Option Nat) (s : zq_S) : va_E := match s with
  | .inl (ci, ks) => .inr (ci, zq_fs G f1 f2 f3 ks)
  | .inr (kd, n) => .inl (zq_aC G kd, zq_ar G f1 f2 f3 kd n)
def zq_cell (G : zq_G) (X : zq_M) (c : Nat) (s : zq_S) : va_E := zq_cel G (X.1 c) (X.2.1 c) (X.2.2 c) s
def zq_P (G : zq_G) (sh : zq_H) (X : zq_M) (H : Heap) : Prop := ∀ (c : Nat) (s : zq_S), sh c = some s → va_at G.2.1 vwCl (zq_ad G c, zq_cell G X c s) H
def zq_ty (G : zq_G) : List (ClassId × FieldType) := [(zq_aC G 0, .int), (zq_aC G 1, .boolean), (zq_aC G 2, .long), (zq_aC G 3, .object "MiddleSpeaks$House"), (zq_aC G 4, .object "MiddleSpeaks$Tape")]
def zq_T : List Cond := lw_tbl.filter goodWord
theorem zq_mem {w : Cond} (i : Nat) (h : lw_tbl[i]? = some w) (hg : goodWord w = true) : w ∈ zq_T := List.mem_filter.mpr ⟨List.mem_of_getElem? h, hg⟩
theorem zq_m0 {w : Cond} (i : Nat) (h : (k2_sels lw_privs)[i]? = some w) (hg : goodWord w = true) : w ∈ zq_T := List.mem_filter.mpr ⟨List.mem_append_left _ (List.mem_of_getElem? h), hg⟩
theorem zq_m1 {w : Cond} (i : Nat) (h : tables_1_1[i]? = some w) (hg : goodWord w = true) : w ∈ zq_T := List.mem_filter.mpr ⟨List.mem_append_right _ (List.mem_append_left _ (List.mem_of_getElem? h)), hg⟩
theorem zq_m2 {w : Cond} (i : Nat) (h : tables_1_2[i]? = some w) (hg : goodWord w = true) : w ∈ zq_T := List.mem_filter.mpr ⟨List.mem_append_right _ (List.mem_append_right _ (List.mem_append_left _ (List.mem_of_getElem? h))), hg⟩
theorem zq_m3 {w : Cond} (i : Nat) (h : tables_1_3[i]? = some w) (hg : goodWord w = true) : w ∈ zq_T := List.mem_filter.mpr ⟨List.mem_append_right _ (List.mem_append_right _ (List.mem_append_right _ (List.mem_append_left _ (List.mem_of_getElem? h)))), hg⟩
theorem zq_m4 {w : Cond} (i : Nat) (h : tables_1_4[i]? = some w) (hg : goodWord w = true) : w ∈ zq_T := List.mem_filter.mpr ⟨List.mem_append_right _ (List.mem_append_right _ (List.mem_append_right _ (List.mem_append_right _ (List.mem_append_left _ (List.mem_of_getElem? h))))), hg⟩
theorem zq_m5 {w : Cond} (i : Nat) (h : tables_1_5[i]? = some w) (hg : goodWord w = true) : w ∈ zq_T := List.mem_filter.mpr ⟨List.mem_append_right _ (List.mem_append_right _ (List.mem_append_right _ (List.mem_append_right _ (List.mem_append_right _ (List.mem_append_left _ (List.mem_of_getElem? h)))))), hg⟩
theorem zq_m6 {w : Cond} (i : Nat) (h : tables_1_6[i]? = some w) (hg : goodWord w = true) : w ∈ zq_T := List.mem_filter.mpr ⟨List.mem_append_right _ (List.mem_append_right _ (List.mem_append_right _ (List.mem_append_right _ (List.mem_append_right _ (List.mem_append_right _ (List.mem_append_left _ (List.mem_of_getElem? h))))))), hg⟩
theorem zq_m7 {w : Cond} (i : Nat) (h : tables_1_7[i]? = some w) (hg : goodWord w = true) : w ∈ zq_T := List.mem_filter.mpr ⟨List.mem_append_right _ (List.mem_append_right _ (List.mem_append_right _ (List.mem_append_right _ (List.mem_append_right _ (List.mem_append_right _ (List.mem_append_right _ (List.mem_append_left _ (List.mem_of_getElem? h)))))))), hg⟩
theorem zq_m8 {w : Cond} (i : Nat) (h : tables_1_8[i]? = some w) (hg : goodWord w = true) : w ∈ zq_T := List.mem_filter.mpr ⟨List.mem_append_right _ (List.mem_append_right _ (List.mem_append_right _ (List.mem_append_right _ (List.mem_append_right _ (List.mem_append_right _ (List.mem_append_right _ (List.mem_append_right _ (List.mem_of_getElem? h)))))))), hg⟩
def zq_above : List Int32 := [-1, 0, 0, 0, 1, 2, 3]
def zq_own : List Int32 := [10, 11, 12, 0, 20, 0, 30, 0, 0, 0, 0, 40, 50, 51, 0, 0, 0, 60, 71, 70, 0]
def zq_len : List Nat := [5, 3, 5, 4, 10, 6, 3]
def zq_byt : List (List Int32) := [[112, 114, 105, 99, 101], [98, 97, 114], [119, 111, 114, 116, 104], [115, 97, 109, 101], [48, 49, 50, 51, 52, 53, 54, 55, 56, 57], [112, 114, 97, 110, 107, 116], [60, 61, 62]]
def zq_sr : List (Nat × String × Nat) := [(60, "price", 0), (66, "bar", 1), (68, "worth", 2), (70, "same", 3), (97, "0123456789", 4), (85, "prankt", 5), (91, "<=>", 6)]
def zq_nM : List (String × Nat × MethodName × String) := [(RX10, 11, yX5_init, RX10), (RX10, 31, yX2_init, RX10), (RX10, 38, yX3_init, RX10), (RX3, 17, yX2_init, RX10), (RX10, 86, yX0_init, RX10), (RX10, 97, yX7_init, RX10), (RX6, 89, yX10_isRoom, RX10), (RX6, 136, yX10_isFromTo, RX10), (RX0, 25, yX10_isFromTo, RX10)]
def zq_E (G : zq_G) (A : Nat → Prop) (s : State) (H : Heap) : Prop :=
  (∀ q ∈ zq_nM, va_Nw (.methodLinkNest q.1 q.2.1 q.2.2.1 q.2.2.2) s) ∧ va_Nw (.fieldLinkNest "MiddleSpeaks$Acts" 45 "MiddleSpeaks" "ABOVE" "[I" "MiddleSpeaks") s ∧ va_AO "MiddleSpeaks$House" s ∧ va_AO "MiddleSpeaks$Tape" s ∧
  (∀ q ∈ zq_sr, vk_R "MiddleSpeaks$HouseReader" q.1 q.2.1 (G.2.2.2.2.2.2.1 q.2.2) s) ∧
  va_Z "MiddleSpeaks" "ABOVE" "[I" (.ref G.2.2.2.2.1) A s H ∧ va_T .int G.2.2.2.2.1 7 (fun j => .int (zq_above.getD j 0)) A s H ∧
  va_Z "MiddleSpeaks$Acts" "OWN" "[I" (.ref G.2.2.2.2.2.1) A s H ∧ va_T .int G.2.2.2.2.2.1 21 (fun j => .int (zq_own.getD j 0)) A s H ∧
  va_Z "java/lang/String" "COMPACT_STRINGS" "Z" (.int 1) A s H ∧ vk_S 7 zq_len zq_byt G.2.2.2.2.2.2.1 G.2.2.2.2.2.2.2 A s H ∧ va_Zq "jdk/internal/util/Preconditions" "SIOOBE_FORMATTER" "Ljava/util/function/BiFunction;" A s H
theorem zq_E.same {G : zq_G} {A : Nat → Prop} {s U : State} {H : Heap} (hv : s.vm = U.vm) (h : zq_E G A s H) : zq_E G A U H := by
  have hA : s.vm.Alike U.vm := by rw [hv]; exact Vm.Alike.refl _
  obtain ⟨h1, h2, h3, h4, h5, h6, h7, h8, h9, h10, h11, h12⟩ := h
  exact ⟨fun q hq => va_Nw.same rfl hv (h1 q hq), va_Nw.same rfl hv h2, va_AO.moved hA h3, va_AO.moved hA h4, fun q hq => vk_R.same hv.symm (h5 q hq), h6.moved hA, h7.moved hA, h8.moved hA, h9.moved hA, h10.moved hA, h11.moved hA, h12.moved hA⟩
theorem zq_E.go {G : zq_G} {A A0 : Nat → Prop} {s U : State} {H H1 : Heap} (hW : s.WarmedH U.vm) (hq : ∀ a : Nat, a < H.size → ¬ A a → H1[a]? = H[a]?) (hAB : ∀ q, A0 q → A q) (h : zq_E G A s H) : zq_E G A0 U H1 := by
  have hA : s.vm.Alike U.vm := hW.alike
  obtain ⟨h1, h2, h3, h4, h5, h6, h7, h8, h9, h10, h11, h12⟩ := h
  exact ⟨fun q hq => va_Nw.warmM hW (h1 q hq), va_Nw.warmF hW h2, va_AO.moved hA h3, va_AO.moved hA h4, fun q hq => vk_R.warm hW (h5 q hq), ((h6.moved hA).kept hq).narrow hAB, ((h7.moved hA).kept hq).narrow hAB, ((h8.moved hA).kept hq).narrow hAB, ((h9.moved hA).kept hq).narrow hAB, ((h10.moved hA).kept hq).narrow hAB, ((h11.moved hA).kept hq).narrow hAB, ((h12.moved hA).kept hq).narrow hAB⟩
def zq_C (G : zq_G) (Y : zq_Y) (p : Program) (s : State) (m : MethodId) (args : Array Value) (meth : Method) (c : Code) (A : Nat → Prop) : Prop :=
  p.tables.exec = Jvm.exec ∧ c.code = Y.2.1 ∧ meth.sig.returnType = Y.2.2.2 ∧ c.maxLocals = Y.2.2.1 ∧ s.vm.findClass Y.1.cls = some m.cls ∧ (∀ w ∈ zq_T, w.before args s = true) ∧ meth.locks = false ∧ meth.name = Y.1.name ∧ va_K G.2.1 vwCl (zq_ty G) s ∧ zq_E G A s s.heap ∧ (∀ q, s.heap.size ≤ q → A q)
def zq_R (lv : zq_L) : Room := { frames := lv.1, cells := lv.2.1, slots := lv.2.2, locals := 60 * lv.1 }
def zq_Q (G : zq_G) (A : Nat → Prop) (v : Option Value × zq_W) : Array Value → State → Outcome → State → Prop := fun _ st oc t => oc = .returned v.1 ∧ t.heap.size = v.2.2.1 ∧ zq_P G v.2.1 v.2.2.2 t.heap ∧ (∀ c s, v.2.1 c = some s → A (zq_ad G c)) ∧ va_F A st t
def zq_V {ρ : Type} (G : zq_G) (Y : zq_Y) (lv : zq_L) (enc : ρ → Option Value × zq_W) (kc kn pc : Nat) (lo : List (Nat × Value)) (st : List Value) (sh : zq_H) (z : Nat) (X : zq_M) (o : Option ρ) : Prop :=
  ∀ r : ρ, o = some r → ∀ (p : Program) (e : Env) (s : State) (m : MethodId) (args : Array Value) (below : List Frame) (meth : Method) (c : Code) (A : Nat → Prop) (H : Heap) (locs : List Loc) (ls : Array Slot), zq_C G Y p s m args meth c A → H.size = z → va_S A s.heap H locs → (∀ c s, sh c = some s → A (zq_ad G c)) → zq_P G sh X H → lv_has ls Y.2.2.1 lo →
    W p G.1 e (zq_R lv) s m args below meth c H locs kc kn (MQ below (zq_Q G A (enc r)) args s lv.2.1 lv.2.2 A) (F0 m pc ls st)
def zq_b {α β : Type} (a : α) (f : α → β) : β := f a
def zq_ck {ρ : Type} (i : Int32) (n : Nat) (o : Option ρ) : Option ρ := if i < 0 ∨ n ≤ i.toNatClampNeg then none else o
def zq_ix (i : Int32) : Nat := i.toNatClampNeg
def zq_dv {ρ : Type} (y : Int32) (o : Option ρ) : Option ρ := if y = 0 then none else o
def zq_dw {ρ : Type} (y : Int64) (o : Option ρ) : Option ρ := if y = 0 then none else o
def zq_gd {ρ : Type} (b : Bool) (o : Option ρ) : Option ρ := if b = true then o else none
def zq_nn {ρ : Type} (r : Option Nat) (b : Nat → Bool) (f : Nat → Option ρ) : Option ρ := match r with
  | none => none
  | some h => if b h = true then f h else none
def zq_irem (x y : Int32) : Int32 := x - x / y * y
def zq_lrem (x y : Int64) : Int64 := x - x / y * y
def zq_shl (x y : Int32) : Int32 := x <<< (y &&& 31)
def zq_shr (x y : Int32) : Int32 := x >>> (y &&& 31)
def zq_ushr (x y : Int32) : Int32 := (x.toUInt32 >>> (y.toUInt32 &&& Int32.toUInt32 31)).toInt32
def zq_lshl (x : Int64) (y : Int32) : Int64 := x <<< (y.toInt64 &&& 63)
def zq_st (i : Nat) (lo : List (Nat × Value)) : List (Nat × Value) := lo.filter (fun q => !(q.1 == i) && !(q.1 + 1 == i && q.2.category == 2))
def zq_st2 (i : Nat) (lo : List (Nat × Value)) : List (Nat × Value) := lo.filter (fun q => !(q.1 == i) && (!(q.1 == i + 1) && !(q.1 + 1 == i && q.2.category == 2)))
def zq_ei (sh : zq_H) (z : Nat) (X : zq_M) (r : Int32) : Option Value × zq_W := (some (.int r), sh, z, X)
def zq_si (sh : zq_H) (z : Nat) (q : Int32 × zq_M) : Option Value × zq_W := (some (.int q.1), sh, z, q.2)
def zq_el (sh : zq_H) (z : Nat) (X : zq_M) (r : Int64) : Option Value × zq_W := (some (.long r), sh, z, X)
def zq_sl (sh : zq_H) (z : Nat) (q : Int64 × zq_M) : Option Value × zq_W := (some (.long q.1), sh, z, q.2)
def zq_sv (sh : zq_H) (z : Nat) (X : zq_M) : Option Value × zq_W := (none, sh, z, X)
def zq_er (G : zq_G) (sh : zq_H) (z : Nat) (X : zq_M) (r : Nat) : Option Value × zq_W := (some (.ref (zq_ad G r)), sh, z, X)
def zq_kd (sh : zq_H) (c k : Nat) : Option (Nat × Nat) := match sh c with
  | some (.inl (ci, ks)) => (ks[k]?).map (fun kd => (ci, kd))
  | _ => none
def zq_FL (own : String) (idx ci k : Nat) : Prop := ∃ q : vw_C, vwCl[ci]? = some q ∧ k < q.2.2 ∧ Cond.fieldLink own idx (q.2.1 k).1 (q.2.1 k).2.1 (q.2.1 k).2.2.1 ∈ zq_T
def zq_gz {ρ : Type} (v : Int32) (o : Option ρ) : Option ρ := if v = 0 ∨ v = 1 then o else none
def zq_dec (tab : List (Nat × Instr × Nat)) (cc : ByteArray) : Prop := ∀ q ∈ tab, decode cc q.1 = .ok q.2
theorem zq_d {tab : List (Nat × Instr × Nat)} {cc : ByteArray} (h : zq_dec tab cc) {pc : Nat} {x : Instr × Nat} (k : Nat) (hk : tab[k]? = some (pc, x)) : decode cc pc = .ok x := h (pc, x) (List.mem_of_getElem? hk)

section
variable {ρ : Type} {G : zq_G} {Y : zq_Y} {lv : zq_L} {enc : ρ → Option Value × zq_W} {kc kn pc : Nat} {lo : List (Nat × Value)} {st : List Value} {sh : zq_H} {z : Nat} {X : zq_M} {o : Option ρ}
theorem zr_none {pc : Nat} : zq_V G Y lv enc kc kn (pc) lo (st) sh z X none := fun r h => by cases h
theorem zr_iconst {n : Int} {v : Int32} (hd : decode Y.2.1 pc = .ok (.iconst n, 1)) (hv : Int32.ofInt n = v) (K : zq_V G Y lv enc kc kn (pc + 1) lo (.int v :: st) sh z X o) : zq_V G Y lv enc kc kn (pc) lo (st) sh z X o := by
  intro r hr p e s m args below meth c A H locs ls C hz hS hA hP hl
  exact lv_iconst C.1 C.2.1 hd hv (K r hr p e s m args below meth c A H locs ls C hz hS hA hP hl)
theorem zr_bipush {n : Int} {v : Int32} (hd : decode Y.2.1 pc = .ok (.bipush n, 2)) (hv : (Int8.ofInt n).toInt32 = v) (K : zq_V G Y lv enc kc kn (pc + 2) lo (.int v :: st) sh z X o) : zq_V G Y lv enc kc kn (pc) lo (st) sh z X o := by
  intro r hr p e s m args below meth c A H locs ls C hz hS hA hP hl
  exact lv_bipush C.1 C.2.1 hd hv (K r hr p e s m args below meth c A H locs ls C hz hS hA hP hl)
theorem zr_sipush {n : Int} {v : Int32} (hd : decode Y.2.1 pc = .ok (.sipush n, 3)) (hv : (Int16.ofInt n).toInt32 = v) (K : zq_V G Y lv enc kc kn (pc + 3) lo (.int v :: st) sh z X o) : zq_V G Y lv enc kc kn (pc) lo (st) sh z X o := by
  intro r hr p e s m args below meth c A H locs ls C hz hS hA hP hl
  exact lv_sipush C.1 C.2.1 hd hv (K r hr p e s m args below meth c A H locs ls C hz hS hA hP hl)
theorem zr_lconst {n : Fin 2} {v : Int64} (hd : decode Y.2.1 pc = .ok (.lconst n, 1)) (hv : Int64.ofNat (n : Nat) = v) (K : zq_V G Y lv enc kc kn (pc + 1) lo (.long v :: st) sh z X o) : zq_V G Y lv enc kc kn (pc) lo (st) sh z X o := by
  intro r hr p e s m args below meth c A H locs ls C hz hS hA hP hl
  exact lv_lconst C.1 C.2.1 hd hv (K r hr p e s m args below meth c A H locs ls C hz hS hA hP hl)
theorem zr_iload_n {k : Fin 4} {x : Int32} (hd : decode Y.2.1 pc = .ok (.iload_n k, 1)) (j : Nat) {i : Nat} (hi : (k : Nat) = i) (hj : lo[j]? = some (i, .int x)) (K : zq_V G Y lv enc kc kn (pc + 1) lo (.int x :: st) sh z X o) : zq_V G Y lv enc kc kn (pc) lo (st) sh z X o := by
  intro r hr p e s m args below meth c A H locs ls C hz hS hA hP hl
  exact lv_iload_n C.1 C.2.1 hd hi (lv_at hl j hj) (K r hr p e s m args below meth c A H locs ls C hz hS hA hP hl)
theorem zr_iload {i : Nat} {x : Int32} (hd : decode Y.2.1 pc = .ok (.iload i, 2)) (j : Nat) (hj : lo[j]? = some (i, .int x)) (K : zq_V G Y lv enc kc kn (pc + 2) lo (.int x :: st) sh z X o) : zq_V G Y lv enc kc kn (pc) lo (st) sh z X o := by
  intro r hr p e s m args below meth c A H locs ls C hz hS hA hP hl
  exact lv_iload C.1 C.2.1 hd (lv_at hl j hj) (K r hr p e s m args below meth c A H locs ls C hz hS hA hP hl)
theorem zr_lload_n {k : Fin 4} {x : Int64} (hd : decode Y.2.1 pc = .ok (.lload_n k, 1)) (j : Nat) {i : Nat} (hi : (k : Nat) = i) (hj : lo[j]? = some (i, .long x)) (K : zq_V G Y lv enc kc kn (pc + 1) lo (.long x :: st) sh z X o) : zq_V G Y lv enc kc kn (pc) lo (st) sh z X o := by
  intro r hr p e s m args below meth c A H locs ls C hz hS hA hP hl
  exact lv_lload_n C.1 C.2.1 hd hi (lv_at hl j hj) (K r hr p e s m args below meth c A H locs ls C hz hS hA hP hl)
theorem zr_lload {i : Nat} {x : Int64} (hd : decode Y.2.1 pc = .ok (.lload i, 2)) (j : Nat) (hj : lo[j]? = some (i, .long x)) (K : zq_V G Y lv enc kc kn (pc + 2) lo (.long x :: st) sh z X o) : zq_V G Y lv enc kc kn (pc) lo (st) sh z X o := by
  intro r hr p e s m args below meth c A H locs ls C hz hS hA hP hl
  exact lv_lload C.1 C.2.1 hd (lv_at hl j hj) (K r hr p e s m args below meth c A H locs ls C hz hS hA hP hl)
theorem zr_aload_n {k : Fin 4} {x : Nat} (hd : decode Y.2.1 pc = .ok (.aload_n k, 1)) (j : Nat) {i : Nat} (hi : (k : Nat) = i) (hj : lo[j]? = some (i, .ref x)) (K : zq_V G Y lv enc kc kn (pc + 1) lo (.ref x :: st) sh z X o) : zq_V G Y lv enc kc kn (pc) lo (st) sh z X o := by
  intro r hr p e s m args below meth c A H locs ls C hz hS hA hP hl
  exact lv_aload_n C.1 C.2.1 hd hi (lv_at hl j hj) (K r hr p e s m args below meth c A H locs ls C hz hS hA hP hl)
theorem zr_aload {i : Nat} {x : Nat} (hd : decode Y.2.1 pc = .ok (.aload i, 2)) (j : Nat) (hj : lo[j]? = some (i, .ref x)) (K : zq_V G Y lv enc kc kn (pc + 2) lo (.ref x :: st) sh z X o) : zq_V G Y lv enc kc kn (pc) lo (st) sh z X o := by
  intro r hr p e s m args below meth c A H locs ls C hz hS hA hP hl
  exact lv_aload C.1 C.2.1 hd (lv_at hl j hj) (K r hr p e s m args below meth c A H locs ls C hz hS hA hP hl)
theorem zr_istore_n {k : Fin 4} {i : Nat} {x : Int32} {lo2 : List (Nat × Value)} (hd : decode Y.2.1 pc = .ok (.istore_n k, 1)) (hi : (k : Nat) = i) (hn : i < Y.2.2.1) (h2 : (i, .int x) :: zq_st i lo = lo2) (K : zq_V G Y lv enc kc kn (pc + 1) lo2 (st) sh z X o) : zq_V G Y lv enc kc kn (pc) lo (.int x :: st) sh z X o := by
  intro r hr p e s m args below meth c A H locs ls C hz hS hA hP hl
  exact lv_istore_n C.1 C.2.1 hd hi hl hn h2 (fun ls2 hl2 => K r hr p e s m args below meth c A H locs ls2 C hz hS hA hP hl2)
theorem zr_istore {i : Nat} {x : Int32} {lo2 : List (Nat × Value)} (hd : decode Y.2.1 pc = .ok (.istore i, 2)) (hn : i < Y.2.2.1) (h2 : (i, .int x) :: zq_st i lo = lo2) (K : zq_V G Y lv enc kc kn (pc + 2) lo2 (st) sh z X o) : zq_V G Y lv enc kc kn (pc) lo (.int x :: st) sh z X o := by
  intro r hr p e s m args below meth c A H locs ls C hz hS hA hP hl
  exact lv_istore C.1 C.2.1 hd hl hn h2 (fun ls2 hl2 => K r hr p e s m args below meth c A H locs ls2 C hz hS hA hP hl2)
theorem zr_lstore_n {k : Fin 4} {i : Nat} {x : Int64} {lo2 : List (Nat × Value)} (hd : decode Y.2.1 pc = .ok (.lstore_n k, 1)) (hi : (k : Nat) = i) (hn : i + 1 < Y.2.2.1) (h2 : (i, .long x) :: zq_st2 i lo = lo2) (K : zq_V G Y lv enc kc kn (pc + 1) lo2 (st) sh z X o) : zq_V G Y lv enc kc kn (pc) lo (.long x :: st) sh z X o := by
  intro r hr p e s m args below meth c A H locs ls C hz hS hA hP hl
  exact lv_lstore_n C.1 C.2.1 hd hi hl hn h2 (fun ls2 hl2 => K r hr p e s m args below meth c A H locs ls2 C hz hS hA hP hl2)
theorem zr_lstore {i : Nat} {x : Int64} {lo2 : List (Nat × Value)} (hd : decode Y.2.1 pc = .ok (.lstore i, 2)) (hn : i + 1 < Y.2.2.1) (h2 : (i, .long x) :: zq_st2 i lo = lo2) (K : zq_V G Y lv enc kc kn (pc + 2) lo2 (st) sh z X o) : zq_V G Y lv enc kc kn (pc) lo (.long x :: st) sh z X o := by
  intro r hr p e s m args below meth c A H locs ls C hz hS hA hP hl
  exact lv_lstore C.1 C.2.1 hd hl hn h2 (fun ls2 hl2 => K r hr p e s m args below meth c A H locs ls2 C hz hS hA hP hl2)
theorem zr_astore_n {k : Fin 4} {i : Nat} {x : Nat} {lo2 : List (Nat × Value)} (hd : decode Y.2.1 pc = .ok (.astore_n k, 1)) (hi : (k : Nat) = i) (hn : i < Y.2.2.1) (h2 : (i, .ref x) :: zq_st i lo = lo2) (K : zq_V G Y lv enc kc kn (pc + 1) lo2 (st) sh z X o) : zq_V G Y lv enc kc kn (pc) lo (.ref x :: st) sh z X o := by
  intro r hr p e s m args below meth c A H locs ls C hz hS hA hP hl
  exact lv_astore_n C.1 C.2.1 hd hi hl hn h2 (fun ls2 hl2 => K r hr p e s m args below meth c A H locs ls2 C hz hS hA hP hl2)
theorem zr_astore {i : Nat} {x : Nat} {lo2 : List (Nat × Value)} (hd : decode Y.2.1 pc = .ok (.astore i, 2)) (hn : i < Y.2.2.1) (h2 : (i, .ref x) :: zq_st i lo = lo2) (K : zq_V G Y lv enc kc kn (pc + 2) lo2 (st) sh z X o) : zq_V G Y lv enc kc kn (pc) lo (.ref x :: st) sh z X o := by
  intro r hr p e s m args below meth c A H locs ls C hz hS hA hP hl
  exact lv_astore C.1 C.2.1 hd hl hn h2 (fun ls2 hl2 => K r hr p e s m args below meth c A H locs ls2 C hz hS hA hP hl2)
theorem zr_iinc {i j : Nat} {n : Int} {x v : Int32} {lo2 : List (Nat × Value)} (hd : decode Y.2.1 pc = .ok (.iinc i n, 3)) (hj : lo[j]? = some (i, .int x)) (hv : x + Int32.ofInt n = v) (hn : i < Y.2.2.1) (h2 : (i, .int v) :: zq_st i lo = lo2) (K : zq_V G Y lv enc kc kn (pc + 3) lo2 (st) sh z X o) : zq_V G Y lv enc kc kn (pc) lo (st) sh z X o := by
  intro r hr p e s m args below meth c A H locs ls C hz hS hA hP hl
  exact lv_iinc C.1 C.2.1 hd hl (k := j) hj hv hn h2 (fun ls2 hl2 => K r hr p e s m args below meth c A H locs ls2 C hz hS hA hP hl2)
theorem zr_iadd {x y : Int32} (hd : decode Y.2.1 pc = .ok (.iadd, 1))  (K : zq_V G Y lv enc kc kn (pc + 1) lo (.int (x + y) :: st) sh z X o) : zq_V G Y lv enc kc kn (pc) lo (.int y :: .int x :: st) sh z X o := by
  intro r hr p e s m args below meth c A H locs ls C hz hS hA hP hl
  exact lv_iadd C.1 C.2.1 hd  (K r hr p e s m args below meth c A H locs ls C hz hS hA hP hl)
theorem zr_isub {x y : Int32} (hd : decode Y.2.1 pc = .ok (.isub, 1))  (K : zq_V G Y lv enc kc kn (pc + 1) lo (.int (x - y) :: st) sh z X o) : zq_V G Y lv enc kc kn (pc) lo (.int y :: .int x :: st) sh z X o := by
  intro r hr p e s m args below meth c A H locs ls C hz hS hA hP hl
  exact lv_isub C.1 C.2.1 hd  (K r hr p e s m args below meth c A H locs ls C hz hS hA hP hl)
theorem zr_imul {x y : Int32} (hd : decode Y.2.1 pc = .ok (.imul, 1))  (K : zq_V G Y lv enc kc kn (pc + 1) lo (.int (x * y) :: st) sh z X o) : zq_V G Y lv enc kc kn (pc) lo (.int y :: .int x :: st) sh z X o := by
  intro r hr p e s m args below meth c A H locs ls C hz hS hA hP hl
  exact lv_imul C.1 C.2.1 hd  (K r hr p e s m args below meth c A H locs ls C hz hS hA hP hl)
theorem zr_iand {x y : Int32} (hd : decode Y.2.1 pc = .ok (.iand, 1))  (K : zq_V G Y lv enc kc kn (pc + 1) lo (.int (x &&& y) :: st) sh z X o) : zq_V G Y lv enc kc kn (pc) lo (.int y :: .int x :: st) sh z X o := by
  intro r hr p e s m args below meth c A H locs ls C hz hS hA hP hl
  exact lv_iand C.1 C.2.1 hd  (K r hr p e s m args below meth c A H locs ls C hz hS hA hP hl)
theorem zr_ior {x y : Int32} (hd : decode Y.2.1 pc = .ok (.ior, 1))  (K : zq_V G Y lv enc kc kn (pc + 1) lo (.int (x ||| y) :: st) sh z X o) : zq_V G Y lv enc kc kn (pc) lo (.int y :: .int x :: st) sh z X o := by
  intro r hr p e s m args below meth c A H locs ls C hz hS hA hP hl
  exact lv_ior C.1 C.2.1 hd  (K r hr p e s m args below meth c A H locs ls C hz hS hA hP hl)
theorem zr_ixor {x y : Int32} (hd : decode Y.2.1 pc = .ok (.ixor, 1))  (K : zq_V G Y lv enc kc kn (pc + 1) lo (.int (x ^^^ y) :: st) sh z X o) : zq_V G Y lv enc kc kn (pc) lo (.int y :: .int x :: st) sh z X o := by
  intro r hr p e s m args below meth c A H locs ls C hz hS hA hP hl
  exact lv_ixor C.1 C.2.1 hd  (K r hr p e s m args below meth c A H locs ls C hz hS hA hP hl)
theorem zr_ishl {x y : Int32} (hd : decode Y.2.1 pc = .ok (.ishl, 1))  (K : zq_V G Y lv enc kc kn (pc + 1) lo (.int (zq_shl x y) :: st) sh z X o) : zq_V G Y lv enc kc kn (pc) lo (.int y :: .int x :: st) sh z X o := by
  intro r hr p e s m args below meth c A H locs ls C hz hS hA hP hl
  exact lv_ishl C.1 C.2.1 hd  (K r hr p e s m args below meth c A H locs ls C hz hS hA hP hl)
theorem zr_ishr {x y : Int32} (hd : decode Y.2.1 pc = .ok (.ishr, 1))  (K : zq_V G Y lv enc kc kn (pc + 1) lo (.int (zq_shr x y) :: st) sh z X o) : zq_V G Y lv enc kc kn (pc) lo (.int y :: .int x :: st) sh z X o := by
  intro r hr p e s m args below meth c A H locs ls C hz hS hA hP hl
  exact lv_ishr C.1 C.2.1 hd  (K r hr p e s m args below meth c A H locs ls C hz hS hA hP hl)
theorem zr_iushr {x y : Int32} (hd : decode Y.2.1 pc = .ok (.iushr, 1))  (K : zq_V G Y lv enc kc kn (pc + 1) lo (.int (zq_ushr x y) :: st) sh z X o) : zq_V G Y lv enc kc kn (pc) lo (.int y :: .int x :: st) sh z X o := by
  intro r hr p e s m args below meth c A H locs ls C hz hS hA hP hl
  exact lv_iushr C.1 C.2.1 hd rfl (K r hr p e s m args below meth c A H locs ls C hz hS hA hP hl)
theorem zr_ladd {x y : Int64} (hd : decode Y.2.1 pc = .ok (.ladd, 1))  (K : zq_V G Y lv enc kc kn (pc + 1) lo (.long (x + y) :: st) sh z X o) : zq_V G Y lv enc kc kn (pc) lo (.long y :: .long x :: st) sh z X o := by
  intro r hr p e s m args below meth c A H locs ls C hz hS hA hP hl
  exact lv_ladd C.1 C.2.1 hd  (K r hr p e s m args below meth c A H locs ls C hz hS hA hP hl)
theorem zr_lsub {x y : Int64} (hd : decode Y.2.1 pc = .ok (.lsub, 1))  (K : zq_V G Y lv enc kc kn (pc + 1) lo (.long (x - y) :: st) sh z X o) : zq_V G Y lv enc kc kn (pc) lo (.long y :: .long x :: st) sh z X o := by
  intro r hr p e s m args below meth c A H locs ls C hz hS hA hP hl
  exact lv_lsub C.1 C.2.1 hd  (K r hr p e s m args below meth c A H locs ls C hz hS hA hP hl)
theorem zr_lmul {x y : Int64} (hd : decode Y.2.1 pc = .ok (.lmul, 1))  (K : zq_V G Y lv enc kc kn (pc + 1) lo (.long (x * y) :: st) sh z X o) : zq_V G Y lv enc kc kn (pc) lo (.long y :: .long x :: st) sh z X o := by
  intro r hr p e s m args below meth c A H locs ls C hz hS hA hP hl
  exact lv_lmul C.1 C.2.1 hd  (K r hr p e s m args below meth c A H locs ls C hz hS hA hP hl)
theorem zr_land {x y : Int64} (hd : decode Y.2.1 pc = .ok (.land, 1))  (K : zq_V G Y lv enc kc kn (pc + 1) lo (.long (x &&& y) :: st) sh z X o) : zq_V G Y lv enc kc kn (pc) lo (.long y :: .long x :: st) sh z X o := by
  intro r hr p e s m args below meth c A H locs ls C hz hS hA hP hl
  exact lv_land C.1 C.2.1 hd  (K r hr p e s m args below meth c A H locs ls C hz hS hA hP hl)
theorem zr_lor {x y : Int64} (hd : decode Y.2.1 pc = .ok (.lor, 1))  (K : zq_V G Y lv enc kc kn (pc + 1) lo (.long (x ||| y) :: st) sh z X o) : zq_V G Y lv enc kc kn (pc) lo (.long y :: .long x :: st) sh z X o := by
  intro r hr p e s m args below meth c A H locs ls C hz hS hA hP hl
  exact lv_lor C.1 C.2.1 hd  (K r hr p e s m args below meth c A H locs ls C hz hS hA hP hl)
theorem zr_ineg {x : Int32} (hd : decode Y.2.1 pc = .ok (.ineg, 1))  (K : zq_V G Y lv enc kc kn (pc + 1) lo (.int (-x) :: st) sh z X o) : zq_V G Y lv enc kc kn (pc) lo (.int x :: st) sh z X o := by
  intro r hr p e s m args below meth c A H locs ls C hz hS hA hP hl
  exact lv_ineg C.1 C.2.1 hd  (K r hr p e s m args below meth c A H locs ls C hz hS hA hP hl)
theorem zr_lshl {x : Int64} {y : Int32} (hd : decode Y.2.1 pc = .ok (.lshl, 1))  (K : zq_V G Y lv enc kc kn (pc + 1) lo (.long (zq_lshl x y) :: st) sh z X o) : zq_V G Y lv enc kc kn (pc) lo (.int y :: .long x :: st) sh z X o := by
  intro r hr p e s m args below meth c A H locs ls C hz hS hA hP hl
  exact lv_lshl C.1 C.2.1 hd rfl (K r hr p e s m args below meth c A H locs ls C hz hS hA hP hl)
theorem zr_lcmp {x y : Int64} (hd : decode Y.2.1 pc = .ok (.lcmp, 1))  (K : zq_V G Y lv enc kc kn (pc + 1) lo (.int (lg_cmp x y) :: st) sh z X o) : zq_V G Y lv enc kc kn (pc) lo (.long y :: .long x :: st) sh z X o := by
  intro r hr p e s m args below meth c A H locs ls C hz hS hA hP hl
  exact W.lcmp C.1 C.2.1 hd  (K r hr p e s m args below meth c A H locs ls C hz hS hA hP hl)
theorem zr_i2l {x : Int32} (hd : decode Y.2.1 pc = .ok (.i2l, 1))  (K : zq_V G Y lv enc kc kn (pc + 1) lo (.long (x.toInt64) :: st) sh z X o) : zq_V G Y lv enc kc kn (pc) lo (.int x :: st) sh z X o := by
  intro r hr p e s m args below meth c A H locs ls C hz hS hA hP hl
  exact lv_i2l C.1 C.2.1 hd rfl (K r hr p e s m args below meth c A H locs ls C hz hS hA hP hl)
theorem zr_l2i {x : Int64} (hd : decode Y.2.1 pc = .ok (.l2i, 1))  (K : zq_V G Y lv enc kc kn (pc + 1) lo (.int (x.toInt32) :: st) sh z X o) : zq_V G Y lv enc kc kn (pc) lo (.long x :: st) sh z X o := by
  intro r hr p e s m args below meth c A H locs ls C hz hS hA hP hl
  exact lv_l2i C.1 C.2.1 hd rfl (K r hr p e s m args below meth c A H locs ls C hz hS hA hP hl)
theorem zr_i2b {x : Int32} (hd : decode Y.2.1 pc = .ok (.i2b, 1))  (K : zq_V G Y lv enc kc kn (pc + 1) lo (.int (x.toInt8.toInt32) :: st) sh z X o) : zq_V G Y lv enc kc kn (pc) lo (.int x :: st) sh z X o := by
  intro r hr p e s m args below meth c A H locs ls C hz hS hA hP hl
  exact lv_i2b C.1 C.2.1 hd rfl (K r hr p e s m args below meth c A H locs ls C hz hS hA hP hl)
theorem zr_i2s {x : Int32} (hd : decode Y.2.1 pc = .ok (.i2s, 1))  (K : zq_V G Y lv enc kc kn (pc + 1) lo (.int (x.toInt16.toInt32) :: st) sh z X o) : zq_V G Y lv enc kc kn (pc) lo (.int x :: st) sh z X o := by
  intro r hr p e s m args below meth c A H locs ls C hz hS hA hP hl
  exact lv_i2s C.1 C.2.1 hd rfl (K r hr p e s m args below meth c A H locs ls C hz hS hA hP hl)
theorem zr_i2c {x : Int32} (hd : decode Y.2.1 pc = .ok (.i2c, 1))  (K : zq_V G Y lv enc kc kn (pc + 1) lo (.int ((x.toUInt32 % 65536).toInt32) :: st) sh z X o) : zq_V G Y lv enc kc kn (pc) lo (.int x :: st) sh z X o := by
  intro r hr p e s m args below meth c A H locs ls C hz hS hA hP hl
  exact lv_i2c C.1 C.2.1 hd rfl (K r hr p e s m args below meth c A H locs ls C hz hS hA hP hl)
theorem zr_idivk {x y : Int32} (hd : decode Y.2.1 pc = .ok (.idiv, 1)) (hy : ¬ y = 0) (K : zq_V G Y lv enc kc kn (pc + 1) lo (.int (x / y) :: st) sh z X o) : zq_V G Y lv enc kc kn (pc) lo (.int y :: .int x :: st) sh z X o := by
  intro r hr p e s m args below meth c A H locs ls C hz hS hA hP hl
  exact lv_idiv C.1 C.2.1 hd hy (K r hr p e s m args below meth c A H locs ls C hz hS hA hP hl)
theorem zr_iremk {x y : Int32} (hd : decode Y.2.1 pc = .ok (.irem, 1)) (hy : ¬ y = 0) (K : zq_V G Y lv enc kc kn (pc + 1) lo (.int (zq_irem x y) :: st) sh z X o) : zq_V G Y lv enc kc kn (pc) lo (.int y :: .int x :: st) sh z X o := by
  intro r hr p e s m args below meth c A H locs ls C hz hS hA hP hl
  exact lv_irem C.1 C.2.1 hd hy (K r hr p e s m args below meth c A H locs ls C hz hS hA hP hl)
theorem zr_idiv {x y : Int32} (hd : decode Y.2.1 pc = .ok (.idiv, 1)) (K : zq_V G Y lv enc kc kn (pc + 1) lo (.int (x / y) :: st) sh z X o) : zq_V G Y lv enc kc kn (pc) lo (.int y :: .int x :: st) sh z X (zq_dv y o) := by
  intro r hr p e s m args below meth c A H locs ls C hz hS hA hP hl
  unfold zq_dv at hr
  split at hr
  · cases hr
  · rename_i hy
    exact lv_idiv C.1 C.2.1 hd hy (K r hr p e s m args below meth c A H locs ls C hz hS hA hP hl)
theorem zr_irem {x y : Int32} (hd : decode Y.2.1 pc = .ok (.irem, 1)) (K : zq_V G Y lv enc kc kn (pc + 1) lo (.int (zq_irem x y) :: st) sh z X o) : zq_V G Y lv enc kc kn (pc) lo (.int y :: .int x :: st) sh z X (zq_dv y o) := by
  intro r hr p e s m args below meth c A H locs ls C hz hS hA hP hl
  unfold zq_dv at hr
  split at hr
  · cases hr
  · rename_i hy
    exact lv_irem C.1 C.2.1 hd hy (K r hr p e s m args below meth c A H locs ls C hz hS hA hP hl)
theorem zr_ldiv {x y : Int64} (hd : decode Y.2.1 pc = .ok (.ldiv, 1)) (K : zq_V G Y lv enc kc kn (pc + 1) lo (.long (x / y) :: st) sh z X o) : zq_V G Y lv enc kc kn (pc) lo (.long y :: .long x :: st) sh z X (zq_dw y o) := by
  intro r hr p e s m args below meth c A H locs ls C hz hS hA hP hl
  unfold zq_dw at hr
  split at hr
  · cases hr
  · rename_i hy
    exact lv_ldiv C.1 C.2.1 hd hy (K r hr p e s m args below meth c A H locs ls C hz hS hA hP hl)
theorem zr_lrem {x y : Int64} (hd : decode Y.2.1 pc = .ok (.lrem, 1)) (K : zq_V G Y lv enc kc kn (pc + 1) lo (.long (zq_lrem x y) :: st) sh z X o) : zq_V G Y lv enc kc kn (pc) lo (.long y :: .long x :: st) sh z X (zq_dw y o) := by
  intro r hr p e s m args below meth c A H locs ls C hz hS hA hP hl
  unfold zq_dw at hr
  split at hr
  · cases hr
  · rename_i hy
    exact lv_lrem C.1 C.2.1 hd hy (K r hr p e s m args below meth c A H locs ls C hz hS hA hP hl)
theorem zr_dup {v : Value} (hd : decode Y.2.1 pc = .ok (.dup, 1)) (hv : v.category = 1) (K : zq_V G Y lv enc kc kn (pc + 1) lo (v :: v :: st) sh z X o) : zq_V G Y lv enc kc kn (pc) lo (v :: st) sh z X o := by
  intro r hr p e s m args below meth c A H locs ls C hz hS hA hP hl
  exact lv_dup C.1 C.2.1 hd hv (K r hr p e s m args below meth c A H locs ls C hz hS hA hP hl)
theorem zr_pop {v : Value} (hd : decode Y.2.1 pc = .ok (.pop, 1)) (hv : v.category = 1) (K : zq_V G Y lv enc kc kn (pc + 1) lo (st) sh z X o) : zq_V G Y lv enc kc kn (pc) lo (v :: st) sh z X o := by
  intro r hr p e s m args below meth c A H locs ls C hz hS hA hP hl
  exact lv_pop C.1 C.2.1 hd hv (K r hr p e s m args below meth c A H locs ls C hz hS hA hP hl)
theorem zr_dup2 {v u : Value} (hd : decode Y.2.1 pc = .ok (.dup2, 1)) (hv : v.category = 1) (hu : u.category = 1) (K : zq_V G Y lv enc kc kn (pc + 1) lo (v :: u :: v :: u :: st) sh z X o) : zq_V G Y lv enc kc kn (pc) lo (v :: u :: st) sh z X o := by
  intro r hr p e s m args below meth c A H locs ls C hz hS hA hP hl
  exact lv_dup2_11 C.1 C.2.1 hd hv hu (K r hr p e s m args below meth c A H locs ls C hz hS hA hP hl)
theorem zr_goto {off : Int} (tgt : Nat) (hd : decode Y.2.1 pc = .ok (.goto off, 3)) (ht : (pc : Int) + off = (tgt : Int)) (K : zq_V G Y lv enc kc kn (tgt) lo (st) sh z X o) : zq_V G Y lv enc kc kn (pc) lo (st) sh z X o := by
  intro r hr p e s m args below meth c A H locs ls C hz hS hA hP hl
  exact lv_goto C.1 C.2.1 hd ht (K r hr p e s m args below meth c A H locs ls C hz hS hA hP hl)
theorem zr_if_eq {x : Int32} {off : Int} {o1 o2 : Option ρ} {D : Decidable (x = 0)} (tgt : Nat) (hd : decode Y.2.1 pc = .ok (.ifCond .eq off, 3)) (ht : (pc : Int) + off = (tgt : Int)) (KT : x = 0 → zq_V G Y lv enc kc kn (tgt) lo (st) sh z X o1) (KF : ¬ x = 0 → zq_V G Y lv enc kc kn (pc + 3) lo (st) sh z X o2) : zq_V G Y lv enc kc kn (pc) lo (.int x :: st) sh z X (@ite _ (x = 0) D o1 o2) := by
  intro r hr p e s m args below meth c A H locs ls C hz hS hA hP hl
  by_cases hc : x = 0
  · rw [if_pos hc] at hr
    exact lv_if_eq C.1 C.2.1 hd ht (fun _ => KT hc r hr p e s m args below meth c A H locs ls C hz hS hA hP hl) (fun h => absurd hc h)
  · rw [if_neg hc] at hr
    exact lv_if_eq C.1 C.2.1 hd ht (fun h => absurd h hc) (fun h => KF h r hr p e s m args below meth c A H locs ls C hz hS hA hP hl)
theorem zr_if_ne {x : Int32} {off : Int} {o1 o2 : Option ρ} {D : Decidable (¬ x = 0)} (tgt : Nat) (hd : decode Y.2.1 pc = .ok (.ifCond .ne off, 3)) (ht : (pc : Int) + off = (tgt : Int)) (KT : ¬ x = 0 → zq_V G Y lv enc kc kn (tgt) lo (st) sh z X o1) (KF : x = 0 → zq_V G Y lv enc kc kn (pc + 3) lo (st) sh z X o2) : zq_V G Y lv enc kc kn (pc) lo (.int x :: st) sh z X (@ite _ (¬ x = 0) D o1 o2) := by
  intro r hr p e s m args below meth c A H locs ls C hz hS hA hP hl
  by_cases hc : ¬ x = 0
  · rw [if_pos hc] at hr
    exact lv_if_ne C.1 C.2.1 hd ht (fun _ => KT hc r hr p e s m args below meth c A H locs ls C hz hS hA hP hl) (fun h => absurd h hc)
  · rw [if_neg hc] at hr
    exact lv_if_ne C.1 C.2.1 hd ht (fun h => absurd h hc) (fun h => KF h r hr p e s m args below meth c A H locs ls C hz hS hA hP hl)
theorem zr_if_lt {x : Int32} {off : Int} {o1 o2 : Option ρ} {D : Decidable (x < 0)} (tgt : Nat) (hd : decode Y.2.1 pc = .ok (.ifCond .lt off, 3)) (ht : (pc : Int) + off = (tgt : Int)) (KT : x < 0 → zq_V G Y lv enc kc kn (tgt) lo (st) sh z X o1) (KF : ¬ x < 0 → zq_V G Y lv enc kc kn (pc + 3) lo (st) sh z X o2) : zq_V G Y lv enc kc kn (pc) lo (.int x :: st) sh z X (@ite _ (x < 0) D o1 o2) := by
  intro r hr p e s m args below meth c A H locs ls C hz hS hA hP hl
  by_cases hc : x < 0
  · rw [if_pos hc] at hr
    exact lv_if_lt C.1 C.2.1 hd ht (fun _ => KT hc r hr p e s m args below meth c A H locs ls C hz hS hA hP hl) (fun h => absurd hc h)
  · rw [if_neg hc] at hr
    exact lv_if_lt C.1 C.2.1 hd ht (fun h => absurd h hc) (fun h => KF h r hr p e s m args below meth c A H locs ls C hz hS hA hP hl)
theorem zr_if_ge {x : Int32} {off : Int} {o1 o2 : Option ρ} {D : Decidable (0 ≤ x)} (tgt : Nat) (hd : decode Y.2.1 pc = .ok (.ifCond .ge off, 3)) (ht : (pc : Int) + off = (tgt : Int)) (KT : 0 ≤ x → zq_V G Y lv enc kc kn (tgt) lo (st) sh z X o1) (KF : ¬ 0 ≤ x → zq_V G Y lv enc kc kn (pc + 3) lo (st) sh z X o2) : zq_V G Y lv enc kc kn (pc) lo (.int x :: st) sh z X (@ite _ (0 ≤ x) D o1 o2) := by
  intro r hr p e s m args below meth c A H locs ls C hz hS hA hP hl
  by_cases hc : 0 ≤ x
  · rw [if_pos hc] at hr
    exact lv_if_ge C.1 C.2.1 hd ht (fun _ => KT hc r hr p e s m args below meth c A H locs ls C hz hS hA hP hl) (fun h => absurd hc h)
  · rw [if_neg hc] at hr
    exact lv_if_ge C.1 C.2.1 hd ht (fun h => absurd h hc) (fun h => KF h r hr p e s m args below meth c A H locs ls C hz hS hA hP hl)
theorem zr_if_gt {x : Int32} {off : Int} {o1 o2 : Option ρ} {D : Decidable (0 < x)} (tgt : Nat) (hd : decode Y.2.1 pc = .ok (.ifCond .gt off, 3)) (ht : (pc : Int) + off = (tgt : Int)) (KT : 0 < x → zq_V G Y lv enc kc kn (tgt) lo (st) sh z X o1) (KF : ¬ 0 < x → zq_V G Y lv enc kc kn (pc + 3) lo (st) sh z X o2) : zq_V G Y lv enc kc kn (pc) lo (.int x :: st) sh z X (@ite _ (0 < x) D o1 o2) := by
  intro r hr p e s m args below meth c A H locs ls C hz hS hA hP hl
  by_cases hc : 0 < x
  · rw [if_pos hc] at hr
    exact lv_if_gt C.1 C.2.1 hd ht (fun _ => KT hc r hr p e s m args below meth c A H locs ls C hz hS hA hP hl) (fun h => absurd hc h)
  · rw [if_neg hc] at hr
    exact lv_if_gt C.1 C.2.1 hd ht (fun h => absurd h hc) (fun h => KF h r hr p e s m args below meth c A H locs ls C hz hS hA hP hl)
theorem zr_if_le {x : Int32} {off : Int} {o1 o2 : Option ρ} {D : Decidable (x ≤ 0)} (tgt : Nat) (hd : decode Y.2.1 pc = .ok (.ifCond .le off, 3)) (ht : (pc : Int) + off = (tgt : Int)) (KT : x ≤ 0 → zq_V G Y lv enc kc kn (tgt) lo (st) sh z X o1) (KF : ¬ x ≤ 0 → zq_V G Y lv enc kc kn (pc + 3) lo (st) sh z X o2) : zq_V G Y lv enc kc kn (pc) lo (.int x :: st) sh z X (@ite _ (x ≤ 0) D o1 o2) := by
  intro r hr p e s m args below meth c A H locs ls C hz hS hA hP hl
  by_cases hc : x ≤ 0
  · rw [if_pos hc] at hr
    exact lv_if_le C.1 C.2.1 hd ht (fun _ => KT hc r hr p e s m args below meth c A H locs ls C hz hS hA hP hl) (fun h => absurd hc h)
  · rw [if_neg hc] at hr
    exact lv_if_le C.1 C.2.1 hd ht (fun h => absurd h hc) (fun h => KF h r hr p e s m args below meth c A H locs ls C hz hS hA hP hl)
theorem zr_icmp_eq {x y : Int32} {off : Int} {o1 o2 : Option ρ} {D : Decidable (x = y)} (tgt : Nat) (hd : decode Y.2.1 pc = .ok (.if_icmp .eq off, 3)) (ht : (pc : Int) + off = (tgt : Int)) (KT : x = y → zq_V G Y lv enc kc kn (tgt) lo (st) sh z X o1) (KF : ¬ x = y → zq_V G Y lv enc kc kn (pc + 3) lo (st) sh z X o2) : zq_V G Y lv enc kc kn (pc) lo (.int y :: .int x :: st) sh z X (@ite _ (x = y) D o1 o2) := by
  intro r hr p e s m args below meth c A H locs ls C hz hS hA hP hl
  by_cases hc : x = y
  · rw [if_pos hc] at hr
    exact lv_icmp_eq C.1 C.2.1 hd ht (fun _ => KT hc r hr p e s m args below meth c A H locs ls C hz hS hA hP hl) (fun h => absurd hc h)
  · rw [if_neg hc] at hr
    exact lv_icmp_eq C.1 C.2.1 hd ht (fun h => absurd h hc) (fun h => KF h r hr p e s m args below meth c A H locs ls C hz hS hA hP hl)
theorem zr_icmp_ne {x y : Int32} {off : Int} {o1 o2 : Option ρ} {D : Decidable (¬ x = y)} (tgt : Nat) (hd : decode Y.2.1 pc = .ok (.if_icmp .ne off, 3)) (ht : (pc : Int) + off = (tgt : Int)) (KT : ¬ x = y → zq_V G Y lv enc kc kn (tgt) lo (st) sh z X o1) (KF : x = y → zq_V G Y lv enc kc kn (pc + 3) lo (st) sh z X o2) : zq_V G Y lv enc kc kn (pc) lo (.int y :: .int x :: st) sh z X (@ite _ (¬ x = y) D o1 o2) := by
  intro r hr p e s m args below meth c A H locs ls C hz hS hA hP hl
  by_cases hc : ¬ x = y
  · rw [if_pos hc] at hr
    exact lv_icmp_ne C.1 C.2.1 hd ht (fun _ => KT hc r hr p e s m args below meth c A H locs ls C hz hS hA hP hl) (fun h => absurd h hc)
  · rw [if_neg hc] at hr
    exact lv_icmp_ne C.1 C.2.1 hd ht (fun h => absurd h hc) (fun h => KF h r hr p e s m args below meth c A H locs ls C hz hS hA hP hl)
theorem zr_icmp_lt {x y : Int32} {off : Int} {o1 o2 : Option ρ} {D : Decidable (x < y)} (tgt : Nat) (hd : decode Y.2.1 pc = .ok (.if_icmp .lt off, 3)) (ht : (pc : Int) + off = (tgt : Int)) (KT : x < y → zq_V G Y lv enc kc kn (tgt) lo (st) sh z X o1) (KF : ¬ x < y → zq_V G Y lv enc kc kn (pc + 3) lo (st) sh z X o2) : zq_V G Y lv enc kc kn (pc) lo (.int y :: .int x :: st) sh z X (@ite _ (x < y) D o1 o2) := by
  intro r hr p e s m args below meth c A H locs ls C hz hS hA hP hl
  by_cases hc : x < y
  · rw [if_pos hc] at hr
    exact lv_icmp_lt C.1 C.2.1 hd ht (fun _ => KT hc r hr p e s m args below meth c A H locs ls C hz hS hA hP hl) (fun h => absurd hc h)
  · rw [if_neg hc] at hr
    exact lv_icmp_lt C.1 C.2.1 hd ht (fun h => absurd h hc) (fun h => KF h r hr p e s m args below meth c A H locs ls C hz hS hA hP hl)
theorem zr_icmp_ge {x y : Int32} {off : Int} {o1 o2 : Option ρ} {D : Decidable (y ≤ x)} (tgt : Nat) (hd : decode Y.2.1 pc = .ok (.if_icmp .ge off, 3)) (ht : (pc : Int) + off = (tgt : Int)) (KT : y ≤ x → zq_V G Y lv enc kc kn (tgt) lo (st) sh z X o1) (KF : ¬ y ≤ x → zq_V G Y lv enc kc kn (pc + 3) lo (st) sh z X o2) : zq_V G Y lv enc kc kn (pc) lo (.int y :: .int x :: st) sh z X (@ite _ (y ≤ x) D o1 o2) := by
  intro r hr p e s m args below meth c A H locs ls C hz hS hA hP hl
  by_cases hc : y ≤ x
  · rw [if_pos hc] at hr
    exact lv_icmp_ge C.1 C.2.1 hd ht (fun _ => KT hc r hr p e s m args below meth c A H locs ls C hz hS hA hP hl) (fun h => absurd hc h)
  · rw [if_neg hc] at hr
    exact lv_icmp_ge C.1 C.2.1 hd ht (fun h => absurd h hc) (fun h => KF h r hr p e s m args below meth c A H locs ls C hz hS hA hP hl)
theorem zr_icmp_gt {x y : Int32} {off : Int} {o1 o2 : Option ρ} {D : Decidable (y < x)} (tgt : Nat) (hd : decode Y.2.1 pc = .ok (.if_icmp .gt off, 3)) (ht : (pc : Int) + off = (tgt : Int)) (KT : y < x → zq_V G Y lv enc kc kn (tgt) lo (st) sh z X o1) (KF : ¬ y < x → zq_V G Y lv enc kc kn (pc + 3) lo (st) sh z X o2) : zq_V G Y lv enc kc kn (pc) lo (.int y :: .int x :: st) sh z X (@ite _ (y < x) D o1 o2) := by
  intro r hr p e s m args below meth c A H locs ls C hz hS hA hP hl
  by_cases hc : y < x
  · rw [if_pos hc] at hr
    exact lv_icmp_gt C.1 C.2.1 hd ht (fun _ => KT hc r hr p e s m args below meth c A H locs ls C hz hS hA hP hl) (fun h => absurd hc h)
  · rw [if_neg hc] at hr
    exact lv_icmp_gt C.1 C.2.1 hd ht (fun h => absurd h hc) (fun h => KF h r hr p e s m args below meth c A H locs ls C hz hS hA hP hl)
theorem zr_icmp_le {x y : Int32} {off : Int} {o1 o2 : Option ρ} {D : Decidable (x ≤ y)} (tgt : Nat) (hd : decode Y.2.1 pc = .ok (.if_icmp .le off, 3)) (ht : (pc : Int) + off = (tgt : Int)) (KT : x ≤ y → zq_V G Y lv enc kc kn (tgt) lo (st) sh z X o1) (KF : ¬ x ≤ y → zq_V G Y lv enc kc kn (pc + 3) lo (st) sh z X o2) : zq_V G Y lv enc kc kn (pc) lo (.int y :: .int x :: st) sh z X (@ite _ (x ≤ y) D o1 o2) := by
  intro r hr p e s m args below meth c A H locs ls C hz hS hA hP hl
  by_cases hc : x ≤ y
  · rw [if_pos hc] at hr
    exact lv_icmp_le C.1 C.2.1 hd ht (fun _ => KT hc r hr p e s m args below meth c A H locs ls C hz hS hA hP hl) (fun h => absurd hc h)
  · rw [if_neg hc] at hr
    exact lv_icmp_le C.1 C.2.1 hd ht (fun h => absurd h hc) (fun h => KF h r hr p e s m args below meth c A H locs ls C hz hS hA hP hl)
end
