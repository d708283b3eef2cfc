def zq_fl : List Cond := flatC (Jvm.Cond.and given_1 narrow_1)
def zq_tm (i : Nat) : Term := .string "MiddleSpeaks$HouseReader" ([60, 66, 68, 70, 97, 85, 91].getD i 0)
theorem zq_b1 : ∀ j, j < 21 → Cond.eq (.elem (.static "MiddleSpeaks$Acts" "OWN" "[I") (.int (Int32.ofNat j))) (.int (zq_own.getD j 0)) ∈ zq_fl := by decide +kernel
theorem zq_b2 : ∀ j, j < 7 → Cond.eq (.elem (.static "MiddleSpeaks" "ABOVE" "[I") (.int (Int32.ofNat j))) (.int (zq_above.getD j 0)) ∈ zq_fl := by decide +kernel
theorem zq_b3 : ∀ i, i < 7 → Cond.exactly (zq_tm i) "java/lang/String" ∈ zq_fl := by decide +kernel
theorem zq_b4 : ∀ i, i < 7 → Cond.eq (.field (zq_tm i) "java/lang/String" "coder" "B") (.int 0) ∈ zq_fl := by decide +kernel
theorem zq_b5 : ∀ i, i < 7 → Cond.arrayOf (.field (zq_tm i) "java/lang/String" "value" "[B") .byte ∈ zq_fl := by decide +kernel
theorem zq_b6 : ∀ i, i < 7 → Cond.eq (.length (.field (zq_tm i) "java/lang/String" "value" "[B")) (.int (Int32.ofNat (zq_len.getD i 0))) ∈ zq_fl := by decide +kernel
theorem zq_b7 : ∀ i, i < 7 → ∀ j, j < zq_len.getD i 0 → Cond.eq (.elem (.field (zq_tm i) "java/lang/String" "value" "[B") (.int (Int32.ofNat j))) (.int ((zq_byt.getD i []).getD j 0)) ∈ zq_fl := by decide +kernel
theorem zq_b8 : ∀ i, i < 7 → ∀ j, j < 7 → i ≠ j → (Cond.not (Cond.eq (zq_tm i) (zq_tm j)) ∈ zq_fl ∨ Cond.not (Cond.eq (zq_tm j) (zq_tm i)) ∈ zq_fl) := by decide +kernel
theorem zq_b9 : Cond.arrayOf (.static "MiddleSpeaks$Acts" "OWN" "[I") .int ∈ zq_fl ∧ Cond.eq (.length (.static "MiddleSpeaks$Acts" "OWN" "[I")) (.int 21) ∈ zq_fl ∧ Cond.arrayOf (.static "MiddleSpeaks" "ABOVE" "[I") .int ∈ zq_fl ∧ Cond.eq (.length (.static "MiddleSpeaks" "ABOVE" "[I")) (.int 7) ∈ zq_fl ∧ Cond.eq (.static "java/lang/String" "COMPACT_STRINGS" "Z") (.int 1) ∈ zq_fl ∧ Cond.isRef (.static "jdk/internal/util/Preconditions" "SIOOBE_FORMATTER" "Ljava/util/function/BiFunction;") ∈ zq_fl := by decide +kernel
theorem zq_w1 : Cond.arrayOver (.object "MiddleSpeaks$House") ∈ lw_tbl ∧ Cond.arrayOver (.object "MiddleSpeaks$Tape") ∈ lw_tbl := ⟨(List.mem_append_right _ (List.mem_append_left _ (List.mem_of_getElem? (i := 119) rfl))), (List.mem_append_right _ (List.mem_append_right _ (List.mem_append_left _ (List.mem_of_getElem? (i := 68) rfl))))⟩
theorem zq_w2 : ∀ q ∈ zq_nM, Cond.methodLinkNest q.1 q.2.1 q.2.2.1 q.2.2.2 ∈ lw_tbl := (List.forall_mem_cons.mpr ⟨(List.mem_append_right _ (List.mem_append_left _ (List.mem_of_getElem? (i := 32) rfl))), (List.forall_mem_cons.mpr ⟨(List.mem_append_right _ (List.mem_append_left _ (List.mem_of_getElem? (i := 121) rfl))), (List.forall_mem_cons.mpr ⟨(List.mem_append_right _ (List.mem_append_left _ (List.mem_of_getElem? (i := 151) rfl))), (List.forall_mem_cons.mpr ⟨(List.mem_append_right _ (List.mem_append_left _ (List.mem_of_getElem? (i := 156) rfl))), (List.forall_mem_cons.mpr ⟨(List.mem_append_right _ (List.mem_append_right _ (List.mem_append_left _ (List.mem_of_getElem? (i := 46) rfl)))), (List.forall_mem_cons.mpr ⟨(List.mem_append_right _ (List.mem_append_right _ (List.mem_append_left _ (List.mem_of_getElem? (i := 70) rfl)))), (List.forall_mem_cons.mpr ⟨(List.mem_append_right _ (List.mem_append_right _ (List.mem_append_left _ (List.mem_of_getElem? (i := 182) rfl)))), (List.forall_mem_cons.mpr ⟨(List.mem_append_right _ (List.mem_append_right _ (List.mem_append_right _ (List.mem_append_right _ (List.mem_append_left _ (List.mem_of_getElem? (i := 234) rfl)))))), (List.forall_mem_cons.mpr ⟨(List.mem_append_right _ (List.mem_append_right _ (List.mem_append_right _ (List.mem_append_right _ (List.mem_append_right _ (List.mem_append_left _ (List.mem_of_getElem? (i := 64) rfl))))))), (List.forall_mem_nil _)⟩)⟩)⟩)⟩)⟩)⟩)⟩)⟩)⟩)
theorem zq_w3 : Cond.fieldLinkNest "MiddleSpeaks$Acts" 45 "MiddleSpeaks" "ABOVE" "[I" "MiddleSpeaks" ∈ lw_tbl := (List.mem_append_right _ (List.mem_append_right _ (List.mem_append_right _ (List.mem_append_right _ (List.mem_append_right _ (List.mem_append_left _ (List.mem_of_getElem? (i := 49) rfl)))))))
theorem zq_wl0 : Cond.laysStatic "MiddleSpeaks" "ABOVE" "[I" ∈ lw_tbl ∧ Cond.initialized "MiddleSpeaks" ∈ lw_tbl := ⟨(List.mem_append_right _ (List.mem_append_right _ (List.mem_append_right _ (List.mem_append_right _ (List.mem_append_right _ (List.mem_append_left _ (List.mem_of_getElem? (i := 50) rfl))))))), (List.mem_append_right _ (List.mem_append_left _ (List.mem_of_getElem? (i := 1) rfl)))⟩
theorem zq_wl1 : Cond.laysStatic "MiddleSpeaks$Acts" "OWN" "[I" ∈ lw_tbl ∧ Cond.initialized "MiddleSpeaks$Acts" ∈ lw_tbl := ⟨(List.mem_append_right _ (List.mem_append_right _ (List.mem_append_right _ (List.mem_append_right _ (List.mem_append_right _ (List.mem_append_left _ (List.mem_of_getElem? (i := 48) rfl))))))), (List.mem_append_right _ (List.mem_append_left _ (List.mem_of_getElem? (i := 10) rfl)))⟩
theorem zq_wl2 : Cond.laysStatic "java/lang/String" "COMPACT_STRINGS" "Z" ∈ lw_tbl ∧ Cond.initialized "java/lang/String" ∈ lw_tbl := ⟨(List.mem_append_right _ (List.mem_append_right _ (List.mem_append_right _ (List.mem_append_left _ (List.mem_of_getElem? (i := 14) rfl))))), (List.mem_append_right _ (List.mem_append_left _ (List.mem_of_getElem? (i := 14) rfl)))⟩
theorem zq_wl3 : Cond.laysStatic "jdk/internal/util/Preconditions" "SIOOBE_FORMATTER" "Ljava/util/function/BiFunction;" ∈ lw_tbl ∧ Cond.initialized "jdk/internal/util/Preconditions" ∈ lw_tbl := ⟨(List.mem_append_right _ (List.mem_append_right _ (List.mem_append_right _ (List.mem_append_left _ (List.mem_of_getElem? (i := 30) rfl))))), (List.mem_append_right _ (List.mem_append_left _ (List.mem_of_getElem? (i := 16) rfl)))⟩
theorem zq_w4 : ∀ q ∈ zq_sr, Cond.stringRef "MiddleSpeaks$HouseReader" q.1 q.2.1 ∈ lw_tbl ∧ zq_tm q.2.2 = .string "MiddleSpeaks$HouseReader" q.1 ∧ q.2.2 < 7 := (List.forall_mem_cons.mpr ⟨⟨(List.mem_append_right _ (List.mem_append_right _ (List.mem_append_right _ (List.mem_append_left _ (List.mem_of_getElem? (i := 0) rfl))))), rfl, by decide⟩, (List.forall_mem_cons.mpr ⟨⟨(List.mem_append_right _ (List.mem_append_right _ (List.mem_append_right _ (List.mem_append_left _ (List.mem_of_getElem? (i := 57) rfl))))), rfl, by decide⟩, (List.forall_mem_cons.mpr ⟨⟨(List.mem_append_right _ (List.mem_append_right _ (List.mem_append_right _ (List.mem_append_left _ (List.mem_of_getElem? (i := 58) rfl))))), rfl, by decide⟩, (List.forall_mem_cons.mpr ⟨⟨(List.mem_append_right _ (List.mem_append_right _ (List.mem_append_right _ (List.mem_append_left _ (List.mem_of_getElem? (i := 59) rfl))))), rfl, by decide⟩, (List.forall_mem_cons.mpr ⟨⟨(List.mem_append_right _ (List.mem_append_right _ (List.mem_append_right _ (List.mem_append_left _ (List.mem_of_getElem? (i := 64) rfl))))), rfl, by decide⟩, (List.forall_mem_cons.mpr ⟨⟨(List.mem_append_right _ (List.mem_append_right _ (List.mem_append_right _ (List.mem_append_left _ (List.mem_of_getElem? (i := 142) rfl))))), rfl, by decide⟩, (List.forall_mem_cons.mpr ⟨⟨(List.mem_append_right _ (List.mem_append_right _ (List.mem_append_right _ (List.mem_append_left _ (List.mem_of_getElem? (i := 143) rfl))))), rfl, by decide⟩, (List.forall_mem_nil _)⟩)⟩)⟩)⟩)⟩)⟩)⟩)
set_option maxHeartbeats 8000000 in
theorem zq_begin {p : Program} {s : State} {m : MethodId} {meth : Method} {c : Code} {b L : Nat} {xs : Nat → Int32} (l : Launch) (C0 : lw_At p s m meth c b L xs) : ∃ G : zq_G, G.1 = l ∧ G.2.2.1 = s.heap.size ∧ va_K G.2.1 vwCl (zq_ty G) s ∧ zq_E G (fun q => s.heap.size ≤ q) s s.heap := by
  obtain ⟨hx, hb, hr, hml, hown, hts, hX, hbl, hlocks, hgv⟩ := id C0
  have htT : ∀ w ∈ zq_T, w.before #[Value.ref b] s = true := fun w hw => hts w (List.mem_filter.mp hw).1
  have hfl : ∀ w ∈ zq_fl, w.before #[Value.ref b] s = true := flat_of_before _ hgv
  have hA : ∀ a : Nat, a < s.heap.size → ¬ (fun q : Nat => s.heap.size ≤ q) a := fun a h => Nat.not_le.mpr h
  obtain ⟨c0, i0, k0⟩ := u_known (C := RX0) (T := TX0) (N := 5) (n := 5) htT zq_hi0 (htT (.instantiable RX0 5) (zq_m2 45 rfl rfl))
  obtain ⟨c1, i1, k1⟩ := u_known (C := RX1) (T := TX1) (N := 7) (n := 7) htT zq_hi1 (htT (.instantiable RX1 7) (zq_m1 234 rfl rfl))
  obtain ⟨c2, i2, k2⟩ := u_known (C := RX2) (T := TX2) (N := 7) (n := 7) htT zq_hi2 (htT (.instantiable RX2 7) (zq_m1 120 rfl rfl))
  obtain ⟨c3, i3, k3⟩ := u_known (C := RX3) (T := TX3) (N := 4) (n := 4) htT zq_hi3 (htT (.instantiable RX3 4) (zq_m1 150 rfl rfl))
  obtain ⟨c4, i4, k4⟩ := u_known (C := RX4) (T := TX4) (N := 2) (n := 2) htT zq_hi4 (htT (.instantiable RX4 2) (zq_m2 32 rfl rfl))
  obtain ⟨c5, i5, k5⟩ := u_known (C := RX5) (T := TX5) (N := 15) (n := 15) htT zq_hi5 (htT (.instantiable RX5 15) (zq_m1 31 rfl rfl))
  obtain ⟨c6, i6, k6⟩ := u_known (C := RX6) (T := TX6) (N := 7) (n := 7) htT zq_hi6 (htT (.instantiable RX6 7) (zq_m1 171 rfl rfl))
  obtain ⟨c7, i7, k7⟩ := u_known (C := RX7) (T := TX7) (N := 3) (n := 3) htT zq_hi7 (htT (.instantiable RX7 3) (zq_m2 69 rfl rfl))
  obtain ⟨c8, i8, k8⟩ := u_known (C := RX8) (T := TX8) (N := 1) (n := 1) htT zq_hi8 (htT (.instantiable RX8 1) (zq_m2 22 rfl rfl))
  obtain ⟨c9, i9, k9⟩ := u_known (C := RX9) (T := TX9) (N := 8) (n := 8) htT zq_hi9 (htT (.instantiable RX9 8) (zq_m1 203 rfl rfl))
  obtain ⟨c10, i10, k10⟩ := u_known (C := RX10) (T := TX10) (N := 16) (n := 16) htT zq_hi10 (htT (.instantiable RX10 16) (zq_m1 23 rfl rfl))
  obtain ⟨c11, i11, k11⟩ := u_known (C := RX11) (T := TX11) (N := 67) (n := 67) htT zq_hi11 (htT (.instantiable RX11 67) (zq_m5 118 rfl rfl))
  obtain ⟨a0, a0k, a0c, a01, a02, a03⟩ := Cond.arrayClass_spec (htT (.arrayClass .int) (zq_m1 117 rfl rfl))
  obtain ⟨a1, a1k, a1c, a11, a12, a13⟩ := Cond.arrayClass_spec (htT (.arrayClass .boolean) (zq_m1 201 rfl rfl))
  obtain ⟨a2, a2k, a2c, a21, a22, a23⟩ := Cond.arrayClass_spec (htT (.arrayClass .long) (zq_m2 86 rfl rfl))
  obtain ⟨a3c, a3, a3k, a31, -, a32, a33, a34⟩ := Cond.arrayOver_spec (hts _ zq_w1.1)
  obtain ⟨a4c, a4, a4k, a41, -, a42, a43, a44⟩ := Cond.arrayOver_spec (hts _ zq_w1.2)
  obtain ⟨adK, adV, hS, hSe⟩ := vk_Sof (args := #[Value.ref b]) (s := s) (N := 7) (tm := zq_tm) (len := zq_len) (byt := zq_byt) (A := fun q => s.heap.size ≤ q) (by decide) (fun i hi => hfl _ (zq_b3 i hi)) (fun i hi => hfl _ (zq_b4 i hi)) (fun i hi => hfl _ (zq_b5 i hi)) (fun i hi => hfl _ (zq_b6 i hi)) (fun i hi j hj => hfl _ (zq_b7 i hi j hj)) (fun i j hi hj hne => (zq_b8 i hi j hj hne).imp (fun h => hfl _ h) (fun h => hfl _ h)) hA
  obtain ⟨n1, n2, n3, n4, n5, n6⟩ := zq_b9
  obtain ⟨t1, ht1, hT1⟩ := va_Tof (N := 7) (f := fun j => .int (zq_above.getD j 0)) (A := fun q => s.heap.size ≤ q) (by decide) (hfl _ n3) (va_eqt (hfl _ n4)) (fun j hj => va_eqt (hfl _ (zq_b2 j hj))) hA
  obtain ⟨t2, ht2, hT2⟩ := va_Tof (N := 21) (f := fun j => .int (zq_own.getD j 0)) (A := fun q => s.heap.size ≤ q) (by decide) (hfl _ n1) (va_eqt (hfl _ n2)) (fun j hj => va_eqt (hfl _ (zq_b1 j hj))) hA
  refine ⟨(l, (fun k => [c0, c1, c2, c3, c4, c5, c6, c7, c8, c9, c10, c11].getD k 0, fun k => [i0, i1, i2, i3, i4, i5, i6, i7, i8, i9, i10, i11].getD k i0), s.heap.size, fun k => [a0, a1, a2, a3, a4].getD k 0, t1, t2, adK, adV), rfl, rfl, ⟨?_, ?_⟩, ?_⟩
  · intro k q hq
    match k, hq with
    | 0, hq => cases hq; exact k0
    | 1, hq => cases hq; exact k1
    | 2, hq => cases hq; exact k2
    | 3, hq => cases hq; exact k3
    | 4, hq => cases hq; exact k4
    | 5, hq => cases hq; exact k5
    | 6, hq => cases hq; exact k6
    | 7, hq => cases hq; exact k7
    | 8, hq => cases hq; exact k8
    | 9, hq => cases hq; exact k9
    | 10, hq => cases hq; exact k10
    | 11, hq => cases hq; exact k11
    | k + 12, hq => simp [vwCl] at hq
  · intro k q hq
    match k, hq with
    | 0, hq => cases hq; exact ⟨fun n z => ⟨fun k h => (by cases h), a0k, a02, a0c, a03⟩, a01⟩
    | 1, hq => cases hq; exact ⟨fun n z => ⟨fun k h => (by cases h), a1k, a12, a1c, a13⟩, a11⟩
    | 2, hq => cases hq; exact ⟨fun n z => ⟨fun k h => (by cases h), a2k, a22, a2c, a23⟩, a21⟩
    | 3, hq => cases hq; exact ⟨fun n z => ⟨fun k h => (by cases h), a3k, a32, a3c, a33⟩, a3k, a3c, a32, a33, a31, a34⟩
    | 4, hq => cases hq; exact ⟨fun n z => ⟨fun k h => (by cases h), a4k, a42, a4c, a43⟩, a4k, a4c, a42, a43, a41, a44⟩
    | k + 5, hq => simp [zq_ty] at hq
  · refine ⟨fun q hq => va_Nw.of rfl (hts _ (zq_w2 q hq)), va_Nw.of rfl (hts _ zq_w3), va_AO.of (hts _ zq_w1.1), va_AO.of (hts _ zq_w1.2), fun q hq => ?_, va_Zof (hts _ zq_wl0.1) (hts _ zq_wl0.2) ht1 hA, hT1, va_Zof (hts _ zq_wl1.1) (hts _ zq_wl1.2) ht2 hA, hT2, va_Zof (hts _ zq_wl2.1) (hts _ zq_wl2.2) (va_eqi (hfl _ n5)) hA, hS, va_Zqof (hts _ zq_wl3.1) (hts _ zq_wl3.2) (hfl _ n6) hA⟩
    obtain ⟨g1, g2, g3⟩ := zq_w4 q hq
    exact vk_R.of (hts _ g1) (by rw [← g2]; exact hSe _ g3)
