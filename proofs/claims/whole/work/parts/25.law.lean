def zq_op_person (N : Nat) (I : Nat → Nat → zq_M → zq_M → Prop) : Prop := ∀ (q j : Nat) (X M : zq_M) (a1 : Int32) (a2 : Int32) (a3 : Int32), q < 512 → I q j X M → ∃ (r : Int32) (X1 : zq_M) (M1 : zq_M), f_X10_person N j X a1 a2 a3 = some (r, X1) ∧ f_X11_person N M a1 a2 a3 = some (r, M1) ∧ I (q + 1) j X1 M1
def zq_op_of (N : Nat) (I : Nat → Nat → zq_M → zq_M → Prop) : Prop := ∀ (q j : Nat) (X M : zq_M) (a1 : Int32) (a2 : Int32), q < 512 → I q j X M → ∃ (r : Int32) (X1 : zq_M) (M1 : zq_M), f_X10_of N j X a1 a2 = some (r, X1) ∧ f_X11_of N M a1 a2 = some (r, M1) ∧ I (q + 1) j X1 M1
def zq_op_learn (N : Nat) (I : Nat → Nat → zq_M → zq_M → Prop) : Prop := ∀ (q j : Nat) (X M : zq_M) (a1 : Int32) (a2 : Int32), q < 512 → I q j X M → ∃ (r : Int32) (X1 : zq_M) (M1 : zq_M), f_X10_learn N j X a1 a2 = some (r, X1) ∧ f_X11_learn N M a1 a2 = some (r, M1) ∧ I (q + 1) j X1 M1
def zq_op_room (N : Nat) (I : Nat → Nat → zq_M → zq_M → Prop) : Prop := ∀ (q j : Nat) (X M : zq_M) (a1 : Int32) (a2 : Int32) (a3 : Int32), q < 512 → I q j X M → ∃ (r : Int32) (X1 : zq_M) (M1 : zq_M), f_X10_room N j X a1 a2 a3 = some (r, X1) ∧ f_X11_room N M a1 a2 a3 = some (r, M1) ∧ I (q + 1) j X1 M1
def zq_op_inside (N : Nat) (I : Nat → Nat → zq_M → zq_M → Prop) : Prop := ∀ (q j : Nat) (X M : zq_M) (a1 : Int32) (a2 : Int32), q < 512 → I q j X M → ∃ (r : Int32) (X1 : zq_M) (M1 : zq_M), f_X10_inside N j X a1 a2 = some (r, X1) ∧ f_X11_inside N M a1 a2 = some (r, M1) ∧ I (q + 1) j X1 M1
def zq_op_feed (N : Nat) (I : Nat → Nat → zq_M → zq_M → Prop) : Prop := ∀ (q j : Nat) (X M : zq_M) (a1 : Int32), q < 512 → I q j X M → ∃ (r : Int32) (X1 : zq_M) (M1 : zq_M), f_X10_feed N j X a1 = some (r, X1) ∧ f_X11_feed N M a1 = some (r, M1) ∧ I (q + 1) j X1 M1
def zq_op_house (N : Nat) (I : Nat → Nat → zq_M → zq_M → Prop) : Prop := ∀ (q j : Nat) (X M : zq_M) , q < 512 → I q j X M → ∃ (r : Int32) (X1 : zq_M) (M1 : zq_M), f_X10_house N j X = some (r, X1) ∧ f_X11_house N M = some (r, M1) ∧ I (q + 1) j X1 M1
def zq_op_told (N : Nat) (I : Nat → Nat → zq_M → zq_M → Prop) : Prop := ∀ (q j : Nat) (X M : zq_M) (a1 : Int32), q < 512 → I q j X M → ∃ (r : Int32), f_X10_told N j X a1 = some r ∧ f_X11_told N M a1 = some r ∧ I (q + 1) j X M
def zq_op_coming (N : Nat) (I : Nat → Nat → zq_M → zq_M → Prop) : Prop := ∀ (q j : Nat) (X M : zq_M) (a1 : Int32) (a2 : Int32) (a3 : Int32), q < 512 → I q j X M → ∃ (r : Int32) (X1 : zq_M) (M1 : zq_M), f_X10_coming N j X a1 a2 a3 = some (r, X1) ∧ f_X11_coming N M a1 a2 a3 = some (r, M1) ∧ I (q + 1) j X1 M1
def zq_op_come (N : Nat) (I : Nat → Nat → zq_M → zq_M → Prop) : Prop := ∀ (q j : Nat) (X M : zq_M) (a1 : Int32) (a2 : Int32), q < 512 → I q j X M → ∃ (r : Int32) (X1 : zq_M) (M1 : zq_M), f_X10_come N j X a1 a2 = some (r, X1) ∧ f_X11_come N M a1 a2 = some (r, M1) ∧ I (q + 1) j X1 M1
def zq_op_say (N : Nat) (I : Nat → Nat → zq_M → zq_M → Prop) : Prop := ∀ (q j : Nat) (X M : zq_M) (a1 : Int32) (a2 : Int32), q < 512 → I q j X M → ∃ (r : Int32) (X1 : zq_M) (M1 : zq_M), f_X10_say N j X a1 a2 = some (r, X1) ∧ f_X11_say N M a1 a2 = some (r, M1) ∧ I (q + 1) j X1 M1
def zq_op_soonest (N : Nat) (I : Nat → Nat → zq_M → zq_M → Prop) : Prop := ∀ (q j : Nat) (X M : zq_M) (a1 : Int32) (a2 : Int32) (a3 : Int32), q < 512 → I q j X M → ∃ (r : Int32) (X1 : zq_M) (M1 : zq_M), f_X10_soonest N j X a1 a2 a3 = some (r, X1) ∧ f_X11_soonest N M a1 a2 a3 = some (r, M1) ∧ I (q + 1) j X1 M1
def zq_op_cheapest (N : Nat) (I : Nat → Nat → zq_M → zq_M → Prop) : Prop := ∀ (q j : Nat) (X M : zq_M) (a1 : Int32) (a2 : Int32) (a3 : Int32), q < 512 → I q j X M → ∃ (r : Int32) (X1 : zq_M) (M1 : zq_M), f_X10_cheapest N j X a1 a2 a3 = some (r, X1) ∧ f_X11_cheapest N M a1 a2 a3 = some (r, M1) ∧ I (q + 1) j X1 M1
def zq_op_never (N : Nat) (I : Nat → Nat → zq_M → zq_M → Prop) : Prop := ∀ (q j : Nat) (X M : zq_M) (a1 : Int32), q < 512 → I q j X M → ∃ (r : Int32) (X1 : zq_M) (M1 : zq_M), f_X10_never N j X a1 = some (r, X1) ∧ f_X11_never N M a1 = some (r, M1) ∧ I (q + 1) j X1 M1
def zq_op_heard (N : Nat) (I : Nat → Nat → zq_M → zq_M → Prop) : Prop := ∀ (q j : Nat) (X M : zq_M) (a1 : Int32), q < 512 → I q j X M → ∃ (r : Int32) (X1 : zq_M) (M1 : zq_M), f_X10_heard N j X a1 = some (r, X1) ∧ f_X11_heard N M a1 = some (r, M1) ∧ I (q + 1) j X1 M1
def zq_op_secret (N : Nat) (I : Nat → Nat → zq_M → zq_M → Prop) : Prop := ∀ (q j : Nat) (X M : zq_M) (a1 : Int32) (a2 : Int32) (a3 : Int32), q < 512 → I q j X M → ∃ (r : Int32) (X1 : zq_M) (M1 : zq_M), f_X10_secret N j X a1 a2 a3 = some (r, X1) ∧ f_X11_secret N M a1 a2 a3 = some (r, M1) ∧ I (q + 1) j X1 M1
def zq_op_game (N : Nat) (I : Nat → Nat → zq_M → zq_M → Prop) : Prop := ∀ (q j : Nat) (X M : zq_M) (a1 : Int32) (a2 : Int32) (a3 : Int32), q < 512 → I q j X M → ∃ (r : Int32) (X1 : zq_M) (M1 : zq_M), f_X10_game N j X a1 a2 a3 = some (r, X1) ∧ f_X11_game N M a1 a2 a3 = some (r, M1) ∧ I (q + 1) j X1 M1
def zq_op_votes (N : Nat) (I : Nat → Nat → zq_M → zq_M → Prop) : Prop := ∀ (q j : Nat) (X M : zq_M) (a1 : Int32) (a2 : Int32), q < 512 → I q j X M → ∃ (r : Int32), f_X10_votes N j X a1 a2 = some r ∧ f_X11_votes N M a1 a2 = some r ∧ I (q + 1) j X M
def zq_op_spoken (N : Nat) (I : Nat → Nat → zq_M → zq_M → Prop) : Prop := ∀ (q j : Nat) (X M : zq_M) (a1 : Int32) (a2 : Int32), q < 512 → I q j X M → ∃ (r : Int32) (X1 : zq_M) (M1 : zq_M), f_X10_spoken N j X a1 a2 = some (r, X1) ∧ f_X11_spoken N M a1 a2 = some (r, M1) ∧ I (q + 1) j X1 M1
def zq_op_fits (N : Nat) (I : Nat → Nat → zq_M → zq_M → Prop) : Prop := ∀ (q j : Nat) (X M : zq_M) , q < 512 → I q j X M → ∃ (r : Int32) (X1 : zq_M) (M1 : zq_M), f_X10_fits N j X = some (r, X1) ∧ f_X11_fits N M = some (r, M1) ∧ I (q + 1) j X1 M1
def zq_op_lot (N : Nat) (I : Nat → Nat → zq_M → zq_M → Prop) : Prop := ∀ (q j : Nat) (X M : zq_M) (a1 : Int32) (a2 : Int32) (a3 : Int32), q < 512 → I q j X M → ∃ (r : Int64) (X1 : zq_M) (M1 : zq_M), f_X10_lot N j X a1 a2 a3 = some (r, X1) ∧ f_X11_lot N M a1 a2 a3 = some (r, M1) ∧ I (q + 1) j X1 M1
def zq_op_book (N : Nat) (I : Nat → Nat → zq_M → zq_M → Prop) : Prop := ∀ (q j : Nat) (X M : zq_M) (a1 : Int32), q < 512 → I q j X M → ∃ (r : Int32) (X1 : zq_M) (M1 : zq_M), f_X10_book N j X a1 = some (r, X1) ∧ f_X11_book N M a1 = some (r, M1) ∧ I (q + 1) j X1 M1
def zq_op_readBook (N : Nat) (I : Nat → Nat → zq_M → zq_M → Prop) : Prop := ∀ (q j : Nat) (X M : zq_M) , q < 512 → I q j X M → ∃ (r : Int32) (X1 : zq_M) (M1 : zq_M), f_X10_readBook N j X = some (r, X1) ∧ f_X11_readBook N M = some (r, M1) ∧ I (q + 1) j X1 M1
def zq_op_judge (N : Nat) (I : Nat → Nat → zq_M → zq_M → Prop) : Prop := ∀ (q j : Nat) (X M : zq_M) (a1 : Int32) (a2 : Int32), q < 512 → I q j X M → ∃ (r : Int32), f_X10_judge N j X a1 a2 = some r ∧ f_X11_judge N M a1 a2 = some r ∧ I (q + 1) j X M
def zq_op_image (N : Nat) (I : Nat → Nat → zq_M → zq_M → Prop) : Prop := ∀ (q j : Nat) (X M : zq_M) , q < 512 → I q j X M → ∃ (r : Int32) (X1 : zq_M) (M1 : zq_M), f_X10_image N j X = some (r, X1) ∧ f_X11_image N M = some (r, M1) ∧ I (q + 1) j X1 M1
def zq_op_undo (N : Nat) (I : Nat → Nat → zq_M → zq_M → Prop) : Prop := ∀ (q j : Nat) (X M : zq_M) , q < 512 → I q j X M → ∃ (r : Int32) (X1 : zq_M) (M1 : zq_M), f_X10_undo N j X = some (r, X1) ∧ f_X11_undo N M = some (r, M1) ∧ I (q + 1) j X1 M1
def zq_op_act (N : Nat) (I : Nat → Nat → zq_M → zq_M → Prop) : Prop := ∀ (q j : Nat) (X M : zq_M) (a1 : Int32) (a2 : Int32) (a3 : Int32), q < 512 → I q j X M → ∃ (r : Int32) (X1 : zq_M) (M1 : zq_M), f_X10_act N j X a1 a2 a3 = some (r, X1) ∧ f_X11_act N M a1 a2 a3 = some (r, M1) ∧ I (q + 1) j X1 M1
def zq_op_trace (N : Nat) (I : Nat → Nat → zq_M → zq_M → Prop) : Prop := ∀ (q j : Nat) (X M : zq_M) (a1 : Int32), q < 512 → I q j X M → ∃ (r : Int32), f_X10_trace N j X a1 = some r ∧ f_X11_trace N M a1 = some r ∧ I (q + 1) j X M
def zq_op_taken (N : Nat) (I : Nat → Nat → zq_M → zq_M → Prop) : Prop := ∀ (q j : Nat) (X M : zq_M) (a1 : Int32) (a2 : Int32), q < 512 → I q j X M → ∃ (r : Int32), f_X10_taken N j X a1 a2 = some r ∧ f_X11_taken N M a1 a2 = some r ∧ I (q + 1) j X M
def zq_op_count (N : Nat) (I : Nat → Nat → zq_M → zq_M → Prop) : Prop := ∀ (q j : Nat) (X M : zq_M) (a1 : Int32), q < 512 → I q j X M → ∃ (r : Int32), f_X10_count N j X a1 = some r ∧ f_X11_count N M a1 = some r ∧ I (q + 1) j X M
def zq_op_tape (N : Nat) (I : Nat → Nat → zq_M → zq_M → Prop) : Prop := ∀ (q j : Nat) (X M : zq_M) (a1 : Int32) (a2 : Int32) (a3 : Int32), q < 512 → I q j X M → ∃ (r : Int32) (X1 : zq_M) (M1 : zq_M), f_X10_tape N j X a1 a2 a3 = some (r, X1) ∧ f_X11_tape N M a1 a2 a3 = some (r, M1) ∧ I (q + 1) j X1 M1
def zq_op_item (N : Nat) (I : Nat → Nat → zq_M → zq_M → Prop) : Prop := ∀ (q j : Nat) (X M : zq_M) (a1 : Int32) (a2 : Int32) (a3 : Int64), q < 512 → I q j X M → ∃ (r : Int32) (X1 : zq_M) (M1 : zq_M), f_X10_item N j X a1 a2 a3 = some (r, X1) ∧ f_X11_item N M a1 a2 a3 = some (r, M1) ∧ I (q + 1) j X1 M1
def zq_op_read (N : Nat) (I : Nat → Nat → zq_M → zq_M → Prop) : Prop := ∀ (q j : Nat) (X M : zq_M) (a1 : Int32) (a2 : Int32), q < 512 → I q j X M → ∃ (r : Int64), f_X10_read N j X a1 a2 = some r ∧ f_X11_read N M a1 a2 = some r ∧ I (q + 1) j X M
def zq_op_shift (N : Nat) (I : Nat → Nat → zq_M → zq_M → Prop) : Prop := ∀ (q j : Nat) (X M : zq_M) (a1 : Int32) (a2 : Int32) (a3 : Int32) (a4 : Int32) (a5 : Int32), q < 512 → I q j X M → ∃ (r : Int32) (X1 : zq_M) (M1 : zq_M), f_X10_shift N j X a1 a2 a3 a4 a5 = some (r, X1) ∧ f_X11_shift N M a1 a2 a3 a4 a5 = some (r, M1) ∧ I (q + 1) j X1 M1
def zq_ini (I : Nat → Nat → zq_M → zq_M → Prop) : Prop := ∃ X1 M1 : zq_M, f_X10_init (zq_z (fun _ _ => 0, fun _ _ => 0, fun _ _ => none) 0) = some X1 ∧ f_X11_init (zq_z (fun _ _ => 0, fun _ _ => 0, fun _ _ => none) 69) = some M1 ∧ I 0 6 X1 M1
def zq_idle (I : Nat → Nat → zq_M → zq_M → Prop) : Prop := ∀ (q j : Nat) (X M : zq_M), I q j X M → I (q + 1) j X M
def zq_ok (N : Nat) (I : Nat → Nat → zq_M → zq_M → Prop) : Prop := zq_ini I ∧ zq_idle I ∧ zq_op_person N I ∧ zq_op_of N I ∧ zq_op_learn N I ∧ zq_op_room N I ∧ zq_op_inside N I ∧ zq_op_feed N I ∧ zq_op_house N I ∧ zq_op_told N I ∧ zq_op_coming N I ∧ zq_op_come N I ∧ zq_op_say N I ∧ zq_op_soonest N I ∧ zq_op_cheapest N I ∧ zq_op_never N I ∧ zq_op_heard N I ∧ zq_op_secret N I ∧ zq_op_game N I ∧ zq_op_votes N I ∧ zq_op_spoken N I ∧ zq_op_fits N I ∧ zq_op_lot N I ∧ zq_op_book N I ∧ zq_op_readBook N I ∧ zq_op_judge N I ∧ zq_op_image N I ∧ zq_op_undo N I ∧ zq_op_act N I ∧ zq_op_trace N I ∧ zq_op_taken N I ∧ zq_op_count N I ∧ zq_op_tape N I ∧ zq_op_item N I ∧ zq_op_read N I ∧ zq_op_shift N I
theorem zq_dmx (j : Nat) : zq_dis zq_shM (zq_shX j) := by
  intro d x y h1 h2
  unfold zq_shM at h1
  unfold zq_shX at h2
  by_cases h : d < 69
  · rw [if_pos h] at h1
    cases h1
  · rw [if_neg h] at h1 h2
    have h3 : d - 69 < zq_lM.length := (List.getElem?_eq_some_iff.mp h1).1
    have h4 : zq_lM.length = 42 := rfl
    rw [if_pos (by omega)] at h2
    cases h2
theorem zq_dxm (j : Nat) : zq_dis (zq_shX j) zq_shM := fun d x y h1 h2 => zq_dmx j d y x h2 h1
theorem zj_wid {p : Program} {e : Env} {s : State} {m : MethodId} {below : List Frame} {meth : Method} {c : Code} {b : Nat} {G : zq_G} {kc kn kc2 kn2 pc : Nat} {lo : List (Nat × Value)} {st : List Value} {shx shm : zq_H} {X M : zq_M} {z : Nat} (h1 : kc ≤ kc2) (h2 : kn ≤ kn2) (K : zq_J p e s m below meth c b G kc2 kn2 pc lo st shx X shm M z) : zq_J p e s m below meth c b G kc kn pc lo st shx X shm M z := by
  intro H locs ls hz hS hX hM hl
  exact W.widen h1 h2 (K H locs ls hz hS hX hM hl)

def tLH : List (Nat × Instr × Nat) := [(0, .new 7, 3), (3, .dup, 1), (4, .invokespecial 9, 3), (7, .astore_n 1, 1), (8, .new 10, 3), (11, .dup, 1), (12, .invokespecial 12, 3), (15, .astore_n 2, 1), (16, .iconst 0, 1), (17, .istore_n 3, 1), (18, .iload_n 3, 1), (19, .aload_n 0, 1), (20, .arraylength, 1), (21, .bipush 6, 2), (23, .isub, 1), (24, .if_icmp .gt 1290, 3), (27, .aload_n 0, 1), (28, .iload_n 3, 1), (29, .iaload, 1), (30, .bipush 63, 2), (32, .iand, 1), (33, .tableswitch 1275 0 33 #[151, 194, 227, 260, 303, 336, 359, 372, 395, 438, 471, 504, 547, 590, 613, 636, 679, 722, 755, 788, 801, 845, 868, 881, 914, 927, 940, 983, 1006, 1039, 1062, 1105, 1178, 1212], 151)]
set_option maxRecDepth 20000 in
theorem eLH : zq_dec tLH code := by unfold zq_dec; decide +kernel
def tL0 : List (Nat × Instr × Nat) := [(184, .aload_n 1, 1), (185, .aload_n 0, 1), (186, .iload_n 3, 1), (187, .iconst 1, 1), (188, .iadd, 1), (189, .iaload, 1), (190, .aload_n 0, 1), (191, .iload_n 3, 1), (192, .iconst 2, 1), (193, .iadd, 1), (194, .iaload, 1), (195, .aload_n 0, 1), (196, .iload_n 3, 1), (197, .iconst 3, 1), (198, .iadd, 1), (199, .iaload, 1), (200, .invokevirtual 13, 3), (203, .aload_n 2, 1), (204, .aload_n 0, 1), (205, .iload_n 3, 1), (206, .iconst 1, 1), (207, .iadd, 1), (208, .iaload, 1), (209, .aload_n 0, 1), (210, .iload_n 3, 1), (211, .iconst 2, 1), (212, .iadd, 1), (213, .iaload, 1), (214, .aload_n 0, 1), (215, .iload_n 3, 1), (216, .iconst 3, 1), (217, .iadd, 1), (218, .iaload, 1), (219, .invokevirtual 17, 3), (222, .if_icmp .eq 1086, 3), (225, .iconst 0, 1), (226, .ireturn, 1)]
set_option maxRecDepth 20000 in
theorem eL0 : zq_dec tL0 code := by unfold zq_dec; decide +kernel
def tL1 : List (Nat × Instr × Nat) := [(227, .aload_n 1, 1), (228, .aload_n 0, 1), (229, .iload_n 3, 1), (230, .iconst 1, 1), (231, .iadd, 1), (232, .iaload, 1), (233, .aload_n 0, 1), (234, .iload_n 3, 1), (235, .iconst 2, 1), (236, .iadd, 1), (237, .iaload, 1), (238, .invokevirtual 18, 3), (241, .aload_n 2, 1), (242, .aload_n 0, 1), (243, .iload_n 3, 1), (244, .iconst 1, 1), (245, .iadd, 1), (246, .iaload, 1), (247, .aload_n 0, 1), (248, .iload_n 3, 1), (249, .iconst 2, 1), (250, .iadd, 1), (251, .iaload, 1), (252, .invokevirtual 22, 3), (255, .if_icmp .eq 1053, 3), (258, .iconst 0, 1), (259, .ireturn, 1)]
set_option maxRecDepth 20000 in
theorem eL1 : zq_dec tL1 code := by unfold zq_dec; decide +kernel
def tL2 : List (Nat × Instr × Nat) := [(260, .aload_n 1, 1), (261, .aload_n 0, 1), (262, .iload_n 3, 1), (263, .iconst 1, 1), (264, .iadd, 1), (265, .iaload, 1), (266, .aload_n 0, 1), (267, .iload_n 3, 1), (268, .iconst 2, 1), (269, .iadd, 1), (270, .iaload, 1), (271, .invokevirtual 23, 3), (274, .aload_n 2, 1), (275, .aload_n 0, 1), (276, .iload_n 3, 1), (277, .iconst 1, 1), (278, .iadd, 1), (279, .iaload, 1), (280, .aload_n 0, 1), (281, .iload_n 3, 1), (282, .iconst 2, 1), (283, .iadd, 1), (284, .iaload, 1), (285, .invokevirtual 26, 3), (288, .if_icmp .eq 1020, 3), (291, .iconst 0, 1), (292, .ireturn, 1)]
set_option maxRecDepth 20000 in
theorem eL2 : zq_dec tL2 code := by unfold zq_dec; decide +kernel
def tL3 : List (Nat × Instr × Nat) := [(293, .aload_n 1, 1), (294, .aload_n 0, 1), (295, .iload_n 3, 1), (296, .iconst 1, 1), (297, .iadd, 1), (298, .iaload, 1), (299, .aload_n 0, 1), (300, .iload_n 3, 1), (301, .iconst 2, 1), (302, .iadd, 1), (303, .iaload, 1), (304, .aload_n 0, 1), (305, .iload_n 3, 1), (306, .iconst 3, 1), (307, .iadd, 1), (308, .iaload, 1), (309, .invokevirtual 27, 3), (312, .aload_n 2, 1), (313, .aload_n 0, 1), (314, .iload_n 3, 1), (315, .iconst 1, 1), (316, .iadd, 1), (317, .iaload, 1), (318, .aload_n 0, 1), (319, .iload_n 3, 1), (320, .iconst 2, 1), (321, .iadd, 1), (322, .iaload, 1), (323, .aload_n 0, 1), (324, .iload_n 3, 1), (325, .iconst 3, 1), (326, .iadd, 1), (327, .iaload, 1), (328, .invokevirtual 30, 3), (331, .if_icmp .eq 977, 3), (334, .iconst 0, 1), (335, .ireturn, 1)]
set_option maxRecDepth 20000 in
theorem eL3 : zq_dec tL3 code := by unfold zq_dec; decide +kernel
def tL4 : List (Nat × Instr × Nat) := [(336, .aload_n 1, 1), (337, .aload_n 0, 1), (338, .iload_n 3, 1), (339, .iconst 1, 1), (340, .iadd, 1), (341, .iaload, 1), (342, .aload_n 0, 1), (343, .iload_n 3, 1), (344, .iconst 2, 1), (345, .iadd, 1), (346, .iaload, 1), (347, .invokevirtual 31, 3), (350, .aload_n 2, 1), (351, .aload_n 0, 1), (352, .iload_n 3, 1), (353, .iconst 1, 1), (354, .iadd, 1), (355, .iaload, 1), (356, .aload_n 0, 1), (357, .iload_n 3, 1), (358, .iconst 2, 1), (359, .iadd, 1), (360, .iaload, 1), (361, .invokevirtual 34, 3), (364, .if_icmp .eq 944, 3), (367, .iconst 0, 1), (368, .ireturn, 1)]
set_option maxRecDepth 20000 in
theorem eL4 : zq_dec tL4 code := by unfold zq_dec; decide +kernel
def tL5 : List (Nat × Instr × Nat) := [(369, .aload_n 1, 1), (370, .aload_n 0, 1), (371, .iload_n 3, 1), (372, .iconst 1, 1), (373, .iadd, 1), (374, .iaload, 1), (375, .invokevirtual 35, 3), (378, .aload_n 2, 1), (379, .aload_n 0, 1), (380, .iload_n 3, 1), (381, .iconst 1, 1), (382, .iadd, 1), (383, .iaload, 1), (384, .invokevirtual 39, 3), (387, .if_icmp .eq 921, 3), (390, .iconst 0, 1), (391, .ireturn, 1)]
set_option maxRecDepth 20000 in
theorem eL5 : zq_dec tL5 code := by unfold zq_dec; decide +kernel
def tL6 : List (Nat × Instr × Nat) := [(392, .aload_n 1, 1), (393, .invokevirtual 40, 3), (396, .aload_n 2, 1), (397, .invokevirtual 44, 3), (400, .if_icmp .eq 908, 3), (403, .iconst 0, 1), (404, .ireturn, 1)]
set_option maxRecDepth 20000 in
theorem eL6 : zq_dec tL6 code := by unfold zq_dec; decide +kernel
def tL7 : List (Nat × Instr × Nat) := [(405, .aload_n 1, 1), (406, .aload_n 0, 1), (407, .iload_n 3, 1), (408, .iconst 1, 1), (409, .iadd, 1), (410, .iaload, 1), (411, .invokevirtual 45, 3), (414, .aload_n 2, 1), (415, .aload_n 0, 1), (416, .iload_n 3, 1), (417, .iconst 1, 1), (418, .iadd, 1), (419, .iaload, 1), (420, .invokevirtual 48, 3), (423, .if_icmp .eq 885, 3), (426, .iconst 0, 1), (427, .ireturn, 1)]
set_option maxRecDepth 20000 in
theorem eL7 : zq_dec tL7 code := by unfold zq_dec; decide +kernel
def tL8 : List (Nat × Instr × Nat) := [(428, .aload_n 1, 1), (429, .aload_n 0, 1), (430, .iload_n 3, 1), (431, .iconst 1, 1), (432, .iadd, 1), (433, .iaload, 1), (434, .aload_n 0, 1), (435, .iload_n 3, 1), (436, .iconst 2, 1), (437, .iadd, 1), (438, .iaload, 1), (439, .aload_n 0, 1), (440, .iload_n 3, 1), (441, .iconst 3, 1), (442, .iadd, 1), (443, .iaload, 1), (444, .invokevirtual 49, 3), (447, .aload_n 2, 1), (448, .aload_n 0, 1), (449, .iload_n 3, 1), (450, .iconst 1, 1), (451, .iadd, 1), (452, .iaload, 1), (453, .aload_n 0, 1), (454, .iload_n 3, 1), (455, .iconst 2, 1), (456, .iadd, 1), (457, .iaload, 1), (458, .aload_n 0, 1), (459, .iload_n 3, 1), (460, .iconst 3, 1), (461, .iadd, 1), (462, .iaload, 1), (463, .invokevirtual 52, 3), (466, .if_icmp .eq 842, 3), (469, .iconst 0, 1), (470, .ireturn, 1)]
set_option maxRecDepth 20000 in
theorem eL8 : zq_dec tL8 code := by unfold zq_dec; decide +kernel
def tL9 : List (Nat × Instr × Nat) := [(471, .aload_n 1, 1), (472, .aload_n 0, 1), (473, .iload_n 3, 1), (474, .iconst 1, 1), (475, .iadd, 1), (476, .iaload, 1), (477, .aload_n 0, 1), (478, .iload_n 3, 1), (479, .iconst 2, 1), (480, .iadd, 1), (481, .iaload, 1), (482, .invokevirtual 53, 3), (485, .aload_n 2, 1), (486, .aload_n 0, 1), (487, .iload_n 3, 1), (488, .iconst 1, 1), (489, .iadd, 1), (490, .iaload, 1), (491, .aload_n 0, 1), (492, .iload_n 3, 1), (493, .iconst 2, 1), (494, .iadd, 1), (495, .iaload, 1), (496, .invokevirtual 56, 3), (499, .if_icmp .eq 809, 3), (502, .iconst 0, 1), (503, .ireturn, 1)]
set_option maxRecDepth 20000 in
theorem eL9 : zq_dec tL9 code := by unfold zq_dec; decide +kernel
def tL10 : List (Nat × Instr × Nat) := [(504, .aload_n 1, 1), (505, .aload_n 0, 1), (506, .iload_n 3, 1), (507, .iconst 1, 1), (508, .iadd, 1), (509, .iaload, 1), (510, .aload_n 0, 1), (511, .iload_n 3, 1), (512, .iconst 2, 1), (513, .iadd, 1), (514, .iaload, 1), (515, .invokevirtual 57, 3), (518, .aload_n 2, 1), (519, .aload_n 0, 1), (520, .iload_n 3, 1), (521, .iconst 1, 1), (522, .iadd, 1), (523, .iaload, 1), (524, .aload_n 0, 1), (525, .iload_n 3, 1), (526, .iconst 2, 1), (527, .iadd, 1), (528, .iaload, 1), (529, .invokevirtual 60, 3), (532, .if_icmp .eq 776, 3), (535, .iconst 0, 1), (536, .ireturn, 1)]
set_option maxRecDepth 20000 in
theorem eL10 : zq_dec tL10 code := by unfold zq_dec; decide +kernel
def tL11 : List (Nat × Instr × Nat) := [(537, .aload_n 1, 1), (538, .aload_n 0, 1), (539, .iload_n 3, 1), (540, .iconst 1, 1), (541, .iadd, 1), (542, .iaload, 1), (543, .aload_n 0, 1), (544, .iload_n 3, 1), (545, .iconst 2, 1), (546, .iadd, 1), (547, .iaload, 1), (548, .aload_n 0, 1), (549, .iload_n 3, 1), (550, .iconst 3, 1), (551, .iadd, 1), (552, .iaload, 1), (553, .invokevirtual 61, 3), (556, .aload_n 2, 1), (557, .aload_n 0, 1), (558, .iload_n 3, 1), (559, .iconst 1, 1), (560, .iadd, 1), (561, .iaload, 1), (562, .aload_n 0, 1), (563, .iload_n 3, 1), (564, .iconst 2, 1), (565, .iadd, 1), (566, .iaload, 1), (567, .aload_n 0, 1), (568, .iload_n 3, 1), (569, .iconst 3, 1), (570, .iadd, 1), (571, .iaload, 1), (572, .invokevirtual 64, 3), (575, .if_icmp .eq 733, 3), (578, .iconst 0, 1), (579, .ireturn, 1)]
set_option maxRecDepth 20000 in
theorem eL11 : zq_dec tL11 code := by unfold zq_dec; decide +kernel
def tL12 : List (Nat × Instr × Nat) := [(580, .aload_n 1, 1), (581, .aload_n 0, 1), (582, .iload_n 3, 1), (583, .iconst 1, 1), (584, .iadd, 1), (585, .iaload, 1), (586, .aload_n 0, 1), (587, .iload_n 3, 1), (588, .iconst 2, 1), (589, .iadd, 1), (590, .iaload, 1), (591, .aload_n 0, 1), (592, .iload_n 3, 1), (593, .iconst 3, 1), (594, .iadd, 1), (595, .iaload, 1), (596, .invokevirtual 65, 3), (599, .aload_n 2, 1), (600, .aload_n 0, 1), (601, .iload_n 3, 1), (602, .iconst 1, 1), (603, .iadd, 1), (604, .iaload, 1), (605, .aload_n 0, 1), (606, .iload_n 3, 1), (607, .iconst 2, 1), (608, .iadd, 1), (609, .iaload, 1), (610, .aload_n 0, 1), (611, .iload_n 3, 1), (612, .iconst 3, 1), (613, .iadd, 1), (614, .iaload, 1), (615, .invokevirtual 68, 3), (618, .if_icmp .eq 690, 3), (621, .iconst 0, 1), (622, .ireturn, 1)]
set_option maxRecDepth 20000 in
theorem eL12 : zq_dec tL12 code := by unfold zq_dec; decide +kernel
def tL13 : List (Nat × Instr × Nat) := [(623, .aload_n 1, 1), (624, .aload_n 0, 1), (625, .iload_n 3, 1), (626, .iconst 1, 1), (627, .iadd, 1), (628, .iaload, 1), (629, .invokevirtual 69, 3), (632, .aload_n 2, 1), (633, .aload_n 0, 1), (634, .iload_n 3, 1), (635, .iconst 1, 1), (636, .iadd, 1), (637, .iaload, 1), (638, .invokevirtual 72, 3), (641, .if_icmp .eq 667, 3), (644, .iconst 0, 1), (645, .ireturn, 1)]
set_option maxRecDepth 20000 in
theorem eL13 : zq_dec tL13 code := by unfold zq_dec; decide +kernel
def tL14 : List (Nat × Instr × Nat) := [(646, .aload_n 1, 1), (647, .aload_n 0, 1), (648, .iload_n 3, 1), (649, .iconst 1, 1), (650, .iadd, 1), (651, .iaload, 1), (652, .invokevirtual 73, 3), (655, .aload_n 2, 1), (656, .aload_n 0, 1), (657, .iload_n 3, 1), (658, .iconst 1, 1), (659, .iadd, 1), (660, .iaload, 1), (661, .invokevirtual 76, 3), (664, .if_icmp .eq 644, 3), (667, .iconst 0, 1), (668, .ireturn, 1)]
set_option maxRecDepth 20000 in
theorem eL14 : zq_dec tL14 code := by unfold zq_dec; decide +kernel
def tL15 : List (Nat × Instr × Nat) := [(669, .aload_n 1, 1), (670, .aload_n 0, 1), (671, .iload_n 3, 1), (672, .iconst 1, 1), (673, .iadd, 1), (674, .iaload, 1), (675, .aload_n 0, 1), (676, .iload_n 3, 1), (677, .iconst 2, 1), (678, .iadd, 1), (679, .iaload, 1), (680, .aload_n 0, 1), (681, .iload_n 3, 1), (682, .iconst 3, 1), (683, .iadd, 1), (684, .iaload, 1), (685, .invokevirtual 77, 3), (688, .aload_n 2, 1), (689, .aload_n 0, 1), (690, .iload_n 3, 1), (691, .iconst 1, 1), (692, .iadd, 1), (693, .iaload, 1), (694, .aload_n 0, 1), (695, .iload_n 3, 1), (696, .iconst 2, 1), (697, .iadd, 1), (698, .iaload, 1), (699, .aload_n 0, 1), (700, .iload_n 3, 1), (701, .iconst 3, 1), (702, .iadd, 1), (703, .iaload, 1), (704, .invokevirtual 80, 3), (707, .if_icmp .eq 601, 3), (710, .iconst 0, 1), (711, .ireturn, 1)]
set_option maxRecDepth 20000 in
theorem eL15 : zq_dec tL15 code := by unfold zq_dec; decide +kernel
def tL16 : List (Nat × Instr × Nat) := [(712, .aload_n 1, 1), (713, .aload_n 0, 1), (714, .iload_n 3, 1), (715, .iconst 1, 1), (716, .iadd, 1), (717, .iaload, 1), (718, .aload_n 0, 1), (719, .iload_n 3, 1), (720, .iconst 2, 1), (721, .iadd, 1), (722, .iaload, 1), (723, .aload_n 0, 1), (724, .iload_n 3, 1), (725, .iconst 3, 1), (726, .iadd, 1), (727, .iaload, 1), (728, .invokevirtual 81, 3), (731, .aload_n 2, 1), (732, .aload_n 0, 1), (733, .iload_n 3, 1), (734, .iconst 1, 1), (735, .iadd, 1), (736, .iaload, 1), (737, .aload_n 0, 1), (738, .iload_n 3, 1), (739, .iconst 2, 1), (740, .iadd, 1), (741, .iaload, 1), (742, .aload_n 0, 1), (743, .iload_n 3, 1), (744, .iconst 3, 1), (745, .iadd, 1), (746, .iaload, 1), (747, .invokevirtual 84, 3), (750, .if_icmp .eq 558, 3), (753, .iconst 0, 1), (754, .ireturn, 1)]
set_option maxRecDepth 20000 in
theorem eL16 : zq_dec tL16 code := by unfold zq_dec; decide +kernel
def tL17 : List (Nat × Instr × Nat) := [(755, .aload_n 1, 1), (756, .aload_n 0, 1), (757, .iload_n 3, 1), (758, .iconst 1, 1), (759, .iadd, 1), (760, .iaload, 1), (761, .aload_n 0, 1), (762, .iload_n 3, 1), (763, .iconst 2, 1), (764, .iadd, 1), (765, .iaload, 1), (766, .invokevirtual 85, 3), (769, .aload_n 2, 1), (770, .aload_n 0, 1), (771, .iload_n 3, 1), (772, .iconst 1, 1), (773, .iadd, 1), (774, .iaload, 1), (775, .aload_n 0, 1), (776, .iload_n 3, 1), (777, .iconst 2, 1), (778, .iadd, 1), (779, .iaload, 1), (780, .invokevirtual 88, 3), (783, .if_icmp .eq 525, 3), (786, .iconst 0, 1), (787, .ireturn, 1)]
set_option maxRecDepth 20000 in
theorem eL17 : zq_dec tL17 code := by unfold zq_dec; decide +kernel
def tL18 : List (Nat × Instr × Nat) := [(788, .aload_n 1, 1), (789, .aload_n 0, 1), (790, .iload_n 3, 1), (791, .iconst 1, 1), (792, .iadd, 1), (793, .iaload, 1), (794, .aload_n 0, 1), (795, .iload_n 3, 1), (796, .iconst 2, 1), (797, .iadd, 1), (798, .iaload, 1), (799, .invokevirtual 89, 3), (802, .aload_n 2, 1), (803, .aload_n 0, 1), (804, .iload_n 3, 1), (805, .iconst 1, 1), (806, .iadd, 1), (807, .iaload, 1), (808, .aload_n 0, 1), (809, .iload_n 3, 1), (810, .iconst 2, 1), (811, .iadd, 1), (812, .iaload, 1), (813, .invokevirtual 92, 3), (816, .if_icmp .eq 492, 3), (819, .iconst 0, 1), (820, .ireturn, 1)]
set_option maxRecDepth 20000 in
theorem eL18 : zq_dec tL18 code := by unfold zq_dec; decide +kernel
def tL19 : List (Nat × Instr × Nat) := [(821, .aload_n 1, 1), (822, .invokevirtual 93, 3), (825, .aload_n 2, 1), (826, .invokevirtual 96, 3), (829, .if_icmp .eq 479, 3), (832, .iconst 0, 1), (833, .ireturn, 1)]
set_option maxRecDepth 20000 in
theorem eL19 : zq_dec tL19 code := by unfold zq_dec; decide +kernel
def tL20 : List (Nat × Instr × Nat) := [(834, .aload_n 1, 1), (835, .aload_n 0, 1), (836, .iload_n 3, 1), (837, .iconst 1, 1), (838, .iadd, 1), (839, .iaload, 1), (840, .aload_n 0, 1), (841, .iload_n 3, 1), (842, .iconst 2, 1), (843, .iadd, 1), (844, .iaload, 1), (845, .aload_n 0, 1), (846, .iload_n 3, 1), (847, .iconst 3, 1), (848, .iadd, 1), (849, .iaload, 1), (850, .invokevirtual 97, 3), (853, .aload_n 2, 1), (854, .aload_n 0, 1), (855, .iload_n 3, 1), (856, .iconst 1, 1), (857, .iadd, 1), (858, .iaload, 1), (859, .aload_n 0, 1), (860, .iload_n 3, 1), (861, .iconst 2, 1), (862, .iadd, 1), (863, .iaload, 1), (864, .aload_n 0, 1), (865, .iload_n 3, 1), (866, .iconst 3, 1), (867, .iadd, 1), (868, .iaload, 1), (869, .invokevirtual 101, 3), (872, .lcmp, 1), (873, .ifCond .eq 435, 3), (876, .iconst 0, 1), (877, .ireturn, 1)]
set_option maxRecDepth 20000 in
theorem eL20 : zq_dec tL20 code := by unfold zq_dec; decide +kernel
def tL21 : List (Nat × Instr × Nat) := [(878, .aload_n 1, 1), (879, .aload_n 0, 1), (880, .iload_n 3, 1), (881, .iconst 1, 1), (882, .iadd, 1), (883, .iaload, 1), (884, .invokevirtual 102, 3), (887, .aload_n 2, 1), (888, .aload_n 0, 1), (889, .iload_n 3, 1), (890, .iconst 1, 1), (891, .iadd, 1), (892, .iaload, 1), (893, .invokevirtual 105, 3), (896, .if_icmp .eq 412, 3), (899, .iconst 0, 1), (900, .ireturn, 1)]
set_option maxRecDepth 20000 in
theorem eL21 : zq_dec tL21 code := by unfold zq_dec; decide +kernel
def tL22 : List (Nat × Instr × Nat) := [(901, .aload_n 1, 1), (902, .invokevirtual 106, 3), (905, .aload_n 2, 1), (906, .invokevirtual 109, 3), (909, .if_icmp .eq 399, 3), (912, .iconst 0, 1), (913, .ireturn, 1)]
set_option maxRecDepth 20000 in
theorem eL22 : zq_dec tL22 code := by unfold zq_dec; decide +kernel
def tL23 : List (Nat × Instr × Nat) := [(914, .aload_n 1, 1), (915, .aload_n 0, 1), (916, .iload_n 3, 1), (917, .iconst 1, 1), (918, .iadd, 1), (919, .iaload, 1), (920, .aload_n 0, 1), (921, .iload_n 3, 1), (922, .iconst 2, 1), (923, .iadd, 1), (924, .iaload, 1), (925, .invokevirtual 110, 3), (928, .aload_n 2, 1), (929, .aload_n 0, 1), (930, .iload_n 3, 1), (931, .iconst 1, 1), (932, .iadd, 1), (933, .iaload, 1), (934, .aload_n 0, 1), (935, .iload_n 3, 1), (936, .iconst 2, 1), (937, .iadd, 1), (938, .iaload, 1), (939, .invokevirtual 113, 3), (942, .if_icmp .eq 366, 3), (945, .iconst 0, 1), (946, .ireturn, 1)]
set_option maxRecDepth 20000 in
theorem eL23 : zq_dec tL23 code := by unfold zq_dec; decide +kernel
def tL24 : List (Nat × Instr × Nat) := [(947, .aload_n 1, 1), (948, .invokevirtual 114, 3), (951, .aload_n 2, 1), (952, .invokevirtual 117, 3), (955, .if_icmp .eq 353, 3), (958, .iconst 0, 1), (959, .ireturn, 1)]
set_option maxRecDepth 20000 in
theorem eL24 : zq_dec tL24 code := by unfold zq_dec; decide +kernel
def tL25 : List (Nat × Instr × Nat) := [(960, .aload_n 1, 1), (961, .invokevirtual 118, 3), (964, .aload_n 2, 1), (965, .invokevirtual 121, 3), (968, .if_icmp .eq 340, 3), (971, .iconst 0, 1), (972, .ireturn, 1)]
set_option maxRecDepth 20000 in
theorem eL25 : zq_dec tL25 code := by unfold zq_dec; decide +kernel
def tL26 : List (Nat × Instr × Nat) := [(973, .aload_n 1, 1), (974, .aload_n 0, 1), (975, .iload_n 3, 1), (976, .iconst 1, 1), (977, .iadd, 1), (978, .iaload, 1), (979, .aload_n 0, 1), (980, .iload_n 3, 1), (981, .iconst 2, 1), (982, .iadd, 1), (983, .iaload, 1), (984, .aload_n 0, 1), (985, .iload_n 3, 1), (986, .iconst 3, 1), (987, .iadd, 1), (988, .iaload, 1), (989, .invokevirtual 122, 3), (992, .aload_n 2, 1), (993, .aload_n 0, 1), (994, .iload_n 3, 1), (995, .iconst 1, 1), (996, .iadd, 1), (997, .iaload, 1), (998, .aload_n 0, 1), (999, .iload_n 3, 1), (1000, .iconst 2, 1), (1001, .iadd, 1), (1002, .iaload, 1), (1003, .aload_n 0, 1), (1004, .iload_n 3, 1), (1005, .iconst 3, 1), (1006, .iadd, 1), (1007, .iaload, 1), (1008, .invokevirtual 125, 3), (1011, .if_icmp .eq 297, 3), (1014, .iconst 0, 1), (1015, .ireturn, 1)]
set_option maxRecDepth 20000 in
theorem eL26 : zq_dec tL26 code := by unfold zq_dec; decide +kernel
def tL27 : List (Nat × Instr × Nat) := [(1016, .aload_n 1, 1), (1017, .aload_n 0, 1), (1018, .iload_n 3, 1), (1019, .iconst 1, 1), (1020, .iadd, 1), (1021, .iaload, 1), (1022, .invokevirtual 126, 3), (1025, .aload_n 2, 1), (1026, .aload_n 0, 1), (1027, .iload_n 3, 1), (1028, .iconst 1, 1), (1029, .iadd, 1), (1030, .iaload, 1), (1031, .invokevirtual 129, 3), (1034, .if_icmp .eq 274, 3), (1037, .iconst 0, 1), (1038, .ireturn, 1)]
set_option maxRecDepth 20000 in
theorem eL27 : zq_dec tL27 code := by unfold zq_dec; decide +kernel
def tL28 : List (Nat × Instr × Nat) := [(1039, .aload_n 1, 1), (1040, .aload_n 0, 1), (1041, .iload_n 3, 1), (1042, .iconst 1, 1), (1043, .iadd, 1), (1044, .iaload, 1), (1045, .aload_n 0, 1), (1046, .iload_n 3, 1), (1047, .iconst 2, 1), (1048, .iadd, 1), (1049, .iaload, 1), (1050, .invokevirtual 130, 3), (1053, .aload_n 2, 1), (1054, .aload_n 0, 1), (1055, .iload_n 3, 1), (1056, .iconst 1, 1), (1057, .iadd, 1), (1058, .iaload, 1), (1059, .aload_n 0, 1), (1060, .iload_n 3, 1), (1061, .iconst 2, 1), (1062, .iadd, 1), (1063, .iaload, 1), (1064, .invokevirtual 133, 3), (1067, .if_icmp .eq 241, 3), (1070, .iconst 0, 1), (1071, .ireturn, 1)]
set_option maxRecDepth 20000 in
theorem eL28 : zq_dec tL28 code := by unfold zq_dec; decide +kernel
def tL29 : List (Nat × Instr × Nat) := [(1072, .aload_n 1, 1), (1073, .aload_n 0, 1), (1074, .iload_n 3, 1), (1075, .iconst 1, 1), (1076, .iadd, 1), (1077, .iaload, 1), (1078, .invokevirtual 134, 3), (1081, .aload_n 2, 1), (1082, .aload_n 0, 1), (1083, .iload_n 3, 1), (1084, .iconst 1, 1), (1085, .iadd, 1), (1086, .iaload, 1), (1087, .invokevirtual 137, 3), (1090, .if_icmp .eq 218, 3), (1093, .iconst 0, 1), (1094, .ireturn, 1)]
set_option maxRecDepth 20000 in
theorem eL29 : zq_dec tL29 code := by unfold zq_dec; decide +kernel
def tL30 : List (Nat × Instr × Nat) := [(1095, .aload_n 1, 1), (1096, .aload_n 0, 1), (1097, .iload_n 3, 1), (1098, .iconst 1, 1), (1099, .iadd, 1), (1100, .iaload, 1), (1101, .aload_n 0, 1), (1102, .iload_n 3, 1), (1103, .iconst 2, 1), (1104, .iadd, 1), (1105, .iaload, 1), (1106, .aload_n 0, 1), (1107, .iload_n 3, 1), (1108, .iconst 3, 1), (1109, .iadd, 1), (1110, .iaload, 1), (1111, .invokevirtual 138, 3), (1114, .aload_n 2, 1), (1115, .aload_n 0, 1), (1116, .iload_n 3, 1), (1117, .iconst 1, 1), (1118, .iadd, 1), (1119, .iaload, 1), (1120, .aload_n 0, 1), (1121, .iload_n 3, 1), (1122, .iconst 2, 1), (1123, .iadd, 1), (1124, .iaload, 1), (1125, .aload_n 0, 1), (1126, .iload_n 3, 1), (1127, .iconst 3, 1), (1128, .iadd, 1), (1129, .iaload, 1), (1130, .invokevirtual 141, 3), (1133, .if_icmp .eq 175, 3), (1136, .iconst 0, 1), (1137, .ireturn, 1)]
set_option maxRecDepth 20000 in
theorem eL30 : zq_dec tL30 code := by unfold zq_dec; decide +kernel
def tL31 : List (Nat × Instr × Nat) := [(1138, .aload_n 1, 1), (1139, .aload_n 0, 1), (1140, .iload_n 3, 1), (1141, .iconst 1, 1), (1142, .iadd, 1), (1143, .iaload, 1), (1144, .aload_n 0, 1), (1145, .iload_n 3, 1), (1146, .iconst 2, 1), (1147, .iadd, 1), (1148, .iaload, 1), (1149, .aload_n 0, 1), (1150, .iload_n 3, 1), (1151, .iconst 3, 1), (1152, .iadd, 1), (1153, .iaload, 1), (1154, .i2l, 1), (1155, .bipush 32, 2), (1157, .lshl, 1), (1158, .aload_n 0, 1), (1159, .iload_n 3, 1), (1160, .iconst 4, 1), (1161, .iadd, 1), (1162, .iaload, 1), (1163, .i2l, 1), (1164, .ldc2_w 142, 3), (1167, .land, 1), (1168, .lor, 1), (1169, .invokevirtual 144, 3), (1172, .aload_n 2, 1), (1173, .aload_n 0, 1), (1174, .iload_n 3, 1), (1175, .iconst 1, 1), (1176, .iadd, 1), (1177, .iaload, 1), (1178, .aload_n 0, 1), (1179, .iload_n 3, 1), (1180, .iconst 2, 1), (1181, .iadd, 1), (1182, .iaload, 1), (1183, .aload_n 0, 1), (1184, .iload_n 3, 1), (1185, .iconst 3, 1), (1186, .iadd, 1), (1187, .iaload, 1), (1188, .i2l, 1), (1189, .bipush 32, 2), (1191, .lshl, 1), (1192, .aload_n 0, 1), (1193, .iload_n 3, 1), (1194, .iconst 4, 1), (1195, .iadd, 1), (1196, .iaload, 1), (1197, .i2l, 1), (1198, .ldc2_w 142, 3), (1201, .land, 1), (1202, .lor, 1), (1203, .invokevirtual 148, 3), (1206, .if_icmp .eq 102, 3), (1209, .iconst 0, 1), (1210, .ireturn, 1)]
set_option maxRecDepth 20000 in
theorem eL31 : zq_dec tL31 code := by unfold zq_dec; decide +kernel
def tL32 : List (Nat × Instr × Nat) := [(1211, .aload_n 1, 1), (1212, .aload_n 0, 1), (1213, .iload_n 3, 1), (1214, .iconst 1, 1), (1215, .iadd, 1), (1216, .iaload, 1), (1217, .aload_n 0, 1), (1218, .iload_n 3, 1), (1219, .iconst 2, 1), (1220, .iadd, 1), (1221, .iaload, 1), (1222, .invokevirtual 149, 3), (1225, .aload_n 2, 1), (1226, .aload_n 0, 1), (1227, .iload_n 3, 1), (1228, .iconst 1, 1), (1229, .iadd, 1), (1230, .iaload, 1), (1231, .aload_n 0, 1), (1232, .iload_n 3, 1), (1233, .iconst 2, 1), (1234, .iadd, 1), (1235, .iaload, 1), (1236, .invokevirtual 153, 3), (1239, .lcmp, 1), (1240, .ifCond .eq 68, 3), (1243, .iconst 0, 1), (1244, .ireturn, 1)]
set_option maxRecDepth 20000 in
theorem eL32 : zq_dec tL32 code := by unfold zq_dec; decide +kernel
def tL33 : List (Nat × Instr × Nat) := [(1245, .aload_n 1, 1), (1246, .aload_n 0, 1), (1247, .iload_n 3, 1), (1248, .iconst 1, 1), (1249, .iadd, 1), (1250, .iaload, 1), (1251, .aload_n 0, 1), (1252, .iload_n 3, 1), (1253, .iconst 2, 1), (1254, .iadd, 1), (1255, .iaload, 1), (1256, .aload_n 0, 1), (1257, .iload_n 3, 1), (1258, .iconst 3, 1), (1259, .iadd, 1), (1260, .iaload, 1), (1261, .aload_n 0, 1), (1262, .iload_n 3, 1), (1263, .iconst 4, 1), (1264, .iadd, 1), (1265, .iaload, 1), (1266, .aload_n 0, 1), (1267, .iload_n 3, 1), (1268, .iconst 5, 1), (1269, .iadd, 1), (1270, .iaload, 1), (1271, .invokevirtual 154, 3), (1274, .aload_n 2, 1), (1275, .aload_n 0, 1), (1276, .iload_n 3, 1), (1277, .iconst 1, 1), (1278, .iadd, 1), (1279, .iaload, 1), (1280, .aload_n 0, 1), (1281, .iload_n 3, 1), (1282, .iconst 2, 1), (1283, .iadd, 1), (1284, .iaload, 1), (1285, .aload_n 0, 1), (1286, .iload_n 3, 1), (1287, .iconst 3, 1), (1288, .iadd, 1), (1289, .iaload, 1), (1290, .aload_n 0, 1), (1291, .iload_n 3, 1), (1292, .iconst 4, 1), (1293, .iadd, 1), (1294, .iaload, 1), (1295, .aload_n 0, 1), (1296, .iload_n 3, 1), (1297, .iconst 5, 1), (1298, .iadd, 1), (1299, .iaload, 1), (1300, .invokevirtual 158, 3), (1303, .if_icmp .eq 5, 3), (1306, .iconst 0, 1), (1307, .ireturn, 1)]
set_option maxRecDepth 20000 in
theorem eL33 : zq_dec tL33 code := by unfold zq_dec; decide +kernel
def tLT : List (Nat × Instr × Nat) := [(1308, .iinc 3 6, 3), (1311, .goto (-1293), 3), (1314, .iconst 1, 1), (1315, .ireturn, 1)]
set_option maxRecDepth 20000 in
theorem eLT : zq_dec tLT code := by unfold zq_dec; decide +kernel
theorem zl_law_9 : Cond.methodLink R_law 9 yX10_init ∈ zq_T := zq_m1 24 rfl rfl
theorem zl_law_13 : Cond.methodLink R_law 13 yX10_person ∈ zq_T := zq_m2 136 rfl rfl
theorem zl_law_18 : Cond.methodLink R_law 18 yX10_of ∈ zq_T := zq_m2 150 rfl rfl
theorem zl_law_23 : Cond.methodLink R_law 23 yX10_learn ∈ zq_T := zq_m2 200 rfl rfl
theorem zl_law_27 : Cond.methodLink R_law 27 yX10_room ∈ zq_T := zq_m2 204 rfl rfl
theorem zl_law_31 : Cond.methodLink R_law 31 yX10_inside ∈ zq_T := zq_m2 209 rfl rfl
theorem zl_law_35 : Cond.methodLink R_law 35 yX10_feed ∈ zq_T := zq_m2 213 rfl rfl
theorem zl_law_40 : Cond.methodLink R_law 40 yX10_house ∈ zq_T := zq_m2 217 rfl rfl
theorem zl_law_45 : Cond.methodLink R_law 45 yX10_told ∈ zq_T := zq_m3 158 rfl rfl
theorem zl_law_49 : Cond.methodLink R_law 49 yX10_coming ∈ zq_T := zq_m3 162 rfl rfl
theorem zl_law_53 : Cond.methodLink R_law 53 yX10_come ∈ zq_T := zq_m3 211 rfl rfl
theorem zl_law_57 : Cond.methodLink R_law 57 yX10_say ∈ zq_T := zq_m3 216 rfl rfl
theorem zl_law_61 : Cond.methodLink R_law 61 yX10_soonest ∈ zq_T := zq_m3 233 rfl rfl
theorem zl_law_65 : Cond.methodLink R_law 65 yX10_cheapest ∈ zq_T := zq_m4 75 rfl rfl
theorem zl_law_69 : Cond.methodLink R_law 69 yX10_never ∈ zq_T := zq_m4 83 rfl rfl
theorem zl_law_73 : Cond.methodLink R_law 73 yX10_heard ∈ zq_T := zq_m4 95 rfl rfl
theorem zl_law_77 : Cond.methodLink R_law 77 yX10_secret ∈ zq_T := zq_m4 143 rfl rfl
theorem zl_law_81 : Cond.methodLink R_law 81 yX10_game ∈ zq_T := zq_m4 150 rfl rfl
theorem zl_law_85 : Cond.methodLink R_law 85 yX10_votes ∈ zq_T := zq_m4 167 rfl rfl
theorem zl_law_89 : Cond.methodLink R_law 89 yX10_spoken ∈ zq_T := zq_m4 171 rfl rfl
theorem zl_law_93 : Cond.methodLink R_law 93 yX10_fits ∈ zq_T := zq_m4 175 rfl rfl
theorem zl_law_97 : Cond.methodLink R_law 97 yX10_lot ∈ zq_T := zq_m4 196 rfl rfl
theorem zl_law_102 : Cond.methodLink R_law 102 yX10_book ∈ zq_T := zq_m4 217 rfl rfl
theorem zl_law_106 : Cond.methodLink R_law 106 yX10_readBook ∈ zq_T := zq_m4 221 rfl rfl
theorem zl_law_110 : Cond.methodLink R_law 110 yX10_judge ∈ zq_T := zq_m4 236 rfl rfl
theorem zl_law_114 : Cond.methodLink R_law 114 yX10_image ∈ zq_T := zq_m5 15 rfl rfl
theorem zl_law_118 : Cond.methodLink R_law 118 yX10_undo ∈ zq_T := zq_m5 24 rfl rfl
theorem zl_law_122 : Cond.methodLink R_law 122 yX10_act ∈ zq_T := zq_m5 28 rfl rfl
theorem zl_law_126 : Cond.methodLink R_law 126 yX10_trace ∈ zq_T := zq_m5 55 rfl rfl
theorem zl_law_130 : Cond.methodLink R_law 130 yX10_taken ∈ zq_T := zq_m5 65 rfl rfl
theorem zl_law_134 : Cond.methodLink R_law 134 yX10_count ∈ zq_T := zq_m5 73 rfl rfl
theorem zl_law_138 : Cond.methodLink R_law 138 yX10_tape ∈ zq_T := zq_m5 77 rfl rfl
theorem zl_law_144 : Cond.methodLink R_law 144 yX10_item ∈ zq_T := zq_m5 92 rfl rfl
theorem zl_law_149 : Cond.methodLink R_law 149 yX10_read ∈ zq_T := zq_m5 104 rfl rfl
theorem zl_law_154 : Cond.methodLink R_law 154 yX10_shift ∈ zq_T := zq_m5 108 rfl rfl
theorem zl_law_12 : Cond.methodLink R_law 12 yX11_init ∈ zq_T := zq_m5 119 rfl rfl
theorem zl_law_17 : Cond.methodLink R_law 17 yX11_person ∈ zq_T := zq_m6 86 rfl rfl
theorem zl_law_22 : Cond.methodLink R_law 22 yX11_of ∈ zq_T := zq_m6 102 rfl rfl
theorem zl_law_26 : Cond.methodLink R_law 26 yX11_learn ∈ zq_T := zq_m6 150 rfl rfl
theorem zl_law_30 : Cond.methodLink R_law 30 yX11_room ∈ zq_T := zq_m6 154 rfl rfl
theorem zl_law_34 : Cond.methodLink R_law 34 yX11_inside ∈ zq_T := zq_m6 162 rfl rfl
theorem zl_law_39 : Cond.methodLink R_law 39 yX11_feed ∈ zq_T := zq_m6 166 rfl rfl
theorem zl_law_44 : Cond.methodLink R_law 44 yX11_house ∈ zq_T := zq_m6 170 rfl rfl
theorem zl_law_48 : Cond.methodLink R_law 48 yX11_told ∈ zq_T := zq_m6 230 rfl rfl
theorem zl_law_52 : Cond.methodLink R_law 52 yX11_coming ∈ zq_T := zq_m6 234 rfl rfl
theorem zl_law_56 : Cond.methodLink R_law 56 yX11_come ∈ zq_T := zq_m7 14 rfl rfl
theorem zl_law_60 : Cond.methodLink R_law 60 yX11_say ∈ zq_T := zq_m7 18 rfl rfl
theorem zl_law_64 : Cond.methodLink R_law 64 yX11_soonest ∈ zq_T := zq_m7 34 rfl rfl
theorem zl_law_68 : Cond.methodLink R_law 68 yX11_cheapest ∈ zq_T := zq_m7 74 rfl rfl
theorem zl_law_72 : Cond.methodLink R_law 72 yX11_never ∈ zq_T := zq_m7 82 rfl rfl
theorem zl_law_76 : Cond.methodLink R_law 76 yX11_heard ∈ zq_T := zq_m7 86 rfl rfl
theorem zl_law_80 : Cond.methodLink R_law 80 yX11_secret ∈ zq_T := zq_m7 102 rfl rfl
theorem zl_law_84 : Cond.methodLink R_law 84 yX11_game ∈ zq_T := zq_m7 106 rfl rfl
theorem zl_law_88 : Cond.methodLink R_law 88 yX11_votes ∈ zq_T := zq_m7 134 rfl rfl
theorem zl_law_92 : Cond.methodLink R_law 92 yX11_spoken ∈ zq_T := zq_m7 138 rfl rfl
theorem zl_law_96 : Cond.methodLink R_law 96 yX11_fits ∈ zq_T := zq_m7 146 rfl rfl
theorem zl_law_101 : Cond.methodLink R_law 101 yX11_lot ∈ zq_T := zq_m7 158 rfl rfl
theorem zl_law_105 : Cond.methodLink R_law 105 yX11_book ∈ zq_T := zq_m7 187 rfl rfl
theorem zl_law_109 : Cond.methodLink R_law 109 yX11_readBook ∈ zq_T := zq_m7 191 rfl rfl
theorem zl_law_113 : Cond.methodLink R_law 113 yX11_judge ∈ zq_T := zq_m7 195 rfl rfl
theorem zl_law_117 : Cond.methodLink R_law 117 yX11_image ∈ zq_T := zq_m7 203 rfl rfl
theorem zl_law_121 : Cond.methodLink R_law 121 yX11_undo ∈ zq_T := zq_m7 207 rfl rfl
theorem zl_law_125 : Cond.methodLink R_law 125 yX11_act ∈ zq_T := zq_m7 211 rfl rfl
theorem zl_law_129 : Cond.methodLink R_law 129 yX11_trace ∈ zq_T := zq_m8 7 rfl rfl
theorem zl_law_133 : Cond.methodLink R_law 133 yX11_taken ∈ zq_T := zq_m8 11 rfl rfl
theorem zl_law_137 : Cond.methodLink R_law 137 yX11_count ∈ zq_T := zq_m8 15 rfl rfl
theorem zl_law_141 : Cond.methodLink R_law 141 yX11_tape ∈ zq_T := zq_m8 19 rfl rfl
theorem zl_law_148 : Cond.methodLink R_law 148 yX11_item ∈ zq_T := zq_m8 23 rfl rfl
theorem zl_law_153 : Cond.methodLink R_law 153 yX11_read ∈ zq_T := zq_m8 31 rfl rfl
theorem zl_law_158 : Cond.methodLink R_law 158 yX11_shift ∈ zq_T := zq_m8 35 rfl rfl
theorem zk_law_142 : Cond.constantLong R_law 142 (4294967295) ∈ zq_T := zq_m8 39 rfl rfl
section
variable {p : Program} {e : Env} {s : State} {m : MethodId} {below : List Frame} {meth : Method} {c : Code} {b L : Nat} {xs : Nat → Int32} {G : zq_G}
set_option maxRecDepth 20000 in
set_option maxHeartbeats 8000000 in
theorem zl_case0 (JC : zq_JC p s m meth c b L xs G) {N : Nat} {I : Nat → Nat → zq_M → zq_M → Prop} (hop : zq_op_person N I) {q j kc kn : Nat} {X M : zq_M} {i : Int32} (hq : q < 512) (hI : I q j X M) (hv1 : vp_in (i + 1) L) (hv2 : vp_in (i + 2) L) (hv3 : vp_in (i + 3) L) (hv4 : vp_in (i + 4) L) (hv5 : vp_in (i + 5) L) (h1 : kc + 5 ≤ 600000) (h2 : kn + 137 ≤ 7302249) (K : ∀ (j1 : Nat) (X1 M1 : zq_M), I (q + 1) j1 X1 M1 → zq_J p e s m below meth c b G (kc + 5) (kn + 137) 1308 [(0, .ref b), (1, .ref (zq_ad G 0)), (2, .ref (zq_ad G 69)), (3, .int i)] [] (zq_shX j1) X1 zq_shM M1 (zq_ad G 141)) : zq_J p e s m below meth c b G kc kn 184 [(0, .ref b), (1, .ref (zq_ad G 0)), (2, .ref (zq_ad G 69)), (3, .int i)] [] (zq_shX j) X zq_shM M (zq_ad G 141) := by
  obtain ⟨r, X1, M1, hfx, hfm, hI2⟩ := hop q j X M (xs (i + 1).toNatClampNeg) (xs (i + 2).toNatClampNeg) (xs (i + 3).toNatClampNeg) hq hI
  refine zj_aload_n JC (pc := 184) (zq_d eL0 0 rfl) 1 rfl rfl ?_
  refine zj_aload_n JC (pc := 185) (zq_d eL0 1 rfl) 0 rfl rfl ?_
  refine zj_iload_n JC (pc := 186) (zq_d eL0 2 rfl) 3 rfl rfl ?_
  refine zj_iconst JC (pc := 187) (zq_d eL0 3 rfl) zc_i1 ?_
  refine zj_iadd JC (pc := 188) (zq_d eL0 4 rfl) ?_
  refine zj_sld JC (pc := 189) (zq_d eL0 5 rfl) hv1 ?_
  refine zj_aload_n JC (pc := 190) (zq_d eL0 6 rfl) 0 rfl rfl ?_
  refine zj_iload_n JC (pc := 191) (zq_d eL0 7 rfl) 3 rfl rfl ?_
  refine zj_iconst JC (pc := 192) (zq_d eL0 8 rfl) zc_i2 ?_
  refine zj_iadd JC (pc := 193) (zq_d eL0 9 rfl) ?_
  refine zj_sld JC (pc := 194) (zq_d eL0 10 rfl) hv2 ?_
  refine zj_aload_n JC (pc := 195) (zq_d eL0 11 rfl) 0 rfl rfl ?_
  refine zj_iload_n JC (pc := 196) (zq_d eL0 12 rfl) 3 rfl rfl ?_
  refine zj_iconst JC (pc := 197) (zq_d eL0 13 rfl) zc_i3 ?_
  refine zj_iadd JC (pc := 198) (zq_d eL0 14 rfl) ?_
  refine zj_sld JC (pc := 199) (zq_d eL0 15 rfl) hv3 ?_
  refine zj_Vx JC (pc := 200) (r1 := (r, X1)) [_, _, _] (zq_d eL0 16 rfl) (s_X10_person G N _ j X _ _ _) hfx zd_X10_person zl_law_13 (ox_0 j) rfl rfl rfl rfl (Nat.le_of_ble_eq_true rfl) (Nat.le_of_ble_eq_true rfl) (Nat.le_of_ble_eq_true rfl) ⟨(by show kc + 0 ≤ _; omega), (by show kn + 0 ≤ _; omega)⟩ (zq_dmx j) ?_
  refine zj_aload_n JC (pc := 203) (zq_d eL0 17 rfl) 2 rfl rfl ?_
  refine zj_aload_n JC (pc := 204) (zq_d eL0 18 rfl) 0 rfl rfl ?_
  refine zj_iload_n JC (pc := 205) (zq_d eL0 19 rfl) 3 rfl rfl ?_
  refine zj_iconst JC (pc := 206) (zq_d eL0 20 rfl) zc_i1 ?_
  refine zj_iadd JC (pc := 207) (zq_d eL0 21 rfl) ?_
  refine zj_sld JC (pc := 208) (zq_d eL0 22 rfl) hv1 ?_
  refine zj_aload_n JC (pc := 209) (zq_d eL0 23 rfl) 0 rfl rfl ?_
  refine zj_iload_n JC (pc := 210) (zq_d eL0 24 rfl) 3 rfl rfl ?_
  refine zj_iconst JC (pc := 211) (zq_d eL0 25 rfl) zc_i2 ?_
  refine zj_iadd JC (pc := 212) (zq_d eL0 26 rfl) ?_
  refine zj_sld JC (pc := 213) (zq_d eL0 27 rfl) hv2 ?_
  refine zj_aload_n JC (pc := 214) (zq_d eL0 28 rfl) 0 rfl rfl ?_
  refine zj_iload_n JC (pc := 215) (zq_d eL0 29 rfl) 3 rfl rfl ?_
  refine zj_iconst JC (pc := 216) (zq_d eL0 30 rfl) zc_i3 ?_
  refine zj_iadd JC (pc := 217) (zq_d eL0 31 rfl) ?_
  refine zj_sld JC (pc := 218) (zq_d eL0 32 rfl) hv3 ?_
  refine zj_Vm JC (pc := 219) (r1 := (r, M1)) [_, _, _] (zq_d eL0 33 rfl) (s_X11_person G N _ M _ _ _) hfm zd_X11_person zl_law_17 om_69 rfl rfl rfl rfl (Nat.le_of_ble_eq_true rfl) (Nat.le_of_ble_eq_true rfl) (Nat.le_of_ble_eq_true rfl) ⟨(by show kc + 0 + 0 ≤ _; omega), (by show kn + 0 + 0 ≤ _; omega)⟩ (zq_dxm j) ?_
  refine zj_eq JC (pc := 222) 1308 (zq_d eL0 34 rfl) (by decide) ?_
  exact zj_wid (kc2 := kc + 5) (kn2 := kn + 137) (by show kc + 0 + 0 ≤ _; omega) (by show kn + 0 + 0 ≤ _; omega) (K j X1 M1 hI2)
set_option maxRecDepth 20000 in
set_option maxHeartbeats 8000000 in
theorem zl_case1 (JC : zq_JC p s m meth c b L xs G) {N : Nat} {I : Nat → Nat → zq_M → zq_M → Prop} (hop : zq_op_of N I) {q j kc kn : Nat} {X M : zq_M} {i : Int32} (hq : q < 512) (hI : I q j X M) (hv1 : vp_in (i + 1) L) (hv2 : vp_in (i + 2) L) (hv3 : vp_in (i + 3) L) (hv4 : vp_in (i + 4) L) (hv5 : vp_in (i + 5) L) (h1 : kc + 5 ≤ 600000) (h2 : kn + 137 ≤ 7302249) (K : ∀ (j1 : Nat) (X1 M1 : zq_M), I (q + 1) j1 X1 M1 → zq_J p e s m below meth c b G (kc + 5) (kn + 137) 1308 [(0, .ref b), (1, .ref (zq_ad G 0)), (2, .ref (zq_ad G 69)), (3, .int i)] [] (zq_shX j1) X1 zq_shM M1 (zq_ad G 141)) : zq_J p e s m below meth c b G kc kn 227 [(0, .ref b), (1, .ref (zq_ad G 0)), (2, .ref (zq_ad G 69)), (3, .int i)] [] (zq_shX j) X zq_shM M (zq_ad G 141) := by
  obtain ⟨r, X1, M1, hfx, hfm, hI2⟩ := hop q j X M (xs (i + 1).toNatClampNeg) (xs (i + 2).toNatClampNeg) hq hI
  refine zj_aload_n JC (pc := 227) (zq_d eL1 0 rfl) 1 rfl rfl ?_
  refine zj_aload_n JC (pc := 228) (zq_d eL1 1 rfl) 0 rfl rfl ?_
  refine zj_iload_n JC (pc := 229) (zq_d eL1 2 rfl) 3 rfl rfl ?_
  refine zj_iconst JC (pc := 230) (zq_d eL1 3 rfl) zc_i1 ?_
  refine zj_iadd JC (pc := 231) (zq_d eL1 4 rfl) ?_
  refine zj_sld JC (pc := 232) (zq_d eL1 5 rfl) hv1 ?_
  refine zj_aload_n JC (pc := 233) (zq_d eL1 6 rfl) 0 rfl rfl ?_
  refine zj_iload_n JC (pc := 234) (zq_d eL1 7 rfl) 3 rfl rfl ?_
  refine zj_iconst JC (pc := 235) (zq_d eL1 8 rfl) zc_i2 ?_
  refine zj_iadd JC (pc := 236) (zq_d eL1 9 rfl) ?_
  refine zj_sld JC (pc := 237) (zq_d eL1 10 rfl) hv2 ?_
  refine zj_Vx JC (pc := 238) (r1 := (r, X1)) [_, _] (zq_d eL1 11 rfl) (s_X10_of G N _ j X _ _) hfx zd_X10_of zl_law_18 (ox_0 j) rfl rfl rfl rfl (Nat.le_of_ble_eq_true rfl) (Nat.le_of_ble_eq_true rfl) (Nat.le_of_ble_eq_true rfl) ⟨(by show kc + 0 ≤ _; omega), (by show kn + 0 ≤ _; omega)⟩ (zq_dmx j) ?_
  refine zj_aload_n JC (pc := 241) (zq_d eL1 12 rfl) 2 rfl rfl ?_
  refine zj_aload_n JC (pc := 242) (zq_d eL1 13 rfl) 0 rfl rfl ?_
  refine zj_iload_n JC (pc := 243) (zq_d eL1 14 rfl) 3 rfl rfl ?_
  refine zj_iconst JC (pc := 244) (zq_d eL1 15 rfl) zc_i1 ?_
  refine zj_iadd JC (pc := 245) (zq_d eL1 16 rfl) ?_
  refine zj_sld JC (pc := 246) (zq_d eL1 17 rfl) hv1 ?_
  refine zj_aload_n JC (pc := 247) (zq_d eL1 18 rfl) 0 rfl rfl ?_
  refine zj_iload_n JC (pc := 248) (zq_d eL1 19 rfl) 3 rfl rfl ?_
  refine zj_iconst JC (pc := 249) (zq_d eL1 20 rfl) zc_i2 ?_
  refine zj_iadd JC (pc := 250) (zq_d eL1 21 rfl) ?_
  refine zj_sld JC (pc := 251) (zq_d eL1 22 rfl) hv2 ?_
  refine zj_Vm JC (pc := 252) (r1 := (r, M1)) [_, _] (zq_d eL1 23 rfl) (s_X11_of G N _ M _ _) hfm zd_X11_of zl_law_22 om_69 rfl rfl rfl rfl (Nat.le_of_ble_eq_true rfl) (Nat.le_of_ble_eq_true rfl) (Nat.le_of_ble_eq_true rfl) ⟨(by show kc + 0 + 0 ≤ _; omega), (by show kn + 0 + 0 ≤ _; omega)⟩ (zq_dxm j) ?_
  refine zj_eq JC (pc := 255) 1308 (zq_d eL1 24 rfl) (by decide) ?_
  exact zj_wid (kc2 := kc + 5) (kn2 := kn + 137) (by show kc + 0 + 0 ≤ _; omega) (by show kn + 0 + 0 ≤ _; omega) (K j X1 M1 hI2)
set_option maxRecDepth 20000 in
set_option maxHeartbeats 8000000 in
theorem zl_case2 (JC : zq_JC p s m meth c b L xs G) {N : Nat} {I : Nat → Nat → zq_M → zq_M → Prop} (hop : zq_op_learn N I) {q j kc kn : Nat} {X M : zq_M} {i : Int32} (hq : q < 512) (hI : I q j X M) (hv1 : vp_in (i + 1) L) (hv2 : vp_in (i + 2) L) (hv3 : vp_in (i + 3) L) (hv4 : vp_in (i + 4) L) (hv5 : vp_in (i + 5) L) (h1 : kc + 5 ≤ 600000) (h2 : kn + 137 ≤ 7302249) (K : ∀ (j1 : Nat) (X1 M1 : zq_M), I (q + 1) j1 X1 M1 → zq_J p e s m below meth c b G (kc + 5) (kn + 137) 1308 [(0, .ref b), (1, .ref (zq_ad G 0)), (2, .ref (zq_ad G 69)), (3, .int i)] [] (zq_shX j1) X1 zq_shM M1 (zq_ad G 141)) : zq_J p e s m below meth c b G kc kn 260 [(0, .ref b), (1, .ref (zq_ad G 0)), (2, .ref (zq_ad G 69)), (3, .int i)] [] (zq_shX j) X zq_shM M (zq_ad G 141) := by
  obtain ⟨r, X1, M1, hfx, hfm, hI2⟩ := hop q j X M (xs (i + 1).toNatClampNeg) (xs (i + 2).toNatClampNeg) hq hI
  refine zj_aload_n JC (pc := 260) (zq_d eL2 0 rfl) 1 rfl rfl ?_
  refine zj_aload_n JC (pc := 261) (zq_d eL2 1 rfl) 0 rfl rfl ?_
  refine zj_iload_n JC (pc := 262) (zq_d eL2 2 rfl) 3 rfl rfl ?_
  refine zj_iconst JC (pc := 263) (zq_d eL2 3 rfl) zc_i1 ?_
  refine zj_iadd JC (pc := 264) (zq_d eL2 4 rfl) ?_
  refine zj_sld JC (pc := 265) (zq_d eL2 5 rfl) hv1 ?_
  refine zj_aload_n JC (pc := 266) (zq_d eL2 6 rfl) 0 rfl rfl ?_
  refine zj_iload_n JC (pc := 267) (zq_d eL2 7 rfl) 3 rfl rfl ?_
  refine zj_iconst JC (pc := 268) (zq_d eL2 8 rfl) zc_i2 ?_
  refine zj_iadd JC (pc := 269) (zq_d eL2 9 rfl) ?_
  refine zj_sld JC (pc := 270) (zq_d eL2 10 rfl) hv2 ?_
  refine zj_Vx JC (pc := 271) (r1 := (r, X1)) [_, _] (zq_d eL2 11 rfl) (s_X10_learn G N _ j X _ _) hfx zd_X10_learn zl_law_23 (ox_0 j) rfl rfl rfl rfl (Nat.le_of_ble_eq_true rfl) (Nat.le_of_ble_eq_true rfl) (Nat.le_of_ble_eq_true rfl) ⟨(by show kc + 0 ≤ _; omega), (by show kn + 0 ≤ _; omega)⟩ (zq_dmx j) ?_
  refine zj_aload_n JC (pc := 274) (zq_d eL2 12 rfl) 2 rfl rfl ?_
  refine zj_aload_n JC (pc := 275) (zq_d eL2 13 rfl) 0 rfl rfl ?_
  refine zj_iload_n JC (pc := 276) (zq_d eL2 14 rfl) 3 rfl rfl ?_
  refine zj_iconst JC (pc := 277) (zq_d eL2 15 rfl) zc_i1 ?_
  refine zj_iadd JC (pc := 278) (zq_d eL2 16 rfl) ?_
  refine zj_sld JC (pc := 279) (zq_d eL2 17 rfl) hv1 ?_
  refine zj_aload_n JC (pc := 280) (zq_d eL2 18 rfl) 0 rfl rfl ?_
  refine zj_iload_n JC (pc := 281) (zq_d eL2 19 rfl) 3 rfl rfl ?_
  refine zj_iconst JC (pc := 282) (zq_d eL2 20 rfl) zc_i2 ?_
  refine zj_iadd JC (pc := 283) (zq_d eL2 21 rfl) ?_
  refine zj_sld JC (pc := 284) (zq_d eL2 22 rfl) hv2 ?_
  refine zj_Vm JC (pc := 285) (r1 := (r, M1)) [_, _] (zq_d eL2 23 rfl) (s_X11_learn G N _ M _ _) hfm zd_X11_learn zl_law_26 om_69 rfl rfl rfl rfl (Nat.le_of_ble_eq_true rfl) (Nat.le_of_ble_eq_true rfl) (Nat.le_of_ble_eq_true rfl) ⟨(by show kc + 0 + 0 ≤ _; omega), (by show kn + 0 + 0 ≤ _; omega)⟩ (zq_dxm j) ?_
  refine zj_eq JC (pc := 288) 1308 (zq_d eL2 24 rfl) (by decide) ?_
  exact zj_wid (kc2 := kc + 5) (kn2 := kn + 137) (by show kc + 0 + 0 ≤ _; omega) (by show kn + 0 + 0 ≤ _; omega) (K j X1 M1 hI2)
set_option maxRecDepth 20000 in
set_option maxHeartbeats 8000000 in
theorem zl_case3 (JC : zq_JC p s m meth c b L xs G) {N : Nat} {I : Nat → Nat → zq_M → zq_M → Prop} (hop : zq_op_room N I) {q j kc kn : Nat} {X M : zq_M} {i : Int32} (hq : q < 512) (hI : I q j X M) (hv1 : vp_in (i + 1) L) (hv2 : vp_in (i + 2) L) (hv3 : vp_in (i + 3) L) (hv4 : vp_in (i + 4) L) (hv5 : vp_in (i + 5) L) (h1 : kc + 5 ≤ 600000) (h2 : kn + 137 ≤ 7302249) (K : ∀ (j1 : Nat) (X1 M1 : zq_M), I (q + 1) j1 X1 M1 → zq_J p e s m below meth c b G (kc + 5) (kn + 137) 1308 [(0, .ref b), (1, .ref (zq_ad G 0)), (2, .ref (zq_ad G 69)), (3, .int i)] [] (zq_shX j1) X1 zq_shM M1 (zq_ad G 141)) : zq_J p e s m below meth c b G kc kn 293 [(0, .ref b), (1, .ref (zq_ad G 0)), (2, .ref (zq_ad G 69)), (3, .int i)] [] (zq_shX j) X zq_shM M (zq_ad G 141) := by
  obtain ⟨r, X1, M1, hfx, hfm, hI2⟩ := hop q j X M (xs (i + 1).toNatClampNeg) (xs (i + 2).toNatClampNeg) (xs (i + 3).toNatClampNeg) hq hI
  refine zj_aload_n JC (pc := 293) (zq_d eL3 0 rfl) 1 rfl rfl ?_
  refine zj_aload_n JC (pc := 294) (zq_d eL3 1 rfl) 0 rfl rfl ?_
  refine zj_iload_n JC (pc := 295) (zq_d eL3 2 rfl) 3 rfl rfl ?_
  refine zj_iconst JC (pc := 296) (zq_d eL3 3 rfl) zc_i1 ?_
  refine zj_iadd JC (pc := 297) (zq_d eL3 4 rfl) ?_
  refine zj_sld JC (pc := 298) (zq_d eL3 5 rfl) hv1 ?_
  refine zj_aload_n JC (pc := 299) (zq_d eL3 6 rfl) 0 rfl rfl ?_
  refine zj_iload_n JC (pc := 300) (zq_d eL3 7 rfl) 3 rfl rfl ?_
  refine zj_iconst JC (pc := 301) (zq_d eL3 8 rfl) zc_i2 ?_
  refine zj_iadd JC (pc := 302) (zq_d eL3 9 rfl) ?_
  refine zj_sld JC (pc := 303) (zq_d eL3 10 rfl) hv2 ?_
  refine zj_aload_n JC (pc := 304) (zq_d eL3 11 rfl) 0 rfl rfl ?_
  refine zj_iload_n JC (pc := 305) (zq_d eL3 12 rfl) 3 rfl rfl ?_
  refine zj_iconst JC (pc := 306) (zq_d eL3 13 rfl) zc_i3 ?_
  refine zj_iadd JC (pc := 307) (zq_d eL3 14 rfl) ?_
  refine zj_sld JC (pc := 308) (zq_d eL3 15 rfl) hv3 ?_
  refine zj_Vx JC (pc := 309) (r1 := (r, X1)) [_, _, _] (zq_d eL3 16 rfl) (s_X10_room G N _ j X _ _ _) hfx zd_X10_room zl_law_27 (ox_0 j) rfl rfl rfl rfl (Nat.le_of_ble_eq_true rfl) (Nat.le_of_ble_eq_true rfl) (Nat.le_of_ble_eq_true rfl) ⟨(by show kc + 0 ≤ _; omega), (by show kn + 0 ≤ _; omega)⟩ (zq_dmx j) ?_
  refine zj_aload_n JC (pc := 312) (zq_d eL3 17 rfl) 2 rfl rfl ?_
  refine zj_aload_n JC (pc := 313) (zq_d eL3 18 rfl) 0 rfl rfl ?_
  refine zj_iload_n JC (pc := 314) (zq_d eL3 19 rfl) 3 rfl rfl ?_
  refine zj_iconst JC (pc := 315) (zq_d eL3 20 rfl) zc_i1 ?_
  refine zj_iadd JC (pc := 316) (zq_d eL3 21 rfl) ?_
  refine zj_sld JC (pc := 317) (zq_d eL3 22 rfl) hv1 ?_
  refine zj_aload_n JC (pc := 318) (zq_d eL3 23 rfl) 0 rfl rfl ?_
  refine zj_iload_n JC (pc := 319) (zq_d eL3 24 rfl) 3 rfl rfl ?_
  refine zj_iconst JC (pc := 320) (zq_d eL3 25 rfl) zc_i2 ?_
  refine zj_iadd JC (pc := 321) (zq_d eL3 26 rfl) ?_
  refine zj_sld JC (pc := 322) (zq_d eL3 27 rfl) hv2 ?_
  refine zj_aload_n JC (pc := 323) (zq_d eL3 28 rfl) 0 rfl rfl ?_
  refine zj_iload_n JC (pc := 324) (zq_d eL3 29 rfl) 3 rfl rfl ?_
  refine zj_iconst JC (pc := 325) (zq_d eL3 30 rfl) zc_i3 ?_
  refine zj_iadd JC (pc := 326) (zq_d eL3 31 rfl) ?_
  refine zj_sld JC (pc := 327) (zq_d eL3 32 rfl) hv3 ?_
  refine zj_Vm JC (pc := 328) (r1 := (r, M1)) [_, _, _] (zq_d eL3 33 rfl) (s_X11_room G N _ M _ _ _) hfm zd_X11_room zl_law_30 om_69 rfl rfl rfl rfl (Nat.le_of_ble_eq_true rfl) (Nat.le_of_ble_eq_true rfl) (Nat.le_of_ble_eq_true rfl) ⟨(by show kc + 0 + 0 ≤ _; omega), (by show kn + 0 + 0 ≤ _; omega)⟩ (zq_dxm j) ?_
  refine zj_eq JC (pc := 331) 1308 (zq_d eL3 34 rfl) (by decide) ?_
  exact zj_wid (kc2 := kc + 5) (kn2 := kn + 137) (by show kc + 0 + 0 ≤ _; omega) (by show kn + 0 + 0 ≤ _; omega) (K j X1 M1 hI2)
set_option maxRecDepth 20000 in
set_option maxHeartbeats 8000000 in
theorem zl_case4 (JC : zq_JC p s m meth c b L xs G) {N : Nat} {I : Nat → Nat → zq_M → zq_M → Prop} (hop : zq_op_inside N I) {q j kc kn : Nat} {X M : zq_M} {i : Int32} (hq : q < 512) (hI : I q j X M) (hv1 : vp_in (i + 1) L) (hv2 : vp_in (i + 2) L) (hv3 : vp_in (i + 3) L) (hv4 : vp_in (i + 4) L) (hv5 : vp_in (i + 5) L) (h1 : kc + 5 ≤ 600000) (h2 : kn + 137 ≤ 7302249) (K : ∀ (j1 : Nat) (X1 M1 : zq_M), I (q + 1) j1 X1 M1 → zq_J p e s m below meth c b G (kc + 5) (kn + 137) 1308 [(0, .ref b), (1, .ref (zq_ad G 0)), (2, .ref (zq_ad G 69)), (3, .int i)] [] (zq_shX j1) X1 zq_shM M1 (zq_ad G 141)) : zq_J p e s m below meth c b G kc kn 336 [(0, .ref b), (1, .ref (zq_ad G 0)), (2, .ref (zq_ad G 69)), (3, .int i)] [] (zq_shX j) X zq_shM M (zq_ad G 141) := by
  obtain ⟨r, X1, M1, hfx, hfm, hI2⟩ := hop q j X M (xs (i + 1).toNatClampNeg) (xs (i + 2).toNatClampNeg) hq hI
  refine zj_aload_n JC (pc := 336) (zq_d eL4 0 rfl) 1 rfl rfl ?_
  refine zj_aload_n JC (pc := 337) (zq_d eL4 1 rfl) 0 rfl rfl ?_
  refine zj_iload_n JC (pc := 338) (zq_d eL4 2 rfl) 3 rfl rfl ?_
  refine zj_iconst JC (pc := 339) (zq_d eL4 3 rfl) zc_i1 ?_
  refine zj_iadd JC (pc := 340) (zq_d eL4 4 rfl) ?_
  refine zj_sld JC (pc := 341) (zq_d eL4 5 rfl) hv1 ?_
  refine zj_aload_n JC (pc := 342) (zq_d eL4 6 rfl) 0 rfl rfl ?_
  refine zj_iload_n JC (pc := 343) (zq_d eL4 7 rfl) 3 rfl rfl ?_
  refine zj_iconst JC (pc := 344) (zq_d eL4 8 rfl) zc_i2 ?_
  refine zj_iadd JC (pc := 345) (zq_d eL4 9 rfl) ?_
  refine zj_sld JC (pc := 346) (zq_d eL4 10 rfl) hv2 ?_
  refine zj_Vx JC (pc := 347) (r1 := (r, X1)) [_, _] (zq_d eL4 11 rfl) (s_X10_inside G N _ j X _ _) hfx zd_X10_inside zl_law_31 (ox_0 j) rfl rfl rfl rfl (Nat.le_of_ble_eq_true rfl) (Nat.le_of_ble_eq_true rfl) (Nat.le_of_ble_eq_true rfl) ⟨(by show kc + 0 ≤ _; omega), (by show kn + 0 ≤ _; omega)⟩ (zq_dmx j) ?_
  refine zj_aload_n JC (pc := 350) (zq_d eL4 12 rfl) 2 rfl rfl ?_
  refine zj_aload_n JC (pc := 351) (zq_d eL4 13 rfl) 0 rfl rfl ?_
  refine zj_iload_n JC (pc := 352) (zq_d eL4 14 rfl) 3 rfl rfl ?_
  refine zj_iconst JC (pc := 353) (zq_d eL4 15 rfl) zc_i1 ?_
  refine zj_iadd JC (pc := 354) (zq_d eL4 16 rfl) ?_
  refine zj_sld JC (pc := 355) (zq_d eL4 17 rfl) hv1 ?_
  refine zj_aload_n JC (pc := 356) (zq_d eL4 18 rfl) 0 rfl rfl ?_
  refine zj_iload_n JC (pc := 357) (zq_d eL4 19 rfl) 3 rfl rfl ?_
  refine zj_iconst JC (pc := 358) (zq_d eL4 20 rfl) zc_i2 ?_
  refine zj_iadd JC (pc := 359) (zq_d eL4 21 rfl) ?_
  refine zj_sld JC (pc := 360) (zq_d eL4 22 rfl) hv2 ?_
  refine zj_Vm JC (pc := 361) (r1 := (r, M1)) [_, _] (zq_d eL4 23 rfl) (s_X11_inside G N _ M _ _) hfm zd_X11_inside zl_law_34 om_69 rfl rfl rfl rfl (Nat.le_of_ble_eq_true rfl) (Nat.le_of_ble_eq_true rfl) (Nat.le_of_ble_eq_true rfl) ⟨(by show kc + 0 + 0 ≤ _; omega), (by show kn + 0 + 0 ≤ _; omega)⟩ (zq_dxm j) ?_
  refine zj_eq JC (pc := 364) 1308 (zq_d eL4 24 rfl) (by decide) ?_
  exact zj_wid (kc2 := kc + 5) (kn2 := kn + 137) (by show kc + 0 + 0 ≤ _; omega) (by show kn + 0 + 0 ≤ _; omega) (K j X1 M1 hI2)
set_option maxRecDepth 20000 in
set_option maxHeartbeats 8000000 in
theorem zl_case5 (JC : zq_JC p s m meth c b L xs G) {N : Nat} {I : Nat → Nat → zq_M → zq_M → Prop} (hop : zq_op_feed N I) {q j kc kn : Nat} {X M : zq_M} {i : Int32} (hq : q < 512) (hI : I q j X M) (hv1 : vp_in (i + 1) L) (hv2 : vp_in (i + 2) L) (hv3 : vp_in (i + 3) L) (hv4 : vp_in (i + 4) L) (hv5 : vp_in (i + 5) L) (h1 : kc + 5 ≤ 600000) (h2 : kn + 137 ≤ 7302249) (K : ∀ (j1 : Nat) (X1 M1 : zq_M), I (q + 1) j1 X1 M1 → zq_J p e s m below meth c b G (kc + 5) (kn + 137) 1308 [(0, .ref b), (1, .ref (zq_ad G 0)), (2, .ref (zq_ad G 69)), (3, .int i)] [] (zq_shX j1) X1 zq_shM M1 (zq_ad G 141)) : zq_J p e s m below meth c b G kc kn 369 [(0, .ref b), (1, .ref (zq_ad G 0)), (2, .ref (zq_ad G 69)), (3, .int i)] [] (zq_shX j) X zq_shM M (zq_ad G 141) := by
  obtain ⟨r, X1, M1, hfx, hfm, hI2⟩ := hop q j X M (xs (i + 1).toNatClampNeg) hq hI
  refine zj_aload_n JC (pc := 369) (zq_d eL5 0 rfl) 1 rfl rfl ?_
  refine zj_aload_n JC (pc := 370) (zq_d eL5 1 rfl) 0 rfl rfl ?_
  refine zj_iload_n JC (pc := 371) (zq_d eL5 2 rfl) 3 rfl rfl ?_
  refine zj_iconst JC (pc := 372) (zq_d eL5 3 rfl) zc_i1 ?_
  refine zj_iadd JC (pc := 373) (zq_d eL5 4 rfl) ?_
  refine zj_sld JC (pc := 374) (zq_d eL5 5 rfl) hv1 ?_
  refine zj_Vx JC (pc := 375) (r1 := (r, X1)) [_] (zq_d eL5 6 rfl) (s_X10_feed G N _ j X _) hfx zd_X10_feed zl_law_35 (ox_0 j) rfl rfl rfl rfl (Nat.le_of_ble_eq_true rfl) (Nat.le_of_ble_eq_true rfl) (Nat.le_of_ble_eq_true rfl) ⟨(by show kc + 0 ≤ _; omega), (by show kn + 0 ≤ _; omega)⟩ (zq_dmx j) ?_
  refine zj_aload_n JC (pc := 378) (zq_d eL5 7 rfl) 2 rfl rfl ?_
  refine zj_aload_n JC (pc := 379) (zq_d eL5 8 rfl) 0 rfl rfl ?_
  refine zj_iload_n JC (pc := 380) (zq_d eL5 9 rfl) 3 rfl rfl ?_
  refine zj_iconst JC (pc := 381) (zq_d eL5 10 rfl) zc_i1 ?_
  refine zj_iadd JC (pc := 382) (zq_d eL5 11 rfl) ?_
  refine zj_sld JC (pc := 383) (zq_d eL5 12 rfl) hv1 ?_
  refine zj_Vm JC (pc := 384) (r1 := (r, M1)) [_] (zq_d eL5 13 rfl) (s_X11_feed G N _ M _) hfm zd_X11_feed zl_law_39 om_69 rfl rfl rfl rfl (Nat.le_of_ble_eq_true rfl) (Nat.le_of_ble_eq_true rfl) (Nat.le_of_ble_eq_true rfl) ⟨(by show kc + 0 + 0 ≤ _; omega), (by show kn + 0 + 0 ≤ _; omega)⟩ (zq_dxm j) ?_
  refine zj_eq JC (pc := 387) 1308 (zq_d eL5 14 rfl) (by decide) ?_
  exact zj_wid (kc2 := kc + 5) (kn2 := kn + 137) (by show kc + 0 + 0 ≤ _; omega) (by show kn + 0 + 0 ≤ _; omega) (K j X1 M1 hI2)
set_option maxRecDepth 20000 in
set_option maxHeartbeats 8000000 in
theorem zl_case6 (JC : zq_JC p s m meth c b L xs G) {N : Nat} {I : Nat → Nat → zq_M → zq_M → Prop} (hop : zq_op_house N I) {q j kc kn : Nat} {X M : zq_M} {i : Int32} (hq : q < 512) (hI : I q j X M) (hv1 : vp_in (i + 1) L) (hv2 : vp_in (i + 2) L) (hv3 : vp_in (i + 3) L) (hv4 : vp_in (i + 4) L) (hv5 : vp_in (i + 5) L) (h1 : kc + 5 ≤ 600000) (h2 : kn + 137 ≤ 7302249) (K : ∀ (j1 : Nat) (X1 M1 : zq_M), I (q + 1) j1 X1 M1 → zq_J p e s m below meth c b G (kc + 5) (kn + 137) 1308 [(0, .ref b), (1, .ref (zq_ad G 0)), (2, .ref (zq_ad G 69)), (3, .int i)] [] (zq_shX j1) X1 zq_shM M1 (zq_ad G 141)) : zq_J p e s m below meth c b G kc kn 392 [(0, .ref b), (1, .ref (zq_ad G 0)), (2, .ref (zq_ad G 69)), (3, .int i)] [] (zq_shX j) X zq_shM M (zq_ad G 141) := by
  obtain ⟨r, X1, M1, hfx, hfm, hI2⟩ := hop q j X M  hq hI
  refine zj_aload_n JC (pc := 392) (zq_d eL6 0 rfl) 1 rfl rfl ?_
  refine zj_Vx JC (pc := 393) (r1 := (r, X1)) [] (zq_d eL6 1 rfl) (s_X10_house G N _ j X ) hfx zd_X10_house zl_law_40 (ox_0 j) rfl rfl rfl rfl (Nat.le_of_ble_eq_true rfl) (Nat.le_of_ble_eq_true rfl) (Nat.le_of_ble_eq_true rfl) ⟨(by show kc + 0 ≤ _; omega), (by show kn + 0 ≤ _; omega)⟩ (zq_dmx j) ?_
  refine zj_aload_n JC (pc := 396) (zq_d eL6 2 rfl) 2 rfl rfl ?_
  refine zj_Vm JC (pc := 397) (r1 := (r, M1)) [] (zq_d eL6 3 rfl) (s_X11_house G N _ M ) hfm zd_X11_house zl_law_44 om_69 rfl rfl rfl rfl (Nat.le_of_ble_eq_true rfl) (Nat.le_of_ble_eq_true rfl) (Nat.le_of_ble_eq_true rfl) ⟨(by show kc + 0 + 0 ≤ _; omega), (by show kn + 0 + 0 ≤ _; omega)⟩ (zq_dxm j) ?_
  refine zj_eq JC (pc := 400) 1308 (zq_d eL6 4 rfl) (by decide) ?_
  exact zj_wid (kc2 := kc + 5) (kn2 := kn + 137) (by show kc + 0 + 0 ≤ _; omega) (by show kn + 0 + 0 ≤ _; omega) (K j X1 M1 hI2)
set_option maxRecDepth 20000 in
set_option maxHeartbeats 8000000 in
theorem zl_case7 (JC : zq_JC p s m meth c b L xs G) {N : Nat} {I : Nat → Nat → zq_M → zq_M → Prop} (hop : zq_op_told N I) {q j kc kn : Nat} {X M : zq_M} {i : Int32} (hq : q < 512) (hI : I q j X M) (hv1 : vp_in (i + 1) L) (hv2 : vp_in (i + 2) L) (hv3 : vp_in (i + 3) L) (hv4 : vp_in (i + 4) L) (hv5 : vp_in (i + 5) L) (h1 : kc + 5 ≤ 600000) (h2 : kn + 137 ≤ 7302249) (K : ∀ (j1 : Nat) (X1 M1 : zq_M), I (q + 1) j1 X1 M1 → zq_J p e s m below meth c b G (kc + 5) (kn + 137) 1308 [(0, .ref b), (1, .ref (zq_ad G 0)), (2, .ref (zq_ad G 69)), (3, .int i)] [] (zq_shX j1) X1 zq_shM M1 (zq_ad G 141)) : zq_J p e s m below meth c b G kc kn 405 [(0, .ref b), (1, .ref (zq_ad G 0)), (2, .ref (zq_ad G 69)), (3, .int i)] [] (zq_shX j) X zq_shM M (zq_ad G 141) := by
  obtain ⟨r, hfx, hfm, hI2⟩ := hop q j X M (xs (i + 1).toNatClampNeg) hq hI
  refine zj_aload_n JC (pc := 405) (zq_d eL7 0 rfl) 1 rfl rfl ?_
  refine zj_aload_n JC (pc := 406) (zq_d eL7 1 rfl) 0 rfl rfl ?_
  refine zj_iload_n JC (pc := 407) (zq_d eL7 2 rfl) 3 rfl rfl ?_
  refine zj_iconst JC (pc := 408) (zq_d eL7 3 rfl) zc_i1 ?_
  refine zj_iadd JC (pc := 409) (zq_d eL7 4 rfl) ?_
  refine zj_sld JC (pc := 410) (zq_d eL7 5 rfl) hv1 ?_
  refine zj_Vx JC (pc := 411) (r1 := r) [_] (zq_d eL7 6 rfl) (s_X10_told G N _ j X _) hfx zd_X10_told zl_law_45 (ox_0 j) rfl rfl rfl rfl (Nat.le_of_ble_eq_true rfl) (Nat.le_of_ble_eq_true rfl) (Nat.le_of_ble_eq_true rfl) ⟨(by show kc + 0 ≤ _; omega), (by show kn + 0 ≤ _; omega)⟩ (zq_dmx j) ?_
  refine zj_aload_n JC (pc := 414) (zq_d eL7 7 rfl) 2 rfl rfl ?_
  refine zj_aload_n JC (pc := 415) (zq_d eL7 8 rfl) 0 rfl rfl ?_
  refine zj_iload_n JC (pc := 416) (zq_d eL7 9 rfl) 3 rfl rfl ?_
  refine zj_iconst JC (pc := 417) (zq_d eL7 10 rfl) zc_i1 ?_
  refine zj_iadd JC (pc := 418) (zq_d eL7 11 rfl) ?_
  refine zj_sld JC (pc := 419) (zq_d eL7 12 rfl) hv1 ?_
  refine zj_Vm JC (pc := 420) (r1 := r) [_] (zq_d eL7 13 rfl) (s_X11_told G N _ M _) hfm zd_X11_told zl_law_48 om_69 rfl rfl rfl rfl (Nat.le_of_ble_eq_true rfl) (Nat.le_of_ble_eq_true rfl) (Nat.le_of_ble_eq_true rfl) ⟨(by show kc + 0 + 0 ≤ _; omega), (by show kn + 0 + 0 ≤ _; omega)⟩ (zq_dxm j) ?_
  refine zj_eq JC (pc := 423) 1308 (zq_d eL7 14 rfl) (by decide) ?_
  exact zj_wid (kc2 := kc + 5) (kn2 := kn + 137) (by show kc + 0 + 0 ≤ _; omega) (by show kn + 0 + 0 ≤ _; omega) (K j X M hI2)
set_option maxRecDepth 20000 in
set_option maxHeartbeats 8000000 in
theorem zl_case8 (JC : zq_JC p s m meth c b L xs G) {N : Nat} {I : Nat → Nat → zq_M → zq_M → Prop} (hop : zq_op_coming N I) {q j kc kn : Nat} {X M : zq_M} {i : Int32} (hq : q < 512) (hI : I q j X M) (hv1 : vp_in (i + 1) L) (hv2 : vp_in (i + 2) L) (hv3 : vp_in (i + 3) L) (hv4 : vp_in (i + 4) L) (hv5 : vp_in (i + 5) L) (h1 : kc + 5 ≤ 600000) (h2 : kn + 137 ≤ 7302249) (K : ∀ (j1 : Nat) (X1 M1 : zq_M), I (q + 1) j1 X1 M1 → zq_J p e s m below meth c b G (kc + 5) (kn + 137) 1308 [(0, .ref b), (1, .ref (zq_ad G 0)), (2, .ref (zq_ad G 69)), (3, .int i)] [] (zq_shX j1) X1 zq_shM M1 (zq_ad G 141)) : zq_J p e s m below meth c b G kc kn 428 [(0, .ref b), (1, .ref (zq_ad G 0)), (2, .ref (zq_ad G 69)), (3, .int i)] [] (zq_shX j) X zq_shM M (zq_ad G 141) := by
  obtain ⟨r, X1, M1, hfx, hfm, hI2⟩ := hop q j X M (xs (i + 1).toNatClampNeg) (xs (i + 2).toNatClampNeg) (xs (i + 3).toNatClampNeg) hq hI
  refine zj_aload_n JC (pc := 428) (zq_d eL8 0 rfl) 1 rfl rfl ?_
  refine zj_aload_n JC (pc := 429) (zq_d eL8 1 rfl) 0 rfl rfl ?_
  refine zj_iload_n JC (pc := 430) (zq_d eL8 2 rfl) 3 rfl rfl ?_
  refine zj_iconst JC (pc := 431) (zq_d eL8 3 rfl) zc_i1 ?_
  refine zj_iadd JC (pc := 432) (zq_d eL8 4 rfl) ?_
  refine zj_sld JC (pc := 433) (zq_d eL8 5 rfl) hv1 ?_
  refine zj_aload_n JC (pc := 434) (zq_d eL8 6 rfl) 0 rfl rfl ?_
  refine zj_iload_n JC (pc := 435) (zq_d eL8 7 rfl) 3 rfl rfl ?_
  refine zj_iconst JC (pc := 436) (zq_d eL8 8 rfl) zc_i2 ?_
  refine zj_iadd JC (pc := 437) (zq_d eL8 9 rfl) ?_
  refine zj_sld JC (pc := 438) (zq_d eL8 10 rfl) hv2 ?_
  refine zj_aload_n JC (pc := 439) (zq_d eL8 11 rfl) 0 rfl rfl ?_
  refine zj_iload_n JC (pc := 440) (zq_d eL8 12 rfl) 3 rfl rfl ?_
  refine zj_iconst JC (pc := 441) (zq_d eL8 13 rfl) zc_i3 ?_
  refine zj_iadd JC (pc := 442) (zq_d eL8 14 rfl) ?_
  refine zj_sld JC (pc := 443) (zq_d eL8 15 rfl) hv3 ?_
  refine zj_Vx JC (pc := 444) (r1 := (r, X1)) [_, _, _] (zq_d eL8 16 rfl) (s_X10_coming G N _ j X _ _ _) hfx zd_X10_coming zl_law_49 (ox_0 j) rfl rfl rfl rfl (Nat.le_of_ble_eq_true rfl) (Nat.le_of_ble_eq_true rfl) (Nat.le_of_ble_eq_true rfl) ⟨(by show kc + 0 ≤ _; omega), (by show kn + 0 ≤ _; omega)⟩ (zq_dmx j) ?_
  refine zj_aload_n JC (pc := 447) (zq_d eL8 17 rfl) 2 rfl rfl ?_
  refine zj_aload_n JC (pc := 448) (zq_d eL8 18 rfl) 0 rfl rfl ?_
  refine zj_iload_n JC (pc := 449) (zq_d eL8 19 rfl) 3 rfl rfl ?_
  refine zj_iconst JC (pc := 450) (zq_d eL8 20 rfl) zc_i1 ?_
  refine zj_iadd JC (pc := 451) (zq_d eL8 21 rfl) ?_
  refine zj_sld JC (pc := 452) (zq_d eL8 22 rfl) hv1 ?_
  refine zj_aload_n JC (pc := 453) (zq_d eL8 23 rfl) 0 rfl rfl ?_
  refine zj_iload_n JC (pc := 454) (zq_d eL8 24 rfl) 3 rfl rfl ?_
  refine zj_iconst JC (pc := 455) (zq_d eL8 25 rfl) zc_i2 ?_
  refine zj_iadd JC (pc := 456) (zq_d eL8 26 rfl) ?_
  refine zj_sld JC (pc := 457) (zq_d eL8 27 rfl) hv2 ?_
  refine zj_aload_n JC (pc := 458) (zq_d eL8 28 rfl) 0 rfl rfl ?_
  refine zj_iload_n JC (pc := 459) (zq_d eL8 29 rfl) 3 rfl rfl ?_
  refine zj_iconst JC (pc := 460) (zq_d eL8 30 rfl) zc_i3 ?_
  refine zj_iadd JC (pc := 461) (zq_d eL8 31 rfl) ?_
  refine zj_sld JC (pc := 462) (zq_d eL8 32 rfl) hv3 ?_
  refine zj_Vm JC (pc := 463) (r1 := (r, M1)) [_, _, _] (zq_d eL8 33 rfl) (s_X11_coming G N _ M _ _ _) hfm zd_X11_coming zl_law_52 om_69 rfl rfl rfl rfl (Nat.le_of_ble_eq_true rfl) (Nat.le_of_ble_eq_true rfl) (Nat.le_of_ble_eq_true rfl) ⟨(by show kc + 0 + 0 ≤ _; omega), (by show kn + 0 + 0 ≤ _; omega)⟩ (zq_dxm j) ?_
  refine zj_eq JC (pc := 466) 1308 (zq_d eL8 34 rfl) (by decide) ?_
  exact zj_wid (kc2 := kc + 5) (kn2 := kn + 137) (by show kc + 0 + 0 ≤ _; omega) (by show kn + 0 + 0 ≤ _; omega) (K j X1 M1 hI2)
set_option maxRecDepth 20000 in
set_option maxHeartbeats 8000000 in
theorem zl_case9 (JC : zq_JC p s m meth c b L xs G) {N : Nat} {I : Nat → Nat → zq_M → zq_M → Prop} (hop : zq_op_come N I) {q j kc kn : Nat} {X M : zq_M} {i : Int32} (hq : q < 512) (hI : I q j X M) (hv1 : vp_in (i + 1) L) (hv2 : vp_in (i + 2) L) (hv3 : vp_in (i + 3) L) (hv4 : vp_in (i + 4) L) (hv5 : vp_in (i + 5) L) (h1 : kc + 5 ≤ 600000) (h2 : kn + 137 ≤ 7302249) (K : ∀ (j1 : Nat) (X1 M1 : zq_M), I (q + 1) j1 X1 M1 → zq_J p e s m below meth c b G (kc + 5) (kn + 137) 1308 [(0, .ref b), (1, .ref (zq_ad G 0)), (2, .ref (zq_ad G 69)), (3, .int i)] [] (zq_shX j1) X1 zq_shM M1 (zq_ad G 141)) : zq_J p e s m below meth c b G kc kn 471 [(0, .ref b), (1, .ref (zq_ad G 0)), (2, .ref (zq_ad G 69)), (3, .int i)] [] (zq_shX j) X zq_shM M (zq_ad G 141) := by
  obtain ⟨r, X1, M1, hfx, hfm, hI2⟩ := hop q j X M (xs (i + 1).toNatClampNeg) (xs (i + 2).toNatClampNeg) hq hI
  refine zj_aload_n JC (pc := 471) (zq_d eL9 0 rfl) 1 rfl rfl ?_
  refine zj_aload_n JC (pc := 472) (zq_d eL9 1 rfl) 0 rfl rfl ?_
  refine zj_iload_n JC (pc := 473) (zq_d eL9 2 rfl) 3 rfl rfl ?_
  refine zj_iconst JC (pc := 474) (zq_d eL9 3 rfl) zc_i1 ?_
  refine zj_iadd JC (pc := 475) (zq_d eL9 4 rfl) ?_
  refine zj_sld JC (pc := 476) (zq_d eL9 5 rfl) hv1 ?_
  refine zj_aload_n JC (pc := 477) (zq_d eL9 6 rfl) 0 rfl rfl ?_
  refine zj_iload_n JC (pc := 478) (zq_d eL9 7 rfl) 3 rfl rfl ?_
  refine zj_iconst JC (pc := 479) (zq_d eL9 8 rfl) zc_i2 ?_
  refine zj_iadd JC (pc := 480) (zq_d eL9 9 rfl) ?_
  refine zj_sld JC (pc := 481) (zq_d eL9 10 rfl) hv2 ?_
  refine zj_Vx JC (pc := 482) (r1 := (r, X1)) [_, _] (zq_d eL9 11 rfl) (s_X10_come G N _ j X _ _) hfx zd_X10_come zl_law_53 (ox_0 j) rfl rfl rfl rfl (Nat.le_of_ble_eq_true rfl) (Nat.le_of_ble_eq_true rfl) (Nat.le_of_ble_eq_true rfl) ⟨(by show kc + 0 ≤ _; omega), (by show kn + 0 ≤ _; omega)⟩ (zq_dmx j) ?_
  refine zj_aload_n JC (pc := 485) (zq_d eL9 12 rfl) 2 rfl rfl ?_
  refine zj_aload_n JC (pc := 486) (zq_d eL9 13 rfl) 0 rfl rfl ?_
  refine zj_iload_n JC (pc := 487) (zq_d eL9 14 rfl) 3 rfl rfl ?_
  refine zj_iconst JC (pc := 488) (zq_d eL9 15 rfl) zc_i1 ?_
  refine zj_iadd JC (pc := 489) (zq_d eL9 16 rfl) ?_
  refine zj_sld JC (pc := 490) (zq_d eL9 17 rfl) hv1 ?_
  refine zj_aload_n JC (pc := 491) (zq_d eL9 18 rfl) 0 rfl rfl ?_
  refine zj_iload_n JC (pc := 492) (zq_d eL9 19 rfl) 3 rfl rfl ?_
  refine zj_iconst JC (pc := 493) (zq_d eL9 20 rfl) zc_i2 ?_
  refine zj_iadd JC (pc := 494) (zq_d eL9 21 rfl) ?_
  refine zj_sld JC (pc := 495) (zq_d eL9 22 rfl) hv2 ?_
  refine zj_Vm JC (pc := 496) (r1 := (r, M1)) [_, _] (zq_d eL9 23 rfl) (s_X11_come G N _ M _ _) hfm zd_X11_come zl_law_56 om_69 rfl rfl rfl rfl (Nat.le_of_ble_eq_true rfl) (Nat.le_of_ble_eq_true rfl) (Nat.le_of_ble_eq_true rfl) ⟨(by show kc + 0 + 0 ≤ _; omega), (by show kn + 0 + 0 ≤ _; omega)⟩ (zq_dxm j) ?_
  refine zj_eq JC (pc := 499) 1308 (zq_d eL9 24 rfl) (by decide) ?_
  exact zj_wid (kc2 := kc + 5) (kn2 := kn + 137) (by show kc + 0 + 0 ≤ _; omega) (by show kn + 0 + 0 ≤ _; omega) (K j X1 M1 hI2)
set_option maxRecDepth 20000 in
set_option maxHeartbeats 8000000 in
theorem zl_case10 (JC : zq_JC p s m meth c b L xs G) {N : Nat} {I : Nat → Nat → zq_M → zq_M → Prop} (hop : zq_op_say N I) {q j kc kn : Nat} {X M : zq_M} {i : Int32} (hq : q < 512) (hI : I q j X M) (hv1 : vp_in (i + 1) L) (hv2 : vp_in (i + 2) L) (hv3 : vp_in (i + 3) L) (hv4 : vp_in (i + 4) L) (hv5 : vp_in (i + 5) L) (h1 : kc + 5 ≤ 600000) (h2 : kn + 137 ≤ 7302249) (K : ∀ (j1 : Nat) (X1 M1 : zq_M), I (q + 1) j1 X1 M1 → zq_J p e s m below meth c b G (kc + 5) (kn + 137) 1308 [(0, .ref b), (1, .ref (zq_ad G 0)), (2, .ref (zq_ad G 69)), (3, .int i)] [] (zq_shX j1) X1 zq_shM M1 (zq_ad G 141)) : zq_J p e s m below meth c b G kc kn 504 [(0, .ref b), (1, .ref (zq_ad G 0)), (2, .ref (zq_ad G 69)), (3, .int i)] [] (zq_shX j) X zq_shM M (zq_ad G 141) := by
  obtain ⟨r, X1, M1, hfx, hfm, hI2⟩ := hop q j X M (xs (i + 1).toNatClampNeg) (xs (i + 2).toNatClampNeg) hq hI
  refine zj_aload_n JC (pc := 504) (zq_d eL10 0 rfl) 1 rfl rfl ?_
  refine zj_aload_n JC (pc := 505) (zq_d eL10 1 rfl) 0 rfl rfl ?_
  refine zj_iload_n JC (pc := 506) (zq_d eL10 2 rfl) 3 rfl rfl ?_
  refine zj_iconst JC (pc := 507) (zq_d eL10 3 rfl) zc_i1 ?_
  refine zj_iadd JC (pc := 508) (zq_d eL10 4 rfl) ?_
  refine zj_sld JC (pc := 509) (zq_d eL10 5 rfl) hv1 ?_
  refine zj_aload_n JC (pc := 510) (zq_d eL10 6 rfl) 0 rfl rfl ?_
  refine zj_iload_n JC (pc := 511) (zq_d eL10 7 rfl) 3 rfl rfl ?_
  refine zj_iconst JC (pc := 512) (zq_d eL10 8 rfl) zc_i2 ?_
  refine zj_iadd JC (pc := 513) (zq_d eL10 9 rfl) ?_
  refine zj_sld JC (pc := 514) (zq_d eL10 10 rfl) hv2 ?_
  refine zj_Vx JC (pc := 515) (r1 := (r, X1)) [_, _] (zq_d eL10 11 rfl) (s_X10_say G N _ j X _ _) hfx zd_X10_say zl_law_57 (ox_0 j) rfl rfl rfl rfl (Nat.le_of_ble_eq_true rfl) (Nat.le_of_ble_eq_true rfl) (Nat.le_of_ble_eq_true rfl) ⟨(by show kc + 0 ≤ _; omega), (by show kn + 0 ≤ _; omega)⟩ (zq_dmx j) ?_
  refine zj_aload_n JC (pc := 518) (zq_d eL10 12 rfl) 2 rfl rfl ?_
  refine zj_aload_n JC (pc := 519) (zq_d eL10 13 rfl) 0 rfl rfl ?_
  refine zj_iload_n JC (pc := 520) (zq_d eL10 14 rfl) 3 rfl rfl ?_
  refine zj_iconst JC (pc := 521) (zq_d eL10 15 rfl) zc_i1 ?_
  refine zj_iadd JC (pc := 522) (zq_d eL10 16 rfl) ?_
  refine zj_sld JC (pc := 523) (zq_d eL10 17 rfl) hv1 ?_
  refine zj_aload_n JC (pc := 524) (zq_d eL10 18 rfl) 0 rfl rfl ?_
  refine zj_iload_n JC (pc := 525) (zq_d eL10 19 rfl) 3 rfl rfl ?_
  refine zj_iconst JC (pc := 526) (zq_d eL10 20 rfl) zc_i2 ?_
  refine zj_iadd JC (pc := 527) (zq_d eL10 21 rfl) ?_
  refine zj_sld JC (pc := 528) (zq_d eL10 22 rfl) hv2 ?_
  refine zj_Vm JC (pc := 529) (r1 := (r, M1)) [_, _] (zq_d eL10 23 rfl) (s_X11_say G N _ M _ _) hfm zd_X11_say zl_law_60 om_69 rfl rfl rfl rfl (Nat.le_of_ble_eq_true rfl) (Nat.le_of_ble_eq_true rfl) (Nat.le_of_ble_eq_true rfl) ⟨(by show kc + 0 + 0 ≤ _; omega), (by show kn + 0 + 0 ≤ _; omega)⟩ (zq_dxm j) ?_
  refine zj_eq JC (pc := 532) 1308 (zq_d eL10 24 rfl) (by decide) ?_
  exact zj_wid (kc2 := kc + 5) (kn2 := kn + 137) (by show kc + 0 + 0 ≤ _; omega) (by show kn + 0 + 0 ≤ _; omega) (K j X1 M1 hI2)
set_option maxRecDepth 20000 in
set_option maxHeartbeats 8000000 in
theorem zl_case11 (JC : zq_JC p s m meth c b L xs G) {N : Nat} {I : Nat → Nat → zq_M → zq_M → Prop} (hop : zq_op_soonest N I) {q j kc kn : Nat} {X M : zq_M} {i : Int32} (hq : q < 512) (hI : I q j X M) (hv1 : vp_in (i + 1) L) (hv2 : vp_in (i + 2) L) (hv3 : vp_in (i + 3) L) (hv4 : vp_in (i + 4) L) (hv5 : vp_in (i + 5) L) (h1 : kc + 5 ≤ 600000) (h2 : kn + 137 ≤ 7302249) (K : ∀ (j1 : Nat) (X1 M1 : zq_M), I (q + 1) j1 X1 M1 → zq_J p e s m below meth c b G (kc + 5) (kn + 137) 1308 [(0, .ref b), (1, .ref (zq_ad G 0)), (2, .ref (zq_ad G 69)), (3, .int i)] [] (zq_shX j1) X1 zq_shM M1 (zq_ad G 141)) : zq_J p e s m below meth c b G kc kn 537 [(0, .ref b), (1, .ref (zq_ad G 0)), (2, .ref (zq_ad G 69)), (3, .int i)] [] (zq_shX j) X zq_shM M (zq_ad G 141) := by
  obtain ⟨r, X1, M1, hfx, hfm, hI2⟩ := hop q j X M (xs (i + 1).toNatClampNeg) (xs (i + 2).toNatClampNeg) (xs (i + 3).toNatClampNeg) hq hI
  refine zj_aload_n JC (pc := 537) (zq_d eL11 0 rfl) 1 rfl rfl ?_
  refine zj_aload_n JC (pc := 538) (zq_d eL11 1 rfl) 0 rfl rfl ?_
  refine zj_iload_n JC (pc := 539) (zq_d eL11 2 rfl) 3 rfl rfl ?_
  refine zj_iconst JC (pc := 540) (zq_d eL11 3 rfl) zc_i1 ?_
  refine zj_iadd JC (pc := 541) (zq_d eL11 4 rfl) ?_
  refine zj_sld JC (pc := 542) (zq_d eL11 5 rfl) hv1 ?_
  refine zj_aload_n JC (pc := 543) (zq_d eL11 6 rfl) 0 rfl rfl ?_
  refine zj_iload_n JC (pc := 544) (zq_d eL11 7 rfl) 3 rfl rfl ?_
  refine zj_iconst JC (pc := 545) (zq_d eL11 8 rfl) zc_i2 ?_
  refine zj_iadd JC (pc := 546) (zq_d eL11 9 rfl) ?_
  refine zj_sld JC (pc := 547) (zq_d eL11 10 rfl) hv2 ?_
  refine zj_aload_n JC (pc := 548) (zq_d eL11 11 rfl) 0 rfl rfl ?_
  refine zj_iload_n JC (pc := 549) (zq_d eL11 12 rfl) 3 rfl rfl ?_
  refine zj_iconst JC (pc := 550) (zq_d eL11 13 rfl) zc_i3 ?_
  refine zj_iadd JC (pc := 551) (zq_d eL11 14 rfl) ?_
  refine zj_sld JC (pc := 552) (zq_d eL11 15 rfl) hv3 ?_
  refine zj_Vx JC (pc := 553) (r1 := (r, X1)) [_, _, _] (zq_d eL11 16 rfl) (s_X10_soonest G N _ j X _ _ _) hfx zd_X10_soonest zl_law_61 (ox_0 j) rfl rfl rfl rfl (Nat.le_of_ble_eq_true rfl) (Nat.le_of_ble_eq_true rfl) (Nat.le_of_ble_eq_true rfl) ⟨(by show kc + 0 ≤ _; omega), (by show kn + 0 ≤ _; omega)⟩ (zq_dmx j) ?_
  refine zj_aload_n JC (pc := 556) (zq_d eL11 17 rfl) 2 rfl rfl ?_
  refine zj_aload_n JC (pc := 557) (zq_d eL11 18 rfl) 0 rfl rfl ?_
  refine zj_iload_n JC (pc := 558) (zq_d eL11 19 rfl) 3 rfl rfl ?_
  refine zj_iconst JC (pc := 559) (zq_d eL11 20 rfl) zc_i1 ?_
  refine zj_iadd JC (pc := 560) (zq_d eL11 21 rfl) ?_
  refine zj_sld JC (pc := 561) (zq_d eL11 22 rfl) hv1 ?_
  refine zj_aload_n JC (pc := 562) (zq_d eL11 23 rfl) 0 rfl rfl ?_
  refine zj_iload_n JC (pc := 563) (zq_d eL11 24 rfl) 3 rfl rfl ?_
  refine zj_iconst JC (pc := 564) (zq_d eL11 25 rfl) zc_i2 ?_
  refine zj_iadd JC (pc := 565) (zq_d eL11 26 rfl) ?_
  refine zj_sld JC (pc := 566) (zq_d eL11 27 rfl) hv2 ?_
  refine zj_aload_n JC (pc := 567) (zq_d eL11 28 rfl) 0 rfl rfl ?_
  refine zj_iload_n JC (pc := 568) (zq_d eL11 29 rfl) 3 rfl rfl ?_
  refine zj_iconst JC (pc := 569) (zq_d eL11 30 rfl) zc_i3 ?_
  refine zj_iadd JC (pc := 570) (zq_d eL11 31 rfl) ?_
  refine zj_sld JC (pc := 571) (zq_d eL11 32 rfl) hv3 ?_
  refine zj_Vm JC (pc := 572) (r1 := (r, M1)) [_, _, _] (zq_d eL11 33 rfl) (s_X11_soonest G N _ M _ _ _) hfm zd_X11_soonest zl_law_64 om_69 rfl rfl rfl rfl (Nat.le_of_ble_eq_true rfl) (Nat.le_of_ble_eq_true rfl) (Nat.le_of_ble_eq_true rfl) ⟨(by show kc + 0 + 0 ≤ _; omega), (by show kn + 0 + 0 ≤ _; omega)⟩ (zq_dxm j) ?_
  refine zj_eq JC (pc := 575) 1308 (zq_d eL11 34 rfl) (by decide) ?_
  exact zj_wid (kc2 := kc + 5) (kn2 := kn + 137) (by show kc + 0 + 0 ≤ _; omega) (by show kn + 0 + 0 ≤ _; omega) (K j X1 M1 hI2)
set_option maxRecDepth 20000 in
set_option maxHeartbeats 8000000 in
theorem zl_case12 (JC : zq_JC p s m meth c b L xs G) {N : Nat} {I : Nat → Nat → zq_M → zq_M → Prop} (hop : zq_op_cheapest N I) {q j kc kn : Nat} {X M : zq_M} {i : Int32} (hq : q < 512) (hI : I q j X M) (hv1 : vp_in (i + 1) L) (hv2 : vp_in (i + 2) L) (hv3 : vp_in (i + 3) L) (hv4 : vp_in (i + 4) L) (hv5 : vp_in (i + 5) L) (h1 : kc + 5 ≤ 600000) (h2 : kn + 137 ≤ 7302249) (K : ∀ (j1 : Nat) (X1 M1 : zq_M), I (q + 1) j1 X1 M1 → zq_J p e s m below meth c b G (kc + 5) (kn + 137) 1308 [(0, .ref b), (1, .ref (zq_ad G 0)), (2, .ref (zq_ad G 69)), (3, .int i)] [] (zq_shX j1) X1 zq_shM M1 (zq_ad G 141)) : zq_J p e s m below meth c b G kc kn 580 [(0, .ref b), (1, .ref (zq_ad G 0)), (2, .ref (zq_ad G 69)), (3, .int i)] [] (zq_shX j) X zq_shM M (zq_ad G 141) := by
  obtain ⟨r, X1, M1, hfx, hfm, hI2⟩ := hop q j X M (xs (i + 1).toNatClampNeg) (xs (i + 2).toNatClampNeg) (xs (i + 3).toNatClampNeg) hq hI
  refine zj_aload_n JC (pc := 580) (zq_d eL12 0 rfl) 1 rfl rfl ?_
  refine zj_aload_n JC (pc := 581) (zq_d eL12 1 rfl) 0 rfl rfl ?_
  refine zj_iload_n JC (pc := 582) (zq_d eL12 2 rfl) 3 rfl rfl ?_
  refine zj_iconst JC (pc := 583) (zq_d eL12 3 rfl) zc_i1 ?_
  refine zj_iadd JC (pc := 584) (zq_d eL12 4 rfl) ?_
  refine zj_sld JC (pc := 585) (zq_d eL12 5 rfl) hv1 ?_
  refine zj_aload_n JC (pc := 586) (zq_d eL12 6 rfl) 0 rfl rfl ?_
  refine zj_iload_n JC (pc := 587) (zq_d eL12 7 rfl) 3 rfl rfl ?_
  refine zj_iconst JC (pc := 588) (zq_d eL12 8 rfl) zc_i2 ?_
  refine zj_iadd JC (pc := 589) (zq_d eL12 9 rfl) ?_
  refine zj_sld JC (pc := 590) (zq_d eL12 10 rfl) hv2 ?_
  refine zj_aload_n JC (pc := 591) (zq_d eL12 11 rfl) 0 rfl rfl ?_
  refine zj_iload_n JC (pc := 592) (zq_d eL12 12 rfl) 3 rfl rfl ?_
  refine zj_iconst JC (pc := 593) (zq_d eL12 13 rfl) zc_i3 ?_
  refine zj_iadd JC (pc := 594) (zq_d eL12 14 rfl) ?_
  refine zj_sld JC (pc := 595) (zq_d eL12 15 rfl) hv3 ?_
  refine zj_Vx JC (pc := 596) (r1 := (r, X1)) [_, _, _] (zq_d eL12 16 rfl) (s_X10_cheapest G N _ j X _ _ _) hfx zd_X10_cheapest zl_law_65 (ox_0 j) rfl rfl rfl rfl (Nat.le_of_ble_eq_true rfl) (Nat.le_of_ble_eq_true rfl) (Nat.le_of_ble_eq_true rfl) ⟨(by show kc + 0 ≤ _; omega), (by show kn + 0 ≤ _; omega)⟩ (zq_dmx j) ?_
  refine zj_aload_n JC (pc := 599) (zq_d eL12 17 rfl) 2 rfl rfl ?_
  refine zj_aload_n JC (pc := 600) (zq_d eL12 18 rfl) 0 rfl rfl ?_
  refine zj_iload_n JC (pc := 601) (zq_d eL12 19 rfl) 3 rfl rfl ?_
  refine zj_iconst JC (pc := 602) (zq_d eL12 20 rfl) zc_i1 ?_
  refine zj_iadd JC (pc := 603) (zq_d eL12 21 rfl) ?_
  refine zj_sld JC (pc := 604) (zq_d eL12 22 rfl) hv1 ?_
  refine zj_aload_n JC (pc := 605) (zq_d eL12 23 rfl) 0 rfl rfl ?_
  refine zj_iload_n JC (pc := 606) (zq_d eL12 24 rfl) 3 rfl rfl ?_
  refine zj_iconst JC (pc := 607) (zq_d eL12 25 rfl) zc_i2 ?_
  refine zj_iadd JC (pc := 608) (zq_d eL12 26 rfl) ?_
  refine zj_sld JC (pc := 609) (zq_d eL12 27 rfl) hv2 ?_
  refine zj_aload_n JC (pc := 610) (zq_d eL12 28 rfl) 0 rfl rfl ?_
  refine zj_iload_n JC (pc := 611) (zq_d eL12 29 rfl) 3 rfl rfl ?_
  refine zj_iconst JC (pc := 612) (zq_d eL12 30 rfl) zc_i3 ?_
  refine zj_iadd JC (pc := 613) (zq_d eL12 31 rfl) ?_
  refine zj_sld JC (pc := 614) (zq_d eL12 32 rfl) hv3 ?_
  refine zj_Vm JC (pc := 615) (r1 := (r, M1)) [_, _, _] (zq_d eL12 33 rfl) (s_X11_cheapest G N _ M _ _ _) hfm zd_X11_cheapest zl_law_68 om_69 rfl rfl rfl rfl (Nat.le_of_ble_eq_true rfl) (Nat.le_of_ble_eq_true rfl) (Nat.le_of_ble_eq_true rfl) ⟨(by show kc + 0 + 0 ≤ _; omega), (by show kn + 0 + 0 ≤ _; omega)⟩ (zq_dxm j) ?_
  refine zj_eq JC (pc := 618) 1308 (zq_d eL12 34 rfl) (by decide) ?_
  exact zj_wid (kc2 := kc + 5) (kn2 := kn + 137) (by show kc + 0 + 0 ≤ _; omega) (by show kn + 0 + 0 ≤ _; omega) (K j X1 M1 hI2)
set_option maxRecDepth 20000 in
set_option maxHeartbeats 8000000 in
theorem zl_case13 (JC : zq_JC p s m meth c b L xs G) {N : Nat} {I : Nat → Nat → zq_M → zq_M → Prop} (hop : zq_op_never N I) {q j kc kn : Nat} {X M : zq_M} {i : Int32} (hq : q < 512) (hI : I q j X M) (hv1 : vp_in (i + 1) L) (hv2 : vp_in (i + 2) L) (hv3 : vp_in (i + 3) L) (hv4 : vp_in (i + 4) L) (hv5 : vp_in (i + 5) L) (h1 : kc + 5 ≤ 600000) (h2 : kn + 137 ≤ 7302249) (K : ∀ (j1 : Nat) (X1 M1 : zq_M), I (q + 1) j1 X1 M1 → zq_J p e s m below meth c b G (kc + 5) (kn + 137) 1308 [(0, .ref b), (1, .ref (zq_ad G 0)), (2, .ref (zq_ad G 69)), (3, .int i)] [] (zq_shX j1) X1 zq_shM M1 (zq_ad G 141)) : zq_J p e s m below meth c b G kc kn 623 [(0, .ref b), (1, .ref (zq_ad G 0)), (2, .ref (zq_ad G 69)), (3, .int i)] [] (zq_shX j) X zq_shM M (zq_ad G 141) := by
  obtain ⟨r, X1, M1, hfx, hfm, hI2⟩ := hop q j X M (xs (i + 1).toNatClampNeg) hq hI
  refine zj_aload_n JC (pc := 623) (zq_d eL13 0 rfl) 1 rfl rfl ?_
  refine zj_aload_n JC (pc := 624) (zq_d eL13 1 rfl) 0 rfl rfl ?_
  refine zj_iload_n JC (pc := 625) (zq_d eL13 2 rfl) 3 rfl rfl ?_
  refine zj_iconst JC (pc := 626) (zq_d eL13 3 rfl) zc_i1 ?_
  refine zj_iadd JC (pc := 627) (zq_d eL13 4 rfl) ?_
  refine zj_sld JC (pc := 628) (zq_d eL13 5 rfl) hv1 ?_
  refine zj_Vx JC (pc := 629) (r1 := (r, X1)) [_] (zq_d eL13 6 rfl) (s_X10_never G N _ j X _) hfx zd_X10_never zl_law_69 (ox_0 j) rfl rfl rfl rfl (Nat.le_of_ble_eq_true rfl) (Nat.le_of_ble_eq_true rfl) (Nat.le_of_ble_eq_true rfl) ⟨(by show kc + 0 ≤ _; omega), (by show kn + 0 ≤ _; omega)⟩ (zq_dmx j) ?_
  refine zj_aload_n JC (pc := 632) (zq_d eL13 7 rfl) 2 rfl rfl ?_
  refine zj_aload_n JC (pc := 633) (zq_d eL13 8 rfl) 0 rfl rfl ?_
  refine zj_iload_n JC (pc := 634) (zq_d eL13 9 rfl) 3 rfl rfl ?_
  refine zj_iconst JC (pc := 635) (zq_d eL13 10 rfl) zc_i1 ?_
  refine zj_iadd JC (pc := 636) (zq_d eL13 11 rfl) ?_
  refine zj_sld JC (pc := 637) (zq_d eL13 12 rfl) hv1 ?_
  refine zj_Vm JC (pc := 638) (r1 := (r, M1)) [_] (zq_d eL13 13 rfl) (s_X11_never G N _ M _) hfm zd_X11_never zl_law_72 om_69 rfl rfl rfl rfl (Nat.le_of_ble_eq_true rfl) (Nat.le_of_ble_eq_true rfl) (Nat.le_of_ble_eq_true rfl) ⟨(by show kc + 0 + 0 ≤ _; omega), (by show kn + 0 + 0 ≤ _; omega)⟩ (zq_dxm j) ?_
  refine zj_eq JC (pc := 641) 1308 (zq_d eL13 14 rfl) (by decide) ?_
  exact zj_wid (kc2 := kc + 5) (kn2 := kn + 137) (by show kc + 0 + 0 ≤ _; omega) (by show kn + 0 + 0 ≤ _; omega) (K j X1 M1 hI2)
set_option maxRecDepth 20000 in
set_option maxHeartbeats 8000000 in
theorem zl_case14 (JC : zq_JC p s m meth c b L xs G) {N : Nat} {I : Nat → Nat → zq_M → zq_M → Prop} (hop : zq_op_heard N I) {q j kc kn : Nat} {X M : zq_M} {i : Int32} (hq : q < 512) (hI : I q j X M) (hv1 : vp_in (i + 1) L) (hv2 : vp_in (i + 2) L) (hv3 : vp_in (i + 3) L) (hv4 : vp_in (i + 4) L) (hv5 : vp_in (i + 5) L) (h1 : kc + 5 ≤ 600000) (h2 : kn + 137 ≤ 7302249) (K : ∀ (j1 : Nat) (X1 M1 : zq_M), I (q + 1) j1 X1 M1 → zq_J p e s m below meth c b G (kc + 5) (kn + 137) 1308 [(0, .ref b), (1, .ref (zq_ad G 0)), (2, .ref (zq_ad G 69)), (3, .int i)] [] (zq_shX j1) X1 zq_shM M1 (zq_ad G 141)) : zq_J p e s m below meth c b G kc kn 646 [(0, .ref b), (1, .ref (zq_ad G 0)), (2, .ref (zq_ad G 69)), (3, .int i)] [] (zq_shX j) X zq_shM M (zq_ad G 141) := by
  obtain ⟨r, X1, M1, hfx, hfm, hI2⟩ := hop q j X M (xs (i + 1).toNatClampNeg) hq hI
  refine zj_aload_n JC (pc := 646) (zq_d eL14 0 rfl) 1 rfl rfl ?_
  refine zj_aload_n JC (pc := 647) (zq_d eL14 1 rfl) 0 rfl rfl ?_
  refine zj_iload_n JC (pc := 648) (zq_d eL14 2 rfl) 3 rfl rfl ?_
  refine zj_iconst JC (pc := 649) (zq_d eL14 3 rfl) zc_i1 ?_
  refine zj_iadd JC (pc := 650) (zq_d eL14 4 rfl) ?_
  refine zj_sld JC (pc := 651) (zq_d eL14 5 rfl) hv1 ?_
  refine zj_Vx JC (pc := 652) (r1 := (r, X1)) [_] (zq_d eL14 6 rfl) (s_X10_heard G N _ j X _) hfx zd_X10_heard zl_law_73 (ox_0 j) rfl rfl rfl rfl (Nat.le_of_ble_eq_true rfl) (Nat.le_of_ble_eq_true rfl) (Nat.le_of_ble_eq_true rfl) ⟨(by show kc + 0 ≤ _; omega), (by show kn + 0 ≤ _; omega)⟩ (zq_dmx j) ?_
  refine zj_aload_n JC (pc := 655) (zq_d eL14 7 rfl) 2 rfl rfl ?_
  refine zj_aload_n JC (pc := 656) (zq_d eL14 8 rfl) 0 rfl rfl ?_
  refine zj_iload_n JC (pc := 657) (zq_d eL14 9 rfl) 3 rfl rfl ?_
  refine zj_iconst JC (pc := 658) (zq_d eL14 10 rfl) zc_i1 ?_
  refine zj_iadd JC (pc := 659) (zq_d eL14 11 rfl) ?_
  refine zj_sld JC (pc := 660) (zq_d eL14 12 rfl) hv1 ?_
  refine zj_Vm JC (pc := 661) (r1 := (r, M1)) [_] (zq_d eL14 13 rfl) (s_X11_heard G N _ M _) hfm zd_X11_heard zl_law_76 om_69 rfl rfl rfl rfl (Nat.le_of_ble_eq_true rfl) (Nat.le_of_ble_eq_true rfl) (Nat.le_of_ble_eq_true rfl) ⟨(by show kc + 0 + 0 ≤ _; omega), (by show kn + 0 + 0 ≤ _; omega)⟩ (zq_dxm j) ?_
  refine zj_eq JC (pc := 664) 1308 (zq_d eL14 14 rfl) (by decide) ?_
  exact zj_wid (kc2 := kc + 5) (kn2 := kn + 137) (by show kc + 0 + 0 ≤ _; omega) (by show kn + 0 + 0 ≤ _; omega) (K j X1 M1 hI2)
set_option maxRecDepth 20000 in
set_option maxHeartbeats 8000000 in
theorem zl_case15 (JC : zq_JC p s m meth c b L xs G) {N : Nat} {I : Nat → Nat → zq_M → zq_M → Prop} (hop : zq_op_secret N I) {q j kc kn : Nat} {X M : zq_M} {i : Int32} (hq : q < 512) (hI : I q j X M) (hv1 : vp_in (i + 1) L) (hv2 : vp_in (i + 2) L) (hv3 : vp_in (i + 3) L) (hv4 : vp_in (i + 4) L) (hv5 : vp_in (i + 5) L) (h1 : kc + 5 ≤ 600000) (h2 : kn + 137 ≤ 7302249) (K : ∀ (j1 : Nat) (X1 M1 : zq_M), I (q + 1) j1 X1 M1 → zq_J p e s m below meth c b G (kc + 5) (kn + 137) 1308 [(0, .ref b), (1, .ref (zq_ad G 0)), (2, .ref (zq_ad G 69)), (3, .int i)] [] (zq_shX j1) X1 zq_shM M1 (zq_ad G 141)) : zq_J p e s m below meth c b G kc kn 669 [(0, .ref b), (1, .ref (zq_ad G 0)), (2, .ref (zq_ad G 69)), (3, .int i)] [] (zq_shX j) X zq_shM M (zq_ad G 141) := by
  obtain ⟨r, X1, M1, hfx, hfm, hI2⟩ := hop q j X M (xs (i + 1).toNatClampNeg) (xs (i + 2).toNatClampNeg) (xs (i + 3).toNatClampNeg) hq hI
  refine zj_aload_n JC (pc := 669) (zq_d eL15 0 rfl) 1 rfl rfl ?_
  refine zj_aload_n JC (pc := 670) (zq_d eL15 1 rfl) 0 rfl rfl ?_
  refine zj_iload_n JC (pc := 671) (zq_d eL15 2 rfl) 3 rfl rfl ?_
  refine zj_iconst JC (pc := 672) (zq_d eL15 3 rfl) zc_i1 ?_
  refine zj_iadd JC (pc := 673) (zq_d eL15 4 rfl) ?_
  refine zj_sld JC (pc := 674) (zq_d eL15 5 rfl) hv1 ?_
  refine zj_aload_n JC (pc := 675) (zq_d eL15 6 rfl) 0 rfl rfl ?_
  refine zj_iload_n JC (pc := 676) (zq_d eL15 7 rfl) 3 rfl rfl ?_
  refine zj_iconst JC (pc := 677) (zq_d eL15 8 rfl) zc_i2 ?_
  refine zj_iadd JC (pc := 678) (zq_d eL15 9 rfl) ?_
  refine zj_sld JC (pc := 679) (zq_d eL15 10 rfl) hv2 ?_
  refine zj_aload_n JC (pc := 680) (zq_d eL15 11 rfl) 0 rfl rfl ?_
  refine zj_iload_n JC (pc := 681) (zq_d eL15 12 rfl) 3 rfl rfl ?_
  refine zj_iconst JC (pc := 682) (zq_d eL15 13 rfl) zc_i3 ?_
  refine zj_iadd JC (pc := 683) (zq_d eL15 14 rfl) ?_
  refine zj_sld JC (pc := 684) (zq_d eL15 15 rfl) hv3 ?_
  refine zj_Vx JC (pc := 685) (r1 := (r, X1)) [_, _, _] (zq_d eL15 16 rfl) (s_X10_secret G N _ j X _ _ _) hfx zd_X10_secret zl_law_77 (ox_0 j) rfl rfl rfl rfl (Nat.le_of_ble_eq_true rfl) (Nat.le_of_ble_eq_true rfl) (Nat.le_of_ble_eq_true rfl) ⟨(by show kc + 0 ≤ _; omega), (by show kn + 0 ≤ _; omega)⟩ (zq_dmx j) ?_
  refine zj_aload_n JC (pc := 688) (zq_d eL15 17 rfl) 2 rfl rfl ?_
  refine zj_aload_n JC (pc := 689) (zq_d eL15 18 rfl) 0 rfl rfl ?_
  refine zj_iload_n JC (pc := 690) (zq_d eL15 19 rfl) 3 rfl rfl ?_
  refine zj_iconst JC (pc := 691) (zq_d eL15 20 rfl) zc_i1 ?_
  refine zj_iadd JC (pc := 692) (zq_d eL15 21 rfl) ?_
  refine zj_sld JC (pc := 693) (zq_d eL15 22 rfl) hv1 ?_
  refine zj_aload_n JC (pc := 694) (zq_d eL15 23 rfl) 0 rfl rfl ?_
  refine zj_iload_n JC (pc := 695) (zq_d eL15 24 rfl) 3 rfl rfl ?_
  refine zj_iconst JC (pc := 696) (zq_d eL15 25 rfl) zc_i2 ?_
  refine zj_iadd JC (pc := 697) (zq_d eL15 26 rfl) ?_
  refine zj_sld JC (pc := 698) (zq_d eL15 27 rfl) hv2 ?_
  refine zj_aload_n JC (pc := 699) (zq_d eL15 28 rfl) 0 rfl rfl ?_
  refine zj_iload_n JC (pc := 700) (zq_d eL15 29 rfl) 3 rfl rfl ?_
  refine zj_iconst JC (pc := 701) (zq_d eL15 30 rfl) zc_i3 ?_
  refine zj_iadd JC (pc := 702) (zq_d eL15 31 rfl) ?_
  refine zj_sld JC (pc := 703) (zq_d eL15 32 rfl) hv3 ?_
  refine zj_Vm JC (pc := 704) (r1 := (r, M1)) [_, _, _] (zq_d eL15 33 rfl) (s_X11_secret G N _ M _ _ _) hfm zd_X11_secret zl_law_80 om_69 rfl rfl rfl rfl (Nat.le_of_ble_eq_true rfl) (Nat.le_of_ble_eq_true rfl) (Nat.le_of_ble_eq_true rfl) ⟨(by show kc + 0 + 0 ≤ _; omega), (by show kn + 0 + 0 ≤ _; omega)⟩ (zq_dxm j) ?_
  refine zj_eq JC (pc := 707) 1308 (zq_d eL15 34 rfl) (by decide) ?_
  exact zj_wid (kc2 := kc + 5) (kn2 := kn + 137) (by show kc + 0 + 0 ≤ _; omega) (by show kn + 0 + 0 ≤ _; omega) (K j X1 M1 hI2)
set_option maxRecDepth 20000 in
set_option maxHeartbeats 8000000 in
theorem zl_case16 (JC : zq_JC p s m meth c b L xs G) {N : Nat} {I : Nat → Nat → zq_M → zq_M → Prop} (hop : zq_op_game N I) {q j kc kn : Nat} {X M : zq_M} {i : Int32} (hq : q < 512) (hI : I q j X M) (hv1 : vp_in (i + 1) L) (hv2 : vp_in (i + 2) L) (hv3 : vp_in (i + 3) L) (hv4 : vp_in (i + 4) L) (hv5 : vp_in (i + 5) L) (h1 : kc + 5 ≤ 600000) (h2 : kn + 137 ≤ 7302249) (K : ∀ (j1 : Nat) (X1 M1 : zq_M), I (q + 1) j1 X1 M1 → zq_J p e s m below meth c b G (kc + 5) (kn + 137) 1308 [(0, .ref b), (1, .ref (zq_ad G 0)), (2, .ref (zq_ad G 69)), (3, .int i)] [] (zq_shX j1) X1 zq_shM M1 (zq_ad G 141)) : zq_J p e s m below meth c b G kc kn 712 [(0, .ref b), (1, .ref (zq_ad G 0)), (2, .ref (zq_ad G 69)), (3, .int i)] [] (zq_shX j) X zq_shM M (zq_ad G 141) := by
  obtain ⟨r, X1, M1, hfx, hfm, hI2⟩ := hop q j X M (xs (i + 1).toNatClampNeg) (xs (i + 2).toNatClampNeg) (xs (i + 3).toNatClampNeg) hq hI
  refine zj_aload_n JC (pc := 712) (zq_d eL16 0 rfl) 1 rfl rfl ?_
  refine zj_aload_n JC (pc := 713) (zq_d eL16 1 rfl) 0 rfl rfl ?_
  refine zj_iload_n JC (pc := 714) (zq_d eL16 2 rfl) 3 rfl rfl ?_
  refine zj_iconst JC (pc := 715) (zq_d eL16 3 rfl) zc_i1 ?_
  refine zj_iadd JC (pc := 716) (zq_d eL16 4 rfl) ?_
  refine zj_sld JC (pc := 717) (zq_d eL16 5 rfl) hv1 ?_
  refine zj_aload_n JC (pc := 718) (zq_d eL16 6 rfl) 0 rfl rfl ?_
  refine zj_iload_n JC (pc := 719) (zq_d eL16 7 rfl) 3 rfl rfl ?_
  refine zj_iconst JC (pc := 720) (zq_d eL16 8 rfl) zc_i2 ?_
  refine zj_iadd JC (pc := 721) (zq_d eL16 9 rfl) ?_
  refine zj_sld JC (pc := 722) (zq_d eL16 10 rfl) hv2 ?_
  refine zj_aload_n JC (pc := 723) (zq_d eL16 11 rfl) 0 rfl rfl ?_
  refine zj_iload_n JC (pc := 724) (zq_d eL16 12 rfl) 3 rfl rfl ?_
  refine zj_iconst JC (pc := 725) (zq_d eL16 13 rfl) zc_i3 ?_
  refine zj_iadd JC (pc := 726) (zq_d eL16 14 rfl) ?_
  refine zj_sld JC (pc := 727) (zq_d eL16 15 rfl) hv3 ?_
  refine zj_Vx JC (pc := 728) (r1 := (r, X1)) [_, _, _] (zq_d eL16 16 rfl) (s_X10_game G N _ j X _ _ _) hfx zd_X10_game zl_law_81 (ox_0 j) rfl rfl rfl rfl (Nat.le_of_ble_eq_true rfl) (Nat.le_of_ble_eq_true rfl) (Nat.le_of_ble_eq_true rfl) ⟨(by show kc + 0 ≤ _; omega), (by show kn + 0 ≤ _; omega)⟩ (zq_dmx j) ?_
  refine zj_aload_n JC (pc := 731) (zq_d eL16 17 rfl) 2 rfl rfl ?_
  refine zj_aload_n JC (pc := 732) (zq_d eL16 18 rfl) 0 rfl rfl ?_
  refine zj_iload_n JC (pc := 733) (zq_d eL16 19 rfl) 3 rfl rfl ?_
  refine zj_iconst JC (pc := 734) (zq_d eL16 20 rfl) zc_i1 ?_
  refine zj_iadd JC (pc := 735) (zq_d eL16 21 rfl) ?_
  refine zj_sld JC (pc := 736) (zq_d eL16 22 rfl) hv1 ?_
  refine zj_aload_n JC (pc := 737) (zq_d eL16 23 rfl) 0 rfl rfl ?_
  refine zj_iload_n JC (pc := 738) (zq_d eL16 24 rfl) 3 rfl rfl ?_
  refine zj_iconst JC (pc := 739) (zq_d eL16 25 rfl) zc_i2 ?_
  refine zj_iadd JC (pc := 740) (zq_d eL16 26 rfl) ?_
  refine zj_sld JC (pc := 741) (zq_d eL16 27 rfl) hv2 ?_
  refine zj_aload_n JC (pc := 742) (zq_d eL16 28 rfl) 0 rfl rfl ?_
  refine zj_iload_n JC (pc := 743) (zq_d eL16 29 rfl) 3 rfl rfl ?_
  refine zj_iconst JC (pc := 744) (zq_d eL16 30 rfl) zc_i3 ?_
  refine zj_iadd JC (pc := 745) (zq_d eL16 31 rfl) ?_
  refine zj_sld JC (pc := 746) (zq_d eL16 32 rfl) hv3 ?_
  refine zj_Vm JC (pc := 747) (r1 := (r, M1)) [_, _, _] (zq_d eL16 33 rfl) (s_X11_game G N _ M _ _ _) hfm zd_X11_game zl_law_84 om_69 rfl rfl rfl rfl (Nat.le_of_ble_eq_true rfl) (Nat.le_of_ble_eq_true rfl) (Nat.le_of_ble_eq_true rfl) ⟨(by show kc + 0 + 0 ≤ _; omega), (by show kn + 0 + 0 ≤ _; omega)⟩ (zq_dxm j) ?_
  refine zj_eq JC (pc := 750) 1308 (zq_d eL16 34 rfl) (by decide) ?_
  exact zj_wid (kc2 := kc + 5) (kn2 := kn + 137) (by show kc + 0 + 0 ≤ _; omega) (by show kn + 0 + 0 ≤ _; omega) (K j X1 M1 hI2)
set_option maxRecDepth 20000 in
set_option maxHeartbeats 8000000 in
theorem zl_case17 (JC : zq_JC p s m meth c b L xs G) {N : Nat} {I : Nat → Nat → zq_M → zq_M → Prop} (hop : zq_op_votes N I) {q j kc kn : Nat} {X M : zq_M} {i : Int32} (hq : q < 512) (hI : I q j X M) (hv1 : vp_in (i + 1) L) (hv2 : vp_in (i + 2) L) (hv3 : vp_in (i + 3) L) (hv4 : vp_in (i + 4) L) (hv5 : vp_in (i + 5) L) (h1 : kc + 5 ≤ 600000) (h2 : kn + 137 ≤ 7302249) (K : ∀ (j1 : Nat) (X1 M1 : zq_M), I (q + 1) j1 X1 M1 → zq_J p e s m below meth c b G (kc + 5) (kn + 137) 1308 [(0, .ref b), (1, .ref (zq_ad G 0)), (2, .ref (zq_ad G 69)), (3, .int i)] [] (zq_shX j1) X1 zq_shM M1 (zq_ad G 141)) : zq_J p e s m below meth c b G kc kn 755 [(0, .ref b), (1, .ref (zq_ad G 0)), (2, .ref (zq_ad G 69)), (3, .int i)] [] (zq_shX j) X zq_shM M (zq_ad G 141) := by
  obtain ⟨r, hfx, hfm, hI2⟩ := hop q j X M (xs (i + 1).toNatClampNeg) (xs (i + 2).toNatClampNeg) hq hI
  refine zj_aload_n JC (pc := 755) (zq_d eL17 0 rfl) 1 rfl rfl ?_
  refine zj_aload_n JC (pc := 756) (zq_d eL17 1 rfl) 0 rfl rfl ?_
  refine zj_iload_n JC (pc := 757) (zq_d eL17 2 rfl) 3 rfl rfl ?_
  refine zj_iconst JC (pc := 758) (zq_d eL17 3 rfl) zc_i1 ?_
  refine zj_iadd JC (pc := 759) (zq_d eL17 4 rfl) ?_
  refine zj_sld JC (pc := 760) (zq_d eL17 5 rfl) hv1 ?_
  refine zj_aload_n JC (pc := 761) (zq_d eL17 6 rfl) 0 rfl rfl ?_
  refine zj_iload_n JC (pc := 762) (zq_d eL17 7 rfl) 3 rfl rfl ?_
  refine zj_iconst JC (pc := 763) (zq_d eL17 8 rfl) zc_i2 ?_
  refine zj_iadd JC (pc := 764) (zq_d eL17 9 rfl) ?_
  refine zj_sld JC (pc := 765) (zq_d eL17 10 rfl) hv2 ?_
  refine zj_Vx JC (pc := 766) (r1 := r) [_, _] (zq_d eL17 11 rfl) (s_X10_votes G N _ j X _ _) hfx zd_X10_votes zl_law_85 (ox_0 j) rfl rfl rfl rfl (Nat.le_of_ble_eq_true rfl) (Nat.le_of_ble_eq_true rfl) (Nat.le_of_ble_eq_true rfl) ⟨(by show kc + 0 ≤ _; omega), (by show kn + 0 ≤ _; omega)⟩ (zq_dmx j) ?_
  refine zj_aload_n JC (pc := 769) (zq_d eL17 12 rfl) 2 rfl rfl ?_
  refine zj_aload_n JC (pc := 770) (zq_d eL17 13 rfl) 0 rfl rfl ?_
  refine zj_iload_n JC (pc := 771) (zq_d eL17 14 rfl) 3 rfl rfl ?_
  refine zj_iconst JC (pc := 772) (zq_d eL17 15 rfl) zc_i1 ?_
  refine zj_iadd JC (pc := 773) (zq_d eL17 16 rfl) ?_
  refine zj_sld JC (pc := 774) (zq_d eL17 17 rfl) hv1 ?_
  refine zj_aload_n JC (pc := 775) (zq_d eL17 18 rfl) 0 rfl rfl ?_
  refine zj_iload_n JC (pc := 776) (zq_d eL17 19 rfl) 3 rfl rfl ?_
  refine zj_iconst JC (pc := 777) (zq_d eL17 20 rfl) zc_i2 ?_
  refine zj_iadd JC (pc := 778) (zq_d eL17 21 rfl) ?_
  refine zj_sld JC (pc := 779) (zq_d eL17 22 rfl) hv2 ?_
  refine zj_Vm JC (pc := 780) (r1 := r) [_, _] (zq_d eL17 23 rfl) (s_X11_votes G N _ M _ _) hfm zd_X11_votes zl_law_88 om_69 rfl rfl rfl rfl (Nat.le_of_ble_eq_true rfl) (Nat.le_of_ble_eq_true rfl) (Nat.le_of_ble_eq_true rfl) ⟨(by show kc + 0 + 0 ≤ _; omega), (by show kn + 0 + 0 ≤ _; omega)⟩ (zq_dxm j) ?_
  refine zj_eq JC (pc := 783) 1308 (zq_d eL17 24 rfl) (by decide) ?_
  exact zj_wid (kc2 := kc + 5) (kn2 := kn + 137) (by show kc + 0 + 0 ≤ _; omega) (by show kn + 0 + 0 ≤ _; omega) (K j X M hI2)
set_option maxRecDepth 20000 in
set_option maxHeartbeats 8000000 in
theorem zl_case18 (JC : zq_JC p s m meth c b L xs G) {N : Nat} {I : Nat → Nat → zq_M → zq_M → Prop} (hop : zq_op_spoken N I) {q j kc kn : Nat} {X M : zq_M} {i : Int32} (hq : q < 512) (hI : I q j X M) (hv1 : vp_in (i + 1) L) (hv2 : vp_in (i + 2) L) (hv3 : vp_in (i + 3) L) (hv4 : vp_in (i + 4) L) (hv5 : vp_in (i + 5) L) (h1 : kc + 5 ≤ 600000) (h2 : kn + 137 ≤ 7302249) (K : ∀ (j1 : Nat) (X1 M1 : zq_M), I (q + 1) j1 X1 M1 → zq_J p e s m below meth c b G (kc + 5) (kn + 137) 1308 [(0, .ref b), (1, .ref (zq_ad G 0)), (2, .ref (zq_ad G 69)), (3, .int i)] [] (zq_shX j1) X1 zq_shM M1 (zq_ad G 141)) : zq_J p e s m below meth c b G kc kn 788 [(0, .ref b), (1, .ref (zq_ad G 0)), (2, .ref (zq_ad G 69)), (3, .int i)] [] (zq_shX j) X zq_shM M (zq_ad G 141) := by
  obtain ⟨r, X1, M1, hfx, hfm, hI2⟩ := hop q j X M (xs (i + 1).toNatClampNeg) (xs (i + 2).toNatClampNeg) hq hI
  refine zj_aload_n JC (pc := 788) (zq_d eL18 0 rfl) 1 rfl rfl ?_
  refine zj_aload_n JC (pc := 789) (zq_d eL18 1 rfl) 0 rfl rfl ?_
  refine zj_iload_n JC (pc := 790) (zq_d eL18 2 rfl) 3 rfl rfl ?_
  refine zj_iconst JC (pc := 791) (zq_d eL18 3 rfl) zc_i1 ?_
  refine zj_iadd JC (pc := 792) (zq_d eL18 4 rfl) ?_
  refine zj_sld JC (pc := 793) (zq_d eL18 5 rfl) hv1 ?_
  refine zj_aload_n JC (pc := 794) (zq_d eL18 6 rfl) 0 rfl rfl ?_
  refine zj_iload_n JC (pc := 795) (zq_d eL18 7 rfl) 3 rfl rfl ?_
  refine zj_iconst JC (pc := 796) (zq_d eL18 8 rfl) zc_i2 ?_
  refine zj_iadd JC (pc := 797) (zq_d eL18 9 rfl) ?_
  refine zj_sld JC (pc := 798) (zq_d eL18 10 rfl) hv2 ?_
  refine zj_Vx JC (pc := 799) (r1 := (r, X1)) [_, _] (zq_d eL18 11 rfl) (s_X10_spoken G N _ j X _ _) hfx zd_X10_spoken zl_law_89 (ox_0 j) rfl rfl rfl rfl (Nat.le_of_ble_eq_true rfl) (Nat.le_of_ble_eq_true rfl) (Nat.le_of_ble_eq_true rfl) ⟨(by show kc + 0 ≤ _; omega), (by show kn + 0 ≤ _; omega)⟩ (zq_dmx j) ?_
  refine zj_aload_n JC (pc := 802) (zq_d eL18 12 rfl) 2 rfl rfl ?_
  refine zj_aload_n JC (pc := 803) (zq_d eL18 13 rfl) 0 rfl rfl ?_
  refine zj_iload_n JC (pc := 804) (zq_d eL18 14 rfl) 3 rfl rfl ?_
  refine zj_iconst JC (pc := 805) (zq_d eL18 15 rfl) zc_i1 ?_
  refine zj_iadd JC (pc := 806) (zq_d eL18 16 rfl) ?_
  refine zj_sld JC (pc := 807) (zq_d eL18 17 rfl) hv1 ?_
  refine zj_aload_n JC (pc := 808) (zq_d eL18 18 rfl) 0 rfl rfl ?_
  refine zj_iload_n JC (pc := 809) (zq_d eL18 19 rfl) 3 rfl rfl ?_
  refine zj_iconst JC (pc := 810) (zq_d eL18 20 rfl) zc_i2 ?_
  refine zj_iadd JC (pc := 811) (zq_d eL18 21 rfl) ?_
  refine zj_sld JC (pc := 812) (zq_d eL18 22 rfl) hv2 ?_
  refine zj_Vm JC (pc := 813) (r1 := (r, M1)) [_, _] (zq_d eL18 23 rfl) (s_X11_spoken G N _ M _ _) hfm zd_X11_spoken zl_law_92 om_69 rfl rfl rfl rfl (Nat.le_of_ble_eq_true rfl) (Nat.le_of_ble_eq_true rfl) (Nat.le_of_ble_eq_true rfl) ⟨(by show kc + 0 + 0 ≤ _; omega), (by show kn + 0 + 0 ≤ _; omega)⟩ (zq_dxm j) ?_
  refine zj_eq JC (pc := 816) 1308 (zq_d eL18 24 rfl) (by decide) ?_
  exact zj_wid (kc2 := kc + 5) (kn2 := kn + 137) (by show kc + 0 + 0 ≤ _; omega) (by show kn + 0 + 0 ≤ _; omega) (K j X1 M1 hI2)
set_option maxRecDepth 20000 in
set_option maxHeartbeats 8000000 in
theorem zl_case19 (JC : zq_JC p s m meth c b L xs G) {N : Nat} {I : Nat → Nat → zq_M → zq_M → Prop} (hop : zq_op_fits N I) {q j kc kn : Nat} {X M : zq_M} {i : Int32} (hq : q < 512) (hI : I q j X M) (hv1 : vp_in (i + 1) L) (hv2 : vp_in (i + 2) L) (hv3 : vp_in (i + 3) L) (hv4 : vp_in (i + 4) L) (hv5 : vp_in (i + 5) L) (h1 : kc + 5 ≤ 600000) (h2 : kn + 137 ≤ 7302249) (K : ∀ (j1 : Nat) (X1 M1 : zq_M), I (q + 1) j1 X1 M1 → zq_J p e s m below meth c b G (kc + 5) (kn + 137) 1308 [(0, .ref b), (1, .ref (zq_ad G 0)), (2, .ref (zq_ad G 69)), (3, .int i)] [] (zq_shX j1) X1 zq_shM M1 (zq_ad G 141)) : zq_J p e s m below meth c b G kc kn 821 [(0, .ref b), (1, .ref (zq_ad G 0)), (2, .ref (zq_ad G 69)), (3, .int i)] [] (zq_shX j) X zq_shM M (zq_ad G 141) := by
  obtain ⟨r, X1, M1, hfx, hfm, hI2⟩ := hop q j X M  hq hI
  refine zj_aload_n JC (pc := 821) (zq_d eL19 0 rfl) 1 rfl rfl ?_
  refine zj_Vx JC (pc := 822) (r1 := (r, X1)) [] (zq_d eL19 1 rfl) (s_X10_fits G N _ j X ) hfx zd_X10_fits zl_law_93 (ox_0 j) rfl rfl rfl rfl (Nat.le_of_ble_eq_true rfl) (Nat.le_of_ble_eq_true rfl) (Nat.le_of_ble_eq_true rfl) ⟨(by show kc + 0 ≤ _; omega), (by show kn + 0 ≤ _; omega)⟩ (zq_dmx j) ?_
  refine zj_aload_n JC (pc := 825) (zq_d eL19 2 rfl) 2 rfl rfl ?_
  refine zj_Vm JC (pc := 826) (r1 := (r, M1)) [] (zq_d eL19 3 rfl) (s_X11_fits G N _ M ) hfm zd_X11_fits zl_law_96 om_69 rfl rfl rfl rfl (Nat.le_of_ble_eq_true rfl) (Nat.le_of_ble_eq_true rfl) (Nat.le_of_ble_eq_true rfl) ⟨(by show kc + 0 + 0 ≤ _; omega), (by show kn + 0 + 0 ≤ _; omega)⟩ (zq_dxm j) ?_
  refine zj_eq JC (pc := 829) 1308 (zq_d eL19 4 rfl) (by decide) ?_
  exact zj_wid (kc2 := kc + 5) (kn2 := kn + 137) (by show kc + 0 + 0 ≤ _; omega) (by show kn + 0 + 0 ≤ _; omega) (K j X1 M1 hI2)
set_option maxRecDepth 20000 in
set_option maxHeartbeats 8000000 in
theorem zl_case20 (JC : zq_JC p s m meth c b L xs G) {N : Nat} {I : Nat → Nat → zq_M → zq_M → Prop} (hop : zq_op_lot N I) {q j kc kn : Nat} {X M : zq_M} {i : Int32} (hq : q < 512) (hI : I q j X M) (hv1 : vp_in (i + 1) L) (hv2 : vp_in (i + 2) L) (hv3 : vp_in (i + 3) L) (hv4 : vp_in (i + 4) L) (hv5 : vp_in (i + 5) L) (h1 : kc + 5 ≤ 600000) (h2 : kn + 137 ≤ 7302249) (K : ∀ (j1 : Nat) (X1 M1 : zq_M), I (q + 1) j1 X1 M1 → zq_J p e s m below meth c b G (kc + 5) (kn + 137) 1308 [(0, .ref b), (1, .ref (zq_ad G 0)), (2, .ref (zq_ad G 69)), (3, .int i)] [] (zq_shX j1) X1 zq_shM M1 (zq_ad G 141)) : zq_J p e s m below meth c b G kc kn 834 [(0, .ref b), (1, .ref (zq_ad G 0)), (2, .ref (zq_ad G 69)), (3, .int i)] [] (zq_shX j) X zq_shM M (zq_ad G 141) := by
  obtain ⟨r, X1, M1, hfx, hfm, hI2⟩ := hop q j X M (xs (i + 1).toNatClampNeg) (xs (i + 2).toNatClampNeg) (xs (i + 3).toNatClampNeg) hq hI
  refine zj_aload_n JC (pc := 834) (zq_d eL20 0 rfl) 1 rfl rfl ?_
  refine zj_aload_n JC (pc := 835) (zq_d eL20 1 rfl) 0 rfl rfl ?_
  refine zj_iload_n JC (pc := 836) (zq_d eL20 2 rfl) 3 rfl rfl ?_
  refine zj_iconst JC (pc := 837) (zq_d eL20 3 rfl) zc_i1 ?_
  refine zj_iadd JC (pc := 838) (zq_d eL20 4 rfl) ?_
  refine zj_sld JC (pc := 839) (zq_d eL20 5 rfl) hv1 ?_
  refine zj_aload_n JC (pc := 840) (zq_d eL20 6 rfl) 0 rfl rfl ?_
  refine zj_iload_n JC (pc := 841) (zq_d eL20 7 rfl) 3 rfl rfl ?_
  refine zj_iconst JC (pc := 842) (zq_d eL20 8 rfl) zc_i2 ?_
  refine zj_iadd JC (pc := 843) (zq_d eL20 9 rfl) ?_
  refine zj_sld JC (pc := 844) (zq_d eL20 10 rfl) hv2 ?_
  refine zj_aload_n JC (pc := 845) (zq_d eL20 11 rfl) 0 rfl rfl ?_
  refine zj_iload_n JC (pc := 846) (zq_d eL20 12 rfl) 3 rfl rfl ?_
  refine zj_iconst JC (pc := 847) (zq_d eL20 13 rfl) zc_i3 ?_
  refine zj_iadd JC (pc := 848) (zq_d eL20 14 rfl) ?_
  refine zj_sld JC (pc := 849) (zq_d eL20 15 rfl) hv3 ?_
  refine zj_Vx JC (pc := 850) (r1 := (r, X1)) [_, _, _] (zq_d eL20 16 rfl) (s_X10_lot G N _ j X _ _ _) hfx zd_X10_lot zl_law_97 (ox_0 j) rfl rfl rfl rfl (Nat.le_of_ble_eq_true rfl) (Nat.le_of_ble_eq_true rfl) (Nat.le_of_ble_eq_true rfl) ⟨(by show kc + 0 ≤ _; omega), (by show kn + 0 ≤ _; omega)⟩ (zq_dmx j) ?_
  refine zj_aload_n JC (pc := 853) (zq_d eL20 17 rfl) 2 rfl rfl ?_
  refine zj_aload_n JC (pc := 854) (zq_d eL20 18 rfl) 0 rfl rfl ?_
  refine zj_iload_n JC (pc := 855) (zq_d eL20 19 rfl) 3 rfl rfl ?_
  refine zj_iconst JC (pc := 856) (zq_d eL20 20 rfl) zc_i1 ?_
  refine zj_iadd JC (pc := 857) (zq_d eL20 21 rfl) ?_
  refine zj_sld JC (pc := 858) (zq_d eL20 22 rfl) hv1 ?_
  refine zj_aload_n JC (pc := 859) (zq_d eL20 23 rfl) 0 rfl rfl ?_
  refine zj_iload_n JC (pc := 860) (zq_d eL20 24 rfl) 3 rfl rfl ?_
  refine zj_iconst JC (pc := 861) (zq_d eL20 25 rfl) zc_i2 ?_
  refine zj_iadd JC (pc := 862) (zq_d eL20 26 rfl) ?_
  refine zj_sld JC (pc := 863) (zq_d eL20 27 rfl) hv2 ?_
  refine zj_aload_n JC (pc := 864) (zq_d eL20 28 rfl) 0 rfl rfl ?_
  refine zj_iload_n JC (pc := 865) (zq_d eL20 29 rfl) 3 rfl rfl ?_
  refine zj_iconst JC (pc := 866) (zq_d eL20 30 rfl) zc_i3 ?_
  refine zj_iadd JC (pc := 867) (zq_d eL20 31 rfl) ?_
  refine zj_sld JC (pc := 868) (zq_d eL20 32 rfl) hv3 ?_
  refine zj_Vm JC (pc := 869) (r1 := (r, M1)) [_, _, _] (zq_d eL20 33 rfl) (s_X11_lot G N _ M _ _ _) hfm zd_X11_lot zl_law_101 om_69 rfl rfl rfl rfl (Nat.le_of_ble_eq_true rfl) (Nat.le_of_ble_eq_true rfl) (Nat.le_of_ble_eq_true rfl) ⟨(by show kc + 0 + 0 ≤ _; omega), (by show kn + 0 + 0 ≤ _; omega)⟩ (zq_dxm j) ?_
  refine zj_lcmp JC (pc := 872) (zq_d eL20 34 rfl) ?_
  refine zj_leq JC (pc := 873) 1308 (zq_d eL20 35 rfl) (by decide) ?_
  exact zj_wid (kc2 := kc + 5) (kn2 := kn + 137) (by show kc + 0 + 0 ≤ _; omega) (by show kn + 0 + 0 ≤ _; omega) (K j X1 M1 hI2)
set_option maxRecDepth 20000 in
set_option maxHeartbeats 8000000 in
theorem zl_case21 (JC : zq_JC p s m meth c b L xs G) {N : Nat} {I : Nat → Nat → zq_M → zq_M → Prop} (hop : zq_op_book N I) {q j kc kn : Nat} {X M : zq_M} {i : Int32} (hq : q < 512) (hI : I q j X M) (hv1 : vp_in (i + 1) L) (hv2 : vp_in (i + 2) L) (hv3 : vp_in (i + 3) L) (hv4 : vp_in (i + 4) L) (hv5 : vp_in (i + 5) L) (h1 : kc + 5 ≤ 600000) (h2 : kn + 137 ≤ 7302249) (K : ∀ (j1 : Nat) (X1 M1 : zq_M), I (q + 1) j1 X1 M1 → zq_J p e s m below meth c b G (kc + 5) (kn + 137) 1308 [(0, .ref b), (1, .ref (zq_ad G 0)), (2, .ref (zq_ad G 69)), (3, .int i)] [] (zq_shX j1) X1 zq_shM M1 (zq_ad G 141)) : zq_J p e s m below meth c b G kc kn 878 [(0, .ref b), (1, .ref (zq_ad G 0)), (2, .ref (zq_ad G 69)), (3, .int i)] [] (zq_shX j) X zq_shM M (zq_ad G 141) := by
  obtain ⟨r, X1, M1, hfx, hfm, hI2⟩ := hop q j X M (xs (i + 1).toNatClampNeg) hq hI
  refine zj_aload_n JC (pc := 878) (zq_d eL21 0 rfl) 1 rfl rfl ?_
  refine zj_aload_n JC (pc := 879) (zq_d eL21 1 rfl) 0 rfl rfl ?_
  refine zj_iload_n JC (pc := 880) (zq_d eL21 2 rfl) 3 rfl rfl ?_
  refine zj_iconst JC (pc := 881) (zq_d eL21 3 rfl) zc_i1 ?_
  refine zj_iadd JC (pc := 882) (zq_d eL21 4 rfl) ?_
  refine zj_sld JC (pc := 883) (zq_d eL21 5 rfl) hv1 ?_
  refine zj_Vx JC (pc := 884) (r1 := (r, X1)) [_] (zq_d eL21 6 rfl) (s_X10_book G N _ j X _) hfx zd_X10_book zl_law_102 (ox_0 j) rfl rfl rfl rfl (Nat.le_of_ble_eq_true rfl) (Nat.le_of_ble_eq_true rfl) (Nat.le_of_ble_eq_true rfl) ⟨(by show kc + 0 ≤ _; omega), (by show kn + 0 ≤ _; omega)⟩ (zq_dmx j) ?_
  refine zj_aload_n JC (pc := 887) (zq_d eL21 7 rfl) 2 rfl rfl ?_
  refine zj_aload_n JC (pc := 888) (zq_d eL21 8 rfl) 0 rfl rfl ?_
  refine zj_iload_n JC (pc := 889) (zq_d eL21 9 rfl) 3 rfl rfl ?_
  refine zj_iconst JC (pc := 890) (zq_d eL21 10 rfl) zc_i1 ?_
  refine zj_iadd JC (pc := 891) (zq_d eL21 11 rfl) ?_
  refine zj_sld JC (pc := 892) (zq_d eL21 12 rfl) hv1 ?_
  refine zj_Vm JC (pc := 893) (r1 := (r, M1)) [_] (zq_d eL21 13 rfl) (s_X11_book G N _ M _) hfm zd_X11_book zl_law_105 om_69 rfl rfl rfl rfl (Nat.le_of_ble_eq_true rfl) (Nat.le_of_ble_eq_true rfl) (Nat.le_of_ble_eq_true rfl) ⟨(by show kc + 0 + 0 ≤ _; omega), (by show kn + 0 + 0 ≤ _; omega)⟩ (zq_dxm j) ?_
  refine zj_eq JC (pc := 896) 1308 (zq_d eL21 14 rfl) (by decide) ?_
  exact zj_wid (kc2 := kc + 5) (kn2 := kn + 137) (by show kc + 0 + 0 ≤ _; omega) (by show kn + 0 + 0 ≤ _; omega) (K j X1 M1 hI2)
set_option maxRecDepth 20000 in
set_option maxHeartbeats 8000000 in
theorem zl_case22 (JC : zq_JC p s m meth c b L xs G) {N : Nat} {I : Nat → Nat → zq_M → zq_M → Prop} (hop : zq_op_readBook N I) {q j kc kn : Nat} {X M : zq_M} {i : Int32} (hq : q < 512) (hI : I q j X M) (hv1 : vp_in (i + 1) L) (hv2 : vp_in (i + 2) L) (hv3 : vp_in (i + 3) L) (hv4 : vp_in (i + 4) L) (hv5 : vp_in (i + 5) L) (h1 : kc + 5 ≤ 600000) (h2 : kn + 137 ≤ 7302249) (K : ∀ (j1 : Nat) (X1 M1 : zq_M), I (q + 1) j1 X1 M1 → zq_J p e s m below meth c b G (kc + 5) (kn + 137) 1308 [(0, .ref b), (1, .ref (zq_ad G 0)), (2, .ref (zq_ad G 69)), (3, .int i)] [] (zq_shX j1) X1 zq_shM M1 (zq_ad G 141)) : zq_J p e s m below meth c b G kc kn 901 [(0, .ref b), (1, .ref (zq_ad G 0)), (2, .ref (zq_ad G 69)), (3, .int i)] [] (zq_shX j) X zq_shM M (zq_ad G 141) := by
  obtain ⟨r, X1, M1, hfx, hfm, hI2⟩ := hop q j X M  hq hI
  refine zj_aload_n JC (pc := 901) (zq_d eL22 0 rfl) 1 rfl rfl ?_
  refine zj_Vx JC (pc := 902) (r1 := (r, X1)) [] (zq_d eL22 1 rfl) (s_X10_readBook G N _ j X ) hfx zd_X10_readBook zl_law_106 (ox_0 j) rfl rfl rfl rfl (Nat.le_of_ble_eq_true rfl) (Nat.le_of_ble_eq_true rfl) (Nat.le_of_ble_eq_true rfl) ⟨(by show kc + 0 ≤ _; omega), (by show kn + 0 ≤ _; omega)⟩ (zq_dmx j) ?_
  refine zj_aload_n JC (pc := 905) (zq_d eL22 2 rfl) 2 rfl rfl ?_
  refine zj_Vm JC (pc := 906) (r1 := (r, M1)) [] (zq_d eL22 3 rfl) (s_X11_readBook G N _ M ) hfm zd_X11_readBook zl_law_109 om_69 rfl rfl rfl rfl (Nat.le_of_ble_eq_true rfl) (Nat.le_of_ble_eq_true rfl) (Nat.le_of_ble_eq_true rfl) ⟨(by show kc + 0 + 0 ≤ _; omega), (by show kn + 0 + 0 ≤ _; omega)⟩ (zq_dxm j) ?_
  refine zj_eq JC (pc := 909) 1308 (zq_d eL22 4 rfl) (by decide) ?_
  exact zj_wid (kc2 := kc + 5) (kn2 := kn + 137) (by show kc + 0 + 0 ≤ _; omega) (by show kn + 0 + 0 ≤ _; omega) (K j X1 M1 hI2)
set_option maxRecDepth 20000 in
set_option maxHeartbeats 8000000 in
theorem zl_case23 (JC : zq_JC p s m meth c b L xs G) {N : Nat} {I : Nat → Nat → zq_M → zq_M → Prop} (hop : zq_op_judge N I) {q j kc kn : Nat} {X M : zq_M} {i : Int32} (hq : q < 512) (hI : I q j X M) (hv1 : vp_in (i + 1) L) (hv2 : vp_in (i + 2) L) (hv3 : vp_in (i + 3) L) (hv4 : vp_in (i + 4) L) (hv5 : vp_in (i + 5) L) (h1 : kc + 5 ≤ 600000) (h2 : kn + 137 ≤ 7302249) (K : ∀ (j1 : Nat) (X1 M1 : zq_M), I (q + 1) j1 X1 M1 → zq_J p e s m below meth c b G (kc + 5) (kn + 137) 1308 [(0, .ref b), (1, .ref (zq_ad G 0)), (2, .ref (zq_ad G 69)), (3, .int i)] [] (zq_shX j1) X1 zq_shM M1 (zq_ad G 141)) : zq_J p e s m below meth c b G kc kn 914 [(0, .ref b), (1, .ref (zq_ad G 0)), (2, .ref (zq_ad G 69)), (3, .int i)] [] (zq_shX j) X zq_shM M (zq_ad G 141) := by
  obtain ⟨r, hfx, hfm, hI2⟩ := hop q j X M (xs (i + 1).toNatClampNeg) (xs (i + 2).toNatClampNeg) hq hI
  refine zj_aload_n JC (pc := 914) (zq_d eL23 0 rfl) 1 rfl rfl ?_
  refine zj_aload_n JC (pc := 915) (zq_d eL23 1 rfl) 0 rfl rfl ?_
  refine zj_iload_n JC (pc := 916) (zq_d eL23 2 rfl) 3 rfl rfl ?_
  refine zj_iconst JC (pc := 917) (zq_d eL23 3 rfl) zc_i1 ?_
  refine zj_iadd JC (pc := 918) (zq_d eL23 4 rfl) ?_
  refine zj_sld JC (pc := 919) (zq_d eL23 5 rfl) hv1 ?_
  refine zj_aload_n JC (pc := 920) (zq_d eL23 6 rfl) 0 rfl rfl ?_
  refine zj_iload_n JC (pc := 921) (zq_d eL23 7 rfl) 3 rfl rfl ?_
  refine zj_iconst JC (pc := 922) (zq_d eL23 8 rfl) zc_i2 ?_
  refine zj_iadd JC (pc := 923) (zq_d eL23 9 rfl) ?_
  refine zj_sld JC (pc := 924) (zq_d eL23 10 rfl) hv2 ?_
  refine zj_Vx JC (pc := 925) (r1 := r) [_, _] (zq_d eL23 11 rfl) (s_X10_judge G N _ j X _ _) hfx zd_X10_judge zl_law_110 (ox_0 j) rfl rfl rfl rfl (Nat.le_of_ble_eq_true rfl) (Nat.le_of_ble_eq_true rfl) (Nat.le_of_ble_eq_true rfl) ⟨(by show kc + 0 ≤ _; omega), (by show kn + 0 ≤ _; omega)⟩ (zq_dmx j) ?_
  refine zj_aload_n JC (pc := 928) (zq_d eL23 12 rfl) 2 rfl rfl ?_
  refine zj_aload_n JC (pc := 929) (zq_d eL23 13 rfl) 0 rfl rfl ?_
  refine zj_iload_n JC (pc := 930) (zq_d eL23 14 rfl) 3 rfl rfl ?_
  refine zj_iconst JC (pc := 931) (zq_d eL23 15 rfl) zc_i1 ?_
  refine zj_iadd JC (pc := 932) (zq_d eL23 16 rfl) ?_
  refine zj_sld JC (pc := 933) (zq_d eL23 17 rfl) hv1 ?_
  refine zj_aload_n JC (pc := 934) (zq_d eL23 18 rfl) 0 rfl rfl ?_
  refine zj_iload_n JC (pc := 935) (zq_d eL23 19 rfl) 3 rfl rfl ?_
  refine zj_iconst JC (pc := 936) (zq_d eL23 20 rfl) zc_i2 ?_
  refine zj_iadd JC (pc := 937) (zq_d eL23 21 rfl) ?_
  refine zj_sld JC (pc := 938) (zq_d eL23 22 rfl) hv2 ?_
  refine zj_Vm JC (pc := 939) (r1 := r) [_, _] (zq_d eL23 23 rfl) (s_X11_judge G N _ M _ _) hfm zd_X11_judge zl_law_113 om_69 rfl rfl rfl rfl (Nat.le_of_ble_eq_true rfl) (Nat.le_of_ble_eq_true rfl) (Nat.le_of_ble_eq_true rfl) ⟨(by show kc + 0 + 0 ≤ _; omega), (by show kn + 0 + 0 ≤ _; omega)⟩ (zq_dxm j) ?_
  refine zj_eq JC (pc := 942) 1308 (zq_d eL23 24 rfl) (by decide) ?_
  exact zj_wid (kc2 := kc + 5) (kn2 := kn + 137) (by show kc + 0 + 0 ≤ _; omega) (by show kn + 0 + 0 ≤ _; omega) (K j X M hI2)
set_option maxRecDepth 20000 in
set_option maxHeartbeats 8000000 in
theorem zl_case24 (JC : zq_JC p s m meth c b L xs G) {N : Nat} {I : Nat → Nat → zq_M → zq_M → Prop} (hop : zq_op_image N I) {q j kc kn : Nat} {X M : zq_M} {i : Int32} (hq : q < 512) (hI : I q j X M) (hv1 : vp_in (i + 1) L) (hv2 : vp_in (i + 2) L) (hv3 : vp_in (i + 3) L) (hv4 : vp_in (i + 4) L) (hv5 : vp_in (i + 5) L) (h1 : kc + 5 ≤ 600000) (h2 : kn + 137 ≤ 7302249) (K : ∀ (j1 : Nat) (X1 M1 : zq_M), I (q + 1) j1 X1 M1 → zq_J p e s m below meth c b G (kc + 5) (kn + 137) 1308 [(0, .ref b), (1, .ref (zq_ad G 0)), (2, .ref (zq_ad G 69)), (3, .int i)] [] (zq_shX j1) X1 zq_shM M1 (zq_ad G 141)) : zq_J p e s m below meth c b G kc kn 947 [(0, .ref b), (1, .ref (zq_ad G 0)), (2, .ref (zq_ad G 69)), (3, .int i)] [] (zq_shX j) X zq_shM M (zq_ad G 141) := by
  obtain ⟨r, X1, M1, hfx, hfm, hI2⟩ := hop q j X M  hq hI
  refine zj_aload_n JC (pc := 947) (zq_d eL24 0 rfl) 1 rfl rfl ?_
  refine zj_Vx JC (pc := 948) (r1 := (r, X1)) [] (zq_d eL24 1 rfl) (s_X10_image G N _ j X ) hfx zd_X10_image zl_law_114 (ox_0 j) rfl rfl rfl rfl (Nat.le_of_ble_eq_true rfl) (Nat.le_of_ble_eq_true rfl) (Nat.le_of_ble_eq_true rfl) ⟨(by show kc + 0 ≤ _; omega), (by show kn + 0 ≤ _; omega)⟩ (zq_dmx j) ?_
  refine zj_aload_n JC (pc := 951) (zq_d eL24 2 rfl) 2 rfl rfl ?_
  refine zj_Vm JC (pc := 952) (r1 := (r, M1)) [] (zq_d eL24 3 rfl) (s_X11_image G N _ M ) hfm zd_X11_image zl_law_117 om_69 rfl rfl rfl rfl (Nat.le_of_ble_eq_true rfl) (Nat.le_of_ble_eq_true rfl) (Nat.le_of_ble_eq_true rfl) ⟨(by show kc + 0 + 0 ≤ _; omega), (by show kn + 0 + 0 ≤ _; omega)⟩ (zq_dxm j) ?_
  refine zj_eq JC (pc := 955) 1308 (zq_d eL24 4 rfl) (by decide) ?_
  exact zj_wid (kc2 := kc + 5) (kn2 := kn + 137) (by show kc + 0 + 0 ≤ _; omega) (by show kn + 0 + 0 ≤ _; omega) (K j X1 M1 hI2)
set_option maxRecDepth 20000 in
set_option maxHeartbeats 8000000 in
theorem zl_case25 (JC : zq_JC p s m meth c b L xs G) {N : Nat} {I : Nat → Nat → zq_M → zq_M → Prop} (hop : zq_op_undo N I) {q j kc kn : Nat} {X M : zq_M} {i : Int32} (hq : q < 512) (hI : I q j X M) (hv1 : vp_in (i + 1) L) (hv2 : vp_in (i + 2) L) (hv3 : vp_in (i + 3) L) (hv4 : vp_in (i + 4) L) (hv5 : vp_in (i + 5) L) (h1 : kc + 5 ≤ 600000) (h2 : kn + 137 ≤ 7302249) (K : ∀ (j1 : Nat) (X1 M1 : zq_M), I (q + 1) j1 X1 M1 → zq_J p e s m below meth c b G (kc + 5) (kn + 137) 1308 [(0, .ref b), (1, .ref (zq_ad G 0)), (2, .ref (zq_ad G 69)), (3, .int i)] [] (zq_shX j1) X1 zq_shM M1 (zq_ad G 141)) : zq_J p e s m below meth c b G kc kn 960 [(0, .ref b), (1, .ref (zq_ad G 0)), (2, .ref (zq_ad G 69)), (3, .int i)] [] (zq_shX j) X zq_shM M (zq_ad G 141) := by
  obtain ⟨r, X1, M1, hfx, hfm, hI2⟩ := hop q j X M  hq hI
  refine zj_aload_n JC (pc := 960) (zq_d eL25 0 rfl) 1 rfl rfl ?_
  refine zj_Vx JC (pc := 961) (r1 := (r, X1)) [] (zq_d eL25 1 rfl) (s_X10_undo G N _ j X ) hfx zd_X10_undo zl_law_118 (ox_0 j) rfl rfl rfl rfl (Nat.le_of_ble_eq_true rfl) (Nat.le_of_ble_eq_true rfl) (Nat.le_of_ble_eq_true rfl) ⟨(by show kc + 0 ≤ _; omega), (by show kn + 0 ≤ _; omega)⟩ (zq_dmx j) ?_
  refine zj_aload_n JC (pc := 964) (zq_d eL25 2 rfl) 2 rfl rfl ?_
  refine zj_Vm JC (pc := 965) (r1 := (r, M1)) [] (zq_d eL25 3 rfl) (s_X11_undo G N _ M ) hfm zd_X11_undo zl_law_121 om_69 rfl rfl rfl rfl (Nat.le_of_ble_eq_true rfl) (Nat.le_of_ble_eq_true rfl) (Nat.le_of_ble_eq_true rfl) ⟨(by show kc + 0 + 0 ≤ _; omega), (by show kn + 0 + 0 ≤ _; omega)⟩ (zq_dxm j) ?_
  refine zj_eq JC (pc := 968) 1308 (zq_d eL25 4 rfl) (by decide) ?_
  exact zj_wid (kc2 := kc + 5) (kn2 := kn + 137) (by show kc + 0 + 0 ≤ _; omega) (by show kn + 0 + 0 ≤ _; omega) (K j X1 M1 hI2)
set_option maxRecDepth 20000 in
set_option maxHeartbeats 8000000 in
theorem zl_case26 (JC : zq_JC p s m meth c b L xs G) {N : Nat} {I : Nat → Nat → zq_M → zq_M → Prop} (hop : zq_op_act N I) {q j kc kn : Nat} {X M : zq_M} {i : Int32} (hq : q < 512) (hI : I q j X M) (hv1 : vp_in (i + 1) L) (hv2 : vp_in (i + 2) L) (hv3 : vp_in (i + 3) L) (hv4 : vp_in (i + 4) L) (hv5 : vp_in (i + 5) L) (h1 : kc + 5 ≤ 600000) (h2 : kn + 137 ≤ 7302249) (K : ∀ (j1 : Nat) (X1 M1 : zq_M), I (q + 1) j1 X1 M1 → zq_J p e s m below meth c b G (kc + 5) (kn + 137) 1308 [(0, .ref b), (1, .ref (zq_ad G 0)), (2, .ref (zq_ad G 69)), (3, .int i)] [] (zq_shX j1) X1 zq_shM M1 (zq_ad G 141)) : zq_J p e s m below meth c b G kc kn 973 [(0, .ref b), (1, .ref (zq_ad G 0)), (2, .ref (zq_ad G 69)), (3, .int i)] [] (zq_shX j) X zq_shM M (zq_ad G 141) := by
  obtain ⟨r, X1, M1, hfx, hfm, hI2⟩ := hop q j X M (xs (i + 1).toNatClampNeg) (xs (i + 2).toNatClampNeg) (xs (i + 3).toNatClampNeg) hq hI
  refine zj_aload_n JC (pc := 973) (zq_d eL26 0 rfl) 1 rfl rfl ?_
  refine zj_aload_n JC (pc := 974) (zq_d eL26 1 rfl) 0 rfl rfl ?_
  refine zj_iload_n JC (pc := 975) (zq_d eL26 2 rfl) 3 rfl rfl ?_
  refine zj_iconst JC (pc := 976) (zq_d eL26 3 rfl) zc_i1 ?_
  refine zj_iadd JC (pc := 977) (zq_d eL26 4 rfl) ?_
  refine zj_sld JC (pc := 978) (zq_d eL26 5 rfl) hv1 ?_
  refine zj_aload_n JC (pc := 979) (zq_d eL26 6 rfl) 0 rfl rfl ?_
  refine zj_iload_n JC (pc := 980) (zq_d eL26 7 rfl) 3 rfl rfl ?_
  refine zj_iconst JC (pc := 981) (zq_d eL26 8 rfl) zc_i2 ?_
  refine zj_iadd JC (pc := 982) (zq_d eL26 9 rfl) ?_
  refine zj_sld JC (pc := 983) (zq_d eL26 10 rfl) hv2 ?_
  refine zj_aload_n JC (pc := 984) (zq_d eL26 11 rfl) 0 rfl rfl ?_
  refine zj_iload_n JC (pc := 985) (zq_d eL26 12 rfl) 3 rfl rfl ?_
  refine zj_iconst JC (pc := 986) (zq_d eL26 13 rfl) zc_i3 ?_
  refine zj_iadd JC (pc := 987) (zq_d eL26 14 rfl) ?_
  refine zj_sld JC (pc := 988) (zq_d eL26 15 rfl) hv3 ?_
  refine zj_Vx JC (pc := 989) (r1 := (r, X1)) [_, _, _] (zq_d eL26 16 rfl) (s_X10_act G N _ j X _ _ _) hfx zd_X10_act zl_law_122 (ox_0 j) rfl rfl rfl rfl (Nat.le_of_ble_eq_true rfl) (Nat.le_of_ble_eq_true rfl) (Nat.le_of_ble_eq_true rfl) ⟨(by show kc + 0 ≤ _; omega), (by show kn + 0 ≤ _; omega)⟩ (zq_dmx j) ?_
  refine zj_aload_n JC (pc := 992) (zq_d eL26 17 rfl) 2 rfl rfl ?_
  refine zj_aload_n JC (pc := 993) (zq_d eL26 18 rfl) 0 rfl rfl ?_
  refine zj_iload_n JC (pc := 994) (zq_d eL26 19 rfl) 3 rfl rfl ?_
  refine zj_iconst JC (pc := 995) (zq_d eL26 20 rfl) zc_i1 ?_
  refine zj_iadd JC (pc := 996) (zq_d eL26 21 rfl) ?_
  refine zj_sld JC (pc := 997) (zq_d eL26 22 rfl) hv1 ?_
  refine zj_aload_n JC (pc := 998) (zq_d eL26 23 rfl) 0 rfl rfl ?_
  refine zj_iload_n JC (pc := 999) (zq_d eL26 24 rfl) 3 rfl rfl ?_
  refine zj_iconst JC (pc := 1000) (zq_d eL26 25 rfl) zc_i2 ?_
  refine zj_iadd JC (pc := 1001) (zq_d eL26 26 rfl) ?_
  refine zj_sld JC (pc := 1002) (zq_d eL26 27 rfl) hv2 ?_
  refine zj_aload_n JC (pc := 1003) (zq_d eL26 28 rfl) 0 rfl rfl ?_
  refine zj_iload_n JC (pc := 1004) (zq_d eL26 29 rfl) 3 rfl rfl ?_
  refine zj_iconst JC (pc := 1005) (zq_d eL26 30 rfl) zc_i3 ?_
  refine zj_iadd JC (pc := 1006) (zq_d eL26 31 rfl) ?_
  refine zj_sld JC (pc := 1007) (zq_d eL26 32 rfl) hv3 ?_
  refine zj_Vm JC (pc := 1008) (r1 := (r, M1)) [_, _, _] (zq_d eL26 33 rfl) (s_X11_act G N _ M _ _ _) hfm zd_X11_act zl_law_125 om_69 rfl rfl rfl rfl (Nat.le_of_ble_eq_true rfl) (Nat.le_of_ble_eq_true rfl) (Nat.le_of_ble_eq_true rfl) ⟨(by show kc + 0 + 0 ≤ _; omega), (by show kn + 0 + 0 ≤ _; omega)⟩ (zq_dxm j) ?_
  refine zj_eq JC (pc := 1011) 1308 (zq_d eL26 34 rfl) (by decide) ?_
  exact zj_wid (kc2 := kc + 5) (kn2 := kn + 137) (by show kc + 0 + 0 ≤ _; omega) (by show kn + 0 + 0 ≤ _; omega) (K j X1 M1 hI2)
set_option maxRecDepth 20000 in
set_option maxHeartbeats 8000000 in
theorem zl_case27 (JC : zq_JC p s m meth c b L xs G) {N : Nat} {I : Nat → Nat → zq_M → zq_M → Prop} (hop : zq_op_trace N I) {q j kc kn : Nat} {X M : zq_M} {i : Int32} (hq : q < 512) (hI : I q j X M) (hv1 : vp_in (i + 1) L) (hv2 : vp_in (i + 2) L) (hv3 : vp_in (i + 3) L) (hv4 : vp_in (i + 4) L) (hv5 : vp_in (i + 5) L) (h1 : kc + 5 ≤ 600000) (h2 : kn + 137 ≤ 7302249) (K : ∀ (j1 : Nat) (X1 M1 : zq_M), I (q + 1) j1 X1 M1 → zq_J p e s m below meth c b G (kc + 5) (kn + 137) 1308 [(0, .ref b), (1, .ref (zq_ad G 0)), (2, .ref (zq_ad G 69)), (3, .int i)] [] (zq_shX j1) X1 zq_shM M1 (zq_ad G 141)) : zq_J p e s m below meth c b G kc kn 1016 [(0, .ref b), (1, .ref (zq_ad G 0)), (2, .ref (zq_ad G 69)), (3, .int i)] [] (zq_shX j) X zq_shM M (zq_ad G 141) := by
  obtain ⟨r, hfx, hfm, hI2⟩ := hop q j X M (xs (i + 1).toNatClampNeg) hq hI
  refine zj_aload_n JC (pc := 1016) (zq_d eL27 0 rfl) 1 rfl rfl ?_
  refine zj_aload_n JC (pc := 1017) (zq_d eL27 1 rfl) 0 rfl rfl ?_
  refine zj_iload_n JC (pc := 1018) (zq_d eL27 2 rfl) 3 rfl rfl ?_
  refine zj_iconst JC (pc := 1019) (zq_d eL27 3 rfl) zc_i1 ?_
  refine zj_iadd JC (pc := 1020) (zq_d eL27 4 rfl) ?_
  refine zj_sld JC (pc := 1021) (zq_d eL27 5 rfl) hv1 ?_
  refine zj_Vx JC (pc := 1022) (r1 := r) [_] (zq_d eL27 6 rfl) (s_X10_trace G N _ j X _) hfx zd_X10_trace zl_law_126 (ox_0 j) rfl rfl rfl rfl (Nat.le_of_ble_eq_true rfl) (Nat.le_of_ble_eq_true rfl) (Nat.le_of_ble_eq_true rfl) ⟨(by show kc + 0 ≤ _; omega), (by show kn + 0 ≤ _; omega)⟩ (zq_dmx j) ?_
  refine zj_aload_n JC (pc := 1025) (zq_d eL27 7 rfl) 2 rfl rfl ?_
  refine zj_aload_n JC (pc := 1026) (zq_d eL27 8 rfl) 0 rfl rfl ?_
  refine zj_iload_n JC (pc := 1027) (zq_d eL27 9 rfl) 3 rfl rfl ?_
  refine zj_iconst JC (pc := 1028) (zq_d eL27 10 rfl) zc_i1 ?_
  refine zj_iadd JC (pc := 1029) (zq_d eL27 11 rfl) ?_
  refine zj_sld JC (pc := 1030) (zq_d eL27 12 rfl) hv1 ?_
  refine zj_Vm JC (pc := 1031) (r1 := r) [_] (zq_d eL27 13 rfl) (s_X11_trace G N _ M _) hfm zd_X11_trace zl_law_129 om_69 rfl rfl rfl rfl (Nat.le_of_ble_eq_true rfl) (Nat.le_of_ble_eq_true rfl) (Nat.le_of_ble_eq_true rfl) ⟨(by show kc + 0 + 0 ≤ _; omega), (by show kn + 0 + 0 ≤ _; omega)⟩ (zq_dxm j) ?_
  refine zj_eq JC (pc := 1034) 1308 (zq_d eL27 14 rfl) (by decide) ?_
  exact zj_wid (kc2 := kc + 5) (kn2 := kn + 137) (by show kc + 0 + 0 ≤ _; omega) (by show kn + 0 + 0 ≤ _; omega) (K j X M hI2)
set_option maxRecDepth 20000 in
set_option maxHeartbeats 8000000 in
theorem zl_case28 (JC : zq_JC p s m meth c b L xs G) {N : Nat} {I : Nat → Nat → zq_M → zq_M → Prop} (hop : zq_op_taken N I) {q j kc kn : Nat} {X M : zq_M} {i : Int32} (hq : q < 512) (hI : I q j X M) (hv1 : vp_in (i + 1) L) (hv2 : vp_in (i + 2) L) (hv3 : vp_in (i + 3) L) (hv4 : vp_in (i + 4) L) (hv5 : vp_in (i + 5) L) (h1 : kc + 5 ≤ 600000) (h2 : kn + 137 ≤ 7302249) (K : ∀ (j1 : Nat) (X1 M1 : zq_M), I (q + 1) j1 X1 M1 → zq_J p e s m below meth c b G (kc + 5) (kn + 137) 1308 [(0, .ref b), (1, .ref (zq_ad G 0)), (2, .ref (zq_ad G 69)), (3, .int i)] [] (zq_shX j1) X1 zq_shM M1 (zq_ad G 141)) : zq_J p e s m below meth c b G kc kn 1039 [(0, .ref b), (1, .ref (zq_ad G 0)), (2, .ref (zq_ad G 69)), (3, .int i)] [] (zq_shX j) X zq_shM M (zq_ad G 141) := by
  obtain ⟨r, hfx, hfm, hI2⟩ := hop q j X M (xs (i + 1).toNatClampNeg) (xs (i + 2).toNatClampNeg) hq hI
  refine zj_aload_n JC (pc := 1039) (zq_d eL28 0 rfl) 1 rfl rfl ?_
  refine zj_aload_n JC (pc := 1040) (zq_d eL28 1 rfl) 0 rfl rfl ?_
  refine zj_iload_n JC (pc := 1041) (zq_d eL28 2 rfl) 3 rfl rfl ?_
  refine zj_iconst JC (pc := 1042) (zq_d eL28 3 rfl) zc_i1 ?_
  refine zj_iadd JC (pc := 1043) (zq_d eL28 4 rfl) ?_
  refine zj_sld JC (pc := 1044) (zq_d eL28 5 rfl) hv1 ?_
  refine zj_aload_n JC (pc := 1045) (zq_d eL28 6 rfl) 0 rfl rfl ?_
  refine zj_iload_n JC (pc := 1046) (zq_d eL28 7 rfl) 3 rfl rfl ?_
  refine zj_iconst JC (pc := 1047) (zq_d eL28 8 rfl) zc_i2 ?_
  refine zj_iadd JC (pc := 1048) (zq_d eL28 9 rfl) ?_
  refine zj_sld JC (pc := 1049) (zq_d eL28 10 rfl) hv2 ?_
  refine zj_Vx JC (pc := 1050) (r1 := r) [_, _] (zq_d eL28 11 rfl) (s_X10_taken G N _ j X _ _) hfx zd_X10_taken zl_law_130 (ox_0 j) rfl rfl rfl rfl (Nat.le_of_ble_eq_true rfl) (Nat.le_of_ble_eq_true rfl) (Nat.le_of_ble_eq_true rfl) ⟨(by show kc + 0 ≤ _; omega), (by show kn + 0 ≤ _; omega)⟩ (zq_dmx j) ?_
  refine zj_aload_n JC (pc := 1053) (zq_d eL28 12 rfl) 2 rfl rfl ?_
  refine zj_aload_n JC (pc := 1054) (zq_d eL28 13 rfl) 0 rfl rfl ?_
  refine zj_iload_n JC (pc := 1055) (zq_d eL28 14 rfl) 3 rfl rfl ?_
  refine zj_iconst JC (pc := 1056) (zq_d eL28 15 rfl) zc_i1 ?_
  refine zj_iadd JC (pc := 1057) (zq_d eL28 16 rfl) ?_
  refine zj_sld JC (pc := 1058) (zq_d eL28 17 rfl) hv1 ?_
  refine zj_aload_n JC (pc := 1059) (zq_d eL28 18 rfl) 0 rfl rfl ?_
  refine zj_iload_n JC (pc := 1060) (zq_d eL28 19 rfl) 3 rfl rfl ?_
  refine zj_iconst JC (pc := 1061) (zq_d eL28 20 rfl) zc_i2 ?_
  refine zj_iadd JC (pc := 1062) (zq_d eL28 21 rfl) ?_
  refine zj_sld JC (pc := 1063) (zq_d eL28 22 rfl) hv2 ?_
  refine zj_Vm JC (pc := 1064) (r1 := r) [_, _] (zq_d eL28 23 rfl) (s_X11_taken G N _ M _ _) hfm zd_X11_taken zl_law_133 om_69 rfl rfl rfl rfl (Nat.le_of_ble_eq_true rfl) (Nat.le_of_ble_eq_true rfl) (Nat.le_of_ble_eq_true rfl) ⟨(by show kc + 0 + 0 ≤ _; omega), (by show kn + 0 + 0 ≤ _; omega)⟩ (zq_dxm j) ?_
  refine zj_eq JC (pc := 1067) 1308 (zq_d eL28 24 rfl) (by decide) ?_
  exact zj_wid (kc2 := kc + 5) (kn2 := kn + 137) (by show kc + 0 + 0 ≤ _; omega) (by show kn + 0 + 0 ≤ _; omega) (K j X M hI2)
set_option maxRecDepth 20000 in
set_option maxHeartbeats 8000000 in
theorem zl_case29 (JC : zq_JC p s m meth c b L xs G) {N : Nat} {I : Nat → Nat → zq_M → zq_M → Prop} (hop : zq_op_count N I) {q j kc kn : Nat} {X M : zq_M} {i : Int32} (hq : q < 512) (hI : I q j X M) (hv1 : vp_in (i + 1) L) (hv2 : vp_in (i + 2) L) (hv3 : vp_in (i + 3) L) (hv4 : vp_in (i + 4) L) (hv5 : vp_in (i + 5) L) (h1 : kc + 5 ≤ 600000) (h2 : kn + 137 ≤ 7302249) (K : ∀ (j1 : Nat) (X1 M1 : zq_M), I (q + 1) j1 X1 M1 → zq_J p e s m below meth c b G (kc + 5) (kn + 137) 1308 [(0, .ref b), (1, .ref (zq_ad G 0)), (2, .ref (zq_ad G 69)), (3, .int i)] [] (zq_shX j1) X1 zq_shM M1 (zq_ad G 141)) : zq_J p e s m below meth c b G kc kn 1072 [(0, .ref b), (1, .ref (zq_ad G 0)), (2, .ref (zq_ad G 69)), (3, .int i)] [] (zq_shX j) X zq_shM M (zq_ad G 141) := by
  obtain ⟨r, hfx, hfm, hI2⟩ := hop q j X M (xs (i + 1).toNatClampNeg) hq hI
  refine zj_aload_n JC (pc := 1072) (zq_d eL29 0 rfl) 1 rfl rfl ?_
  refine zj_aload_n JC (pc := 1073) (zq_d eL29 1 rfl) 0 rfl rfl ?_
  refine zj_iload_n JC (pc := 1074) (zq_d eL29 2 rfl) 3 rfl rfl ?_
  refine zj_iconst JC (pc := 1075) (zq_d eL29 3 rfl) zc_i1 ?_
  refine zj_iadd JC (pc := 1076) (zq_d eL29 4 rfl) ?_
  refine zj_sld JC (pc := 1077) (zq_d eL29 5 rfl) hv1 ?_
  refine zj_Vx JC (pc := 1078) (r1 := r) [_] (zq_d eL29 6 rfl) (s_X10_count G N _ j X _) hfx zd_X10_count zl_law_134 (ox_0 j) rfl rfl rfl rfl (Nat.le_of_ble_eq_true rfl) (Nat.le_of_ble_eq_true rfl) (Nat.le_of_ble_eq_true rfl) ⟨(by show kc + 0 ≤ _; omega), (by show kn + 0 ≤ _; omega)⟩ (zq_dmx j) ?_
  refine zj_aload_n JC (pc := 1081) (zq_d eL29 7 rfl) 2 rfl rfl ?_
  refine zj_aload_n JC (pc := 1082) (zq_d eL29 8 rfl) 0 rfl rfl ?_
  refine zj_iload_n JC (pc := 1083) (zq_d eL29 9 rfl) 3 rfl rfl ?_
  refine zj_iconst JC (pc := 1084) (zq_d eL29 10 rfl) zc_i1 ?_
  refine zj_iadd JC (pc := 1085) (zq_d eL29 11 rfl) ?_
  refine zj_sld JC (pc := 1086) (zq_d eL29 12 rfl) hv1 ?_
  refine zj_Vm JC (pc := 1087) (r1 := r) [_] (zq_d eL29 13 rfl) (s_X11_count G N _ M _) hfm zd_X11_count zl_law_137 om_69 rfl rfl rfl rfl (Nat.le_of_ble_eq_true rfl) (Nat.le_of_ble_eq_true rfl) (Nat.le_of_ble_eq_true rfl) ⟨(by show kc + 0 + 0 ≤ _; omega), (by show kn + 0 + 0 ≤ _; omega)⟩ (zq_dxm j) ?_
  refine zj_eq JC (pc := 1090) 1308 (zq_d eL29 14 rfl) (by decide) ?_
  exact zj_wid (kc2 := kc + 5) (kn2 := kn + 137) (by show kc + 0 + 0 ≤ _; omega) (by show kn + 0 + 0 ≤ _; omega) (K j X M hI2)
set_option maxRecDepth 20000 in
set_option maxHeartbeats 8000000 in
theorem zl_case30 (JC : zq_JC p s m meth c b L xs G) {N : Nat} {I : Nat → Nat → zq_M → zq_M → Prop} (hop : zq_op_tape N I) {q j kc kn : Nat} {X M : zq_M} {i : Int32} (hq : q < 512) (hI : I q j X M) (hv1 : vp_in (i + 1) L) (hv2 : vp_in (i + 2) L) (hv3 : vp_in (i + 3) L) (hv4 : vp_in (i + 4) L) (hv5 : vp_in (i + 5) L) (h1 : kc + 5 ≤ 600000) (h2 : kn + 137 ≤ 7302249) (K : ∀ (j1 : Nat) (X1 M1 : zq_M), I (q + 1) j1 X1 M1 → zq_J p e s m below meth c b G (kc + 5) (kn + 137) 1308 [(0, .ref b), (1, .ref (zq_ad G 0)), (2, .ref (zq_ad G 69)), (3, .int i)] [] (zq_shX j1) X1 zq_shM M1 (zq_ad G 141)) : zq_J p e s m below meth c b G kc kn 1095 [(0, .ref b), (1, .ref (zq_ad G 0)), (2, .ref (zq_ad G 69)), (3, .int i)] [] (zq_shX j) X zq_shM M (zq_ad G 141) := by
  obtain ⟨r, X1, M1, hfx, hfm, hI2⟩ := hop q j X M (xs (i + 1).toNatClampNeg) (xs (i + 2).toNatClampNeg) (xs (i + 3).toNatClampNeg) hq hI
  refine zj_aload_n JC (pc := 1095) (zq_d eL30 0 rfl) 1 rfl rfl ?_
  refine zj_aload_n JC (pc := 1096) (zq_d eL30 1 rfl) 0 rfl rfl ?_
  refine zj_iload_n JC (pc := 1097) (zq_d eL30 2 rfl) 3 rfl rfl ?_
  refine zj_iconst JC (pc := 1098) (zq_d eL30 3 rfl) zc_i1 ?_
  refine zj_iadd JC (pc := 1099) (zq_d eL30 4 rfl) ?_
  refine zj_sld JC (pc := 1100) (zq_d eL30 5 rfl) hv1 ?_
  refine zj_aload_n JC (pc := 1101) (zq_d eL30 6 rfl) 0 rfl rfl ?_
  refine zj_iload_n JC (pc := 1102) (zq_d eL30 7 rfl) 3 rfl rfl ?_
  refine zj_iconst JC (pc := 1103) (zq_d eL30 8 rfl) zc_i2 ?_
  refine zj_iadd JC (pc := 1104) (zq_d eL30 9 rfl) ?_
  refine zj_sld JC (pc := 1105) (zq_d eL30 10 rfl) hv2 ?_
  refine zj_aload_n JC (pc := 1106) (zq_d eL30 11 rfl) 0 rfl rfl ?_
  refine zj_iload_n JC (pc := 1107) (zq_d eL30 12 rfl) 3 rfl rfl ?_
  refine zj_iconst JC (pc := 1108) (zq_d eL30 13 rfl) zc_i3 ?_
  refine zj_iadd JC (pc := 1109) (zq_d eL30 14 rfl) ?_
  refine zj_sld JC (pc := 1110) (zq_d eL30 15 rfl) hv3 ?_
  refine zj_Vx JC (pc := 1111) (r1 := (r, X1)) [_, _, _] (zq_d eL30 16 rfl) (s_X10_tape G N _ j X _ _ _) hfx zd_X10_tape zl_law_138 (ox_0 j) rfl rfl rfl rfl (Nat.le_of_ble_eq_true rfl) (Nat.le_of_ble_eq_true rfl) (Nat.le_of_ble_eq_true rfl) ⟨(by show kc + 0 ≤ _; omega), (by show kn + 0 ≤ _; omega)⟩ (zq_dmx j) ?_
  refine zj_aload_n JC (pc := 1114) (zq_d eL30 17 rfl) 2 rfl rfl ?_
  refine zj_aload_n JC (pc := 1115) (zq_d eL30 18 rfl) 0 rfl rfl ?_
  refine zj_iload_n JC (pc := 1116) (zq_d eL30 19 rfl) 3 rfl rfl ?_
  refine zj_iconst JC (pc := 1117) (zq_d eL30 20 rfl) zc_i1 ?_
  refine zj_iadd JC (pc := 1118) (zq_d eL30 21 rfl) ?_
  refine zj_sld JC (pc := 1119) (zq_d eL30 22 rfl) hv1 ?_
  refine zj_aload_n JC (pc := 1120) (zq_d eL30 23 rfl) 0 rfl rfl ?_
  refine zj_iload_n JC (pc := 1121) (zq_d eL30 24 rfl) 3 rfl rfl ?_
  refine zj_iconst JC (pc := 1122) (zq_d eL30 25 rfl) zc_i2 ?_
  refine zj_iadd JC (pc := 1123) (zq_d eL30 26 rfl) ?_
  refine zj_sld JC (pc := 1124) (zq_d eL30 27 rfl) hv2 ?_
  refine zj_aload_n JC (pc := 1125) (zq_d eL30 28 rfl) 0 rfl rfl ?_
  refine zj_iload_n JC (pc := 1126) (zq_d eL30 29 rfl) 3 rfl rfl ?_
  refine zj_iconst JC (pc := 1127) (zq_d eL30 30 rfl) zc_i3 ?_
  refine zj_iadd JC (pc := 1128) (zq_d eL30 31 rfl) ?_
  refine zj_sld JC (pc := 1129) (zq_d eL30 32 rfl) hv3 ?_
  refine zj_Vm JC (pc := 1130) (r1 := (r, M1)) [_, _, _] (zq_d eL30 33 rfl) (s_X11_tape G N _ M _ _ _) hfm zd_X11_tape zl_law_141 om_69 rfl rfl rfl rfl (Nat.le_of_ble_eq_true rfl) (Nat.le_of_ble_eq_true rfl) (Nat.le_of_ble_eq_true rfl) ⟨(by show kc + 0 + 0 ≤ _; omega), (by show kn + 0 + 0 ≤ _; omega)⟩ (zq_dxm j) ?_
  refine zj_eq JC (pc := 1133) 1308 (zq_d eL30 34 rfl) (by decide) ?_
  exact zj_wid (kc2 := kc + 5) (kn2 := kn + 137) (by show kc + 0 + 0 ≤ _; omega) (by show kn + 0 + 0 ≤ _; omega) (K j X1 M1 hI2)
set_option maxRecDepth 20000 in
set_option maxHeartbeats 8000000 in
theorem zl_case31 (JC : zq_JC p s m meth c b L xs G) {N : Nat} {I : Nat → Nat → zq_M → zq_M → Prop} (hop : zq_op_item N I) {q j kc kn : Nat} {X M : zq_M} {i : Int32} (hq : q < 512) (hI : I q j X M) (hv1 : vp_in (i + 1) L) (hv2 : vp_in (i + 2) L) (hv3 : vp_in (i + 3) L) (hv4 : vp_in (i + 4) L) (hv5 : vp_in (i + 5) L) (h1 : kc + 5 ≤ 600000) (h2 : kn + 137 ≤ 7302249) (K : ∀ (j1 : Nat) (X1 M1 : zq_M), I (q + 1) j1 X1 M1 → zq_J p e s m below meth c b G (kc + 5) (kn + 137) 1308 [(0, .ref b), (1, .ref (zq_ad G 0)), (2, .ref (zq_ad G 69)), (3, .int i)] [] (zq_shX j1) X1 zq_shM M1 (zq_ad G 141)) : zq_J p e s m below meth c b G kc kn 1138 [(0, .ref b), (1, .ref (zq_ad G 0)), (2, .ref (zq_ad G 69)), (3, .int i)] [] (zq_shX j) X zq_shM M (zq_ad G 141) := by
  obtain ⟨r, X1, M1, hfx, hfm, hI2⟩ := hop q j X M (xs (i + 1).toNatClampNeg) (xs (i + 2).toNatClampNeg) (zq_lshl (xs (i + 3).toNatClampNeg).toInt64 32 ||| ((xs (i + 4).toNatClampNeg).toInt64 &&& 4294967295)) hq hI
  refine zj_aload_n JC (pc := 1138) (zq_d eL31 0 rfl) 1 rfl rfl ?_
  refine zj_aload_n JC (pc := 1139) (zq_d eL31 1 rfl) 0 rfl rfl ?_
  refine zj_iload_n JC (pc := 1140) (zq_d eL31 2 rfl) 3 rfl rfl ?_
  refine zj_iconst JC (pc := 1141) (zq_d eL31 3 rfl) zc_i1 ?_
  refine zj_iadd JC (pc := 1142) (zq_d eL31 4 rfl) ?_
  refine zj_sld JC (pc := 1143) (zq_d eL31 5 rfl) hv1 ?_
  refine zj_aload_n JC (pc := 1144) (zq_d eL31 6 rfl) 0 rfl rfl ?_
  refine zj_iload_n JC (pc := 1145) (zq_d eL31 7 rfl) 3 rfl rfl ?_
  refine zj_iconst JC (pc := 1146) (zq_d eL31 8 rfl) zc_i2 ?_
  refine zj_iadd JC (pc := 1147) (zq_d eL31 9 rfl) ?_
  refine zj_sld JC (pc := 1148) (zq_d eL31 10 rfl) hv2 ?_
  refine zj_aload_n JC (pc := 1149) (zq_d eL31 11 rfl) 0 rfl rfl ?_
  refine zj_iload_n JC (pc := 1150) (zq_d eL31 12 rfl) 3 rfl rfl ?_
  refine zj_iconst JC (pc := 1151) (zq_d eL31 13 rfl) zc_i3 ?_
  refine zj_iadd JC (pc := 1152) (zq_d eL31 14 rfl) ?_
  refine zj_sld JC (pc := 1153) (zq_d eL31 15 rfl) hv3 ?_
  refine zj_i2l JC (pc := 1154) (zq_d eL31 16 rfl) ?_
  refine zj_bipush JC (pc := 1155) (zq_d eL31 17 rfl) zc_b32 ?_
  refine zj_lshl JC (pc := 1157) (zq_d eL31 18 rfl) ?_
  refine zj_aload_n JC (pc := 1158) (zq_d eL31 19 rfl) 0 rfl rfl ?_
  refine zj_iload_n JC (pc := 1159) (zq_d eL31 20 rfl) 3 rfl rfl ?_
  refine zj_iconst JC (pc := 1160) (zq_d eL31 21 rfl) zc_i4 ?_
  refine zj_iadd JC (pc := 1161) (zq_d eL31 22 rfl) ?_
  refine zj_sld JC (pc := 1162) (zq_d eL31 23 rfl) hv4 ?_
  refine zj_i2l JC (pc := 1163) (zq_d eL31 24 rfl) ?_
  refine zj_ldc2 JC (pc := 1164) (zq_d eL31 25 rfl) zk_law_142 ?_
  refine zj_land JC (pc := 1167) (zq_d eL31 26 rfl) ?_
  refine zj_lor JC (pc := 1168) (zq_d eL31 27 rfl) ?_
  refine zj_Vx JC (pc := 1169) (r1 := (r, X1)) [_, _, _] (zq_d eL31 28 rfl) (s_X10_item G N _ j X _ _ _) hfx zd_X10_item zl_law_144 (ox_0 j) rfl rfl rfl rfl (Nat.le_of_ble_eq_true rfl) (Nat.le_of_ble_eq_true rfl) (Nat.le_of_ble_eq_true rfl) ⟨(by show kc + 0 ≤ _; omega), (by show kn + 0 ≤ _; omega)⟩ (zq_dmx j) ?_
  refine zj_aload_n JC (pc := 1172) (zq_d eL31 29 rfl) 2 rfl rfl ?_
  refine zj_aload_n JC (pc := 1173) (zq_d eL31 30 rfl) 0 rfl rfl ?_
  refine zj_iload_n JC (pc := 1174) (zq_d eL31 31 rfl) 3 rfl rfl ?_
  refine zj_iconst JC (pc := 1175) (zq_d eL31 32 rfl) zc_i1 ?_
  refine zj_iadd JC (pc := 1176) (zq_d eL31 33 rfl) ?_
  refine zj_sld JC (pc := 1177) (zq_d eL31 34 rfl) hv1 ?_
  refine zj_aload_n JC (pc := 1178) (zq_d eL31 35 rfl) 0 rfl rfl ?_
  refine zj_iload_n JC (pc := 1179) (zq_d eL31 36 rfl) 3 rfl rfl ?_
  refine zj_iconst JC (pc := 1180) (zq_d eL31 37 rfl) zc_i2 ?_
  refine zj_iadd JC (pc := 1181) (zq_d eL31 38 rfl) ?_
  refine zj_sld JC (pc := 1182) (zq_d eL31 39 rfl) hv2 ?_
  refine zj_aload_n JC (pc := 1183) (zq_d eL31 40 rfl) 0 rfl rfl ?_
  refine zj_iload_n JC (pc := 1184) (zq_d eL31 41 rfl) 3 rfl rfl ?_
  refine zj_iconst JC (pc := 1185) (zq_d eL31 42 rfl) zc_i3 ?_
  refine zj_iadd JC (pc := 1186) (zq_d eL31 43 rfl) ?_
  refine zj_sld JC (pc := 1187) (zq_d eL31 44 rfl) hv3 ?_
  refine zj_i2l JC (pc := 1188) (zq_d eL31 45 rfl) ?_
  refine zj_bipush JC (pc := 1189) (zq_d eL31 46 rfl) zc_b32 ?_
  refine zj_lshl JC (pc := 1191) (zq_d eL31 47 rfl) ?_
  refine zj_aload_n JC (pc := 1192) (zq_d eL31 48 rfl) 0 rfl rfl ?_
  refine zj_iload_n JC (pc := 1193) (zq_d eL31 49 rfl) 3 rfl rfl ?_
  refine zj_iconst JC (pc := 1194) (zq_d eL31 50 rfl) zc_i4 ?_
  refine zj_iadd JC (pc := 1195) (zq_d eL31 51 rfl) ?_
  refine zj_sld JC (pc := 1196) (zq_d eL31 52 rfl) hv4 ?_
  refine zj_i2l JC (pc := 1197) (zq_d eL31 53 rfl) ?_
  refine zj_ldc2 JC (pc := 1198) (zq_d eL31 54 rfl) zk_law_142 ?_
  refine zj_land JC (pc := 1201) (zq_d eL31 55 rfl) ?_
  refine zj_lor JC (pc := 1202) (zq_d eL31 56 rfl) ?_
  refine zj_Vm JC (pc := 1203) (r1 := (r, M1)) [_, _, _] (zq_d eL31 57 rfl) (s_X11_item G N _ M _ _ _) hfm zd_X11_item zl_law_148 om_69 rfl rfl rfl rfl (Nat.le_of_ble_eq_true rfl) (Nat.le_of_ble_eq_true rfl) (Nat.le_of_ble_eq_true rfl) ⟨(by show kc + 0 + 0 ≤ _; omega), (by show kn + 0 + 0 ≤ _; omega)⟩ (zq_dxm j) ?_
  refine zj_eq JC (pc := 1206) 1308 (zq_d eL31 58 rfl) (by decide) ?_
  exact zj_wid (kc2 := kc + 5) (kn2 := kn + 137) (by show kc + 0 + 0 ≤ _; omega) (by show kn + 0 + 0 ≤ _; omega) (K j X1 M1 hI2)
set_option maxRecDepth 20000 in
set_option maxHeartbeats 8000000 in
theorem zl_case32 (JC : zq_JC p s m meth c b L xs G) {N : Nat} {I : Nat → Nat → zq_M → zq_M → Prop} (hop : zq_op_read N I) {q j kc kn : Nat} {X M : zq_M} {i : Int32} (hq : q < 512) (hI : I q j X M) (hv1 : vp_in (i + 1) L) (hv2 : vp_in (i + 2) L) (hv3 : vp_in (i + 3) L) (hv4 : vp_in (i + 4) L) (hv5 : vp_in (i + 5) L) (h1 : kc + 5 ≤ 600000) (h2 : kn + 137 ≤ 7302249) (K : ∀ (j1 : Nat) (X1 M1 : zq_M), I (q + 1) j1 X1 M1 → zq_J p e s m below meth c b G (kc + 5) (kn + 137) 1308 [(0, .ref b), (1, .ref (zq_ad G 0)), (2, .ref (zq_ad G 69)), (3, .int i)] [] (zq_shX j1) X1 zq_shM M1 (zq_ad G 141)) : zq_J p e s m below meth c b G kc kn 1211 [(0, .ref b), (1, .ref (zq_ad G 0)), (2, .ref (zq_ad G 69)), (3, .int i)] [] (zq_shX j) X zq_shM M (zq_ad G 141) := by
  obtain ⟨r, hfx, hfm, hI2⟩ := hop q j X M (xs (i + 1).toNatClampNeg) (xs (i + 2).toNatClampNeg) hq hI
  refine zj_aload_n JC (pc := 1211) (zq_d eL32 0 rfl) 1 rfl rfl ?_
  refine zj_aload_n JC (pc := 1212) (zq_d eL32 1 rfl) 0 rfl rfl ?_
  refine zj_iload_n JC (pc := 1213) (zq_d eL32 2 rfl) 3 rfl rfl ?_
  refine zj_iconst JC (pc := 1214) (zq_d eL32 3 rfl) zc_i1 ?_
  refine zj_iadd JC (pc := 1215) (zq_d eL32 4 rfl) ?_
  refine zj_sld JC (pc := 1216) (zq_d eL32 5 rfl) hv1 ?_
  refine zj_aload_n JC (pc := 1217) (zq_d eL32 6 rfl) 0 rfl rfl ?_
  refine zj_iload_n JC (pc := 1218) (zq_d eL32 7 rfl) 3 rfl rfl ?_
  refine zj_iconst JC (pc := 1219) (zq_d eL32 8 rfl) zc_i2 ?_
  refine zj_iadd JC (pc := 1220) (zq_d eL32 9 rfl) ?_
  refine zj_sld JC (pc := 1221) (zq_d eL32 10 rfl) hv2 ?_
  refine zj_Vx JC (pc := 1222) (r1 := r) [_, _] (zq_d eL32 11 rfl) (s_X10_read G N _ j X _ _) hfx zd_X10_read zl_law_149 (ox_0 j) rfl rfl rfl rfl (Nat.le_of_ble_eq_true rfl) (Nat.le_of_ble_eq_true rfl) (Nat.le_of_ble_eq_true rfl) ⟨(by show kc + 0 ≤ _; omega), (by show kn + 0 ≤ _; omega)⟩ (zq_dmx j) ?_
  refine zj_aload_n JC (pc := 1225) (zq_d eL32 12 rfl) 2 rfl rfl ?_
  refine zj_aload_n JC (pc := 1226) (zq_d eL32 13 rfl) 0 rfl rfl ?_
  refine zj_iload_n JC (pc := 1227) (zq_d eL32 14 rfl) 3 rfl rfl ?_
  refine zj_iconst JC (pc := 1228) (zq_d eL32 15 rfl) zc_i1 ?_
  refine zj_iadd JC (pc := 1229) (zq_d eL32 16 rfl) ?_
  refine zj_sld JC (pc := 1230) (zq_d eL32 17 rfl) hv1 ?_
  refine zj_aload_n JC (pc := 1231) (zq_d eL32 18 rfl) 0 rfl rfl ?_
  refine zj_iload_n JC (pc := 1232) (zq_d eL32 19 rfl) 3 rfl rfl ?_
  refine zj_iconst JC (pc := 1233) (zq_d eL32 20 rfl) zc_i2 ?_
  refine zj_iadd JC (pc := 1234) (zq_d eL32 21 rfl) ?_
  refine zj_sld JC (pc := 1235) (zq_d eL32 22 rfl) hv2 ?_
  refine zj_Vm JC (pc := 1236) (r1 := r) [_, _] (zq_d eL32 23 rfl) (s_X11_read G N _ M _ _) hfm zd_X11_read zl_law_153 om_69 rfl rfl rfl rfl (Nat.le_of_ble_eq_true rfl) (Nat.le_of_ble_eq_true rfl) (Nat.le_of_ble_eq_true rfl) ⟨(by show kc + 0 + 0 ≤ _; omega), (by show kn + 0 + 0 ≤ _; omega)⟩ (zq_dxm j) ?_
  refine zj_lcmp JC (pc := 1239) (zq_d eL32 24 rfl) ?_
  refine zj_leq JC (pc := 1240) 1308 (zq_d eL32 25 rfl) (by decide) ?_
  exact zj_wid (kc2 := kc + 5) (kn2 := kn + 137) (by show kc + 0 + 0 ≤ _; omega) (by show kn + 0 + 0 ≤ _; omega) (K j X M hI2)
set_option maxRecDepth 20000 in
set_option maxHeartbeats 8000000 in
theorem zl_case33 (JC : zq_JC p s m meth c b L xs G) {N : Nat} {I : Nat → Nat → zq_M → zq_M → Prop} (hop : zq_op_shift N I) {q j kc kn : Nat} {X M : zq_M} {i : Int32} (hq : q < 512) (hI : I q j X M) (hv1 : vp_in (i + 1) L) (hv2 : vp_in (i + 2) L) (hv3 : vp_in (i + 3) L) (hv4 : vp_in (i + 4) L) (hv5 : vp_in (i + 5) L) (h1 : kc + 5 ≤ 600000) (h2 : kn + 137 ≤ 7302249) (K : ∀ (j1 : Nat) (X1 M1 : zq_M), I (q + 1) j1 X1 M1 → zq_J p e s m below meth c b G (kc + 5) (kn + 137) 1308 [(0, .ref b), (1, .ref (zq_ad G 0)), (2, .ref (zq_ad G 69)), (3, .int i)] [] (zq_shX j1) X1 zq_shM M1 (zq_ad G 141)) : zq_J p e s m below meth c b G kc kn 1245 [(0, .ref b), (1, .ref (zq_ad G 0)), (2, .ref (zq_ad G 69)), (3, .int i)] [] (zq_shX j) X zq_shM M (zq_ad G 141) := by
  obtain ⟨r, X1, M1, hfx, hfm, hI2⟩ := hop q j X M (xs (i + 1).toNatClampNeg) (xs (i + 2).toNatClampNeg) (xs (i + 3).toNatClampNeg) (xs (i + 4).toNatClampNeg) (xs (i + 5).toNatClampNeg) hq hI
  refine zj_aload_n JC (pc := 1245) (zq_d eL33 0 rfl) 1 rfl rfl ?_
  refine zj_aload_n JC (pc := 1246) (zq_d eL33 1 rfl) 0 rfl rfl ?_
  refine zj_iload_n JC (pc := 1247) (zq_d eL33 2 rfl) 3 rfl rfl ?_
  refine zj_iconst JC (pc := 1248) (zq_d eL33 3 rfl) zc_i1 ?_
  refine zj_iadd JC (pc := 1249) (zq_d eL33 4 rfl) ?_
  refine zj_sld JC (pc := 1250) (zq_d eL33 5 rfl) hv1 ?_
  refine zj_aload_n JC (pc := 1251) (zq_d eL33 6 rfl) 0 rfl rfl ?_
  refine zj_iload_n JC (pc := 1252) (zq_d eL33 7 rfl) 3 rfl rfl ?_
  refine zj_iconst JC (pc := 1253) (zq_d eL33 8 rfl) zc_i2 ?_
  refine zj_iadd JC (pc := 1254) (zq_d eL33 9 rfl) ?_
  refine zj_sld JC (pc := 1255) (zq_d eL33 10 rfl) hv2 ?_
  refine zj_aload_n JC (pc := 1256) (zq_d eL33 11 rfl) 0 rfl rfl ?_
  refine zj_iload_n JC (pc := 1257) (zq_d eL33 12 rfl) 3 rfl rfl ?_
  refine zj_iconst JC (pc := 1258) (zq_d eL33 13 rfl) zc_i3 ?_
  refine zj_iadd JC (pc := 1259) (zq_d eL33 14 rfl) ?_
  refine zj_sld JC (pc := 1260) (zq_d eL33 15 rfl) hv3 ?_
  refine zj_aload_n JC (pc := 1261) (zq_d eL33 16 rfl) 0 rfl rfl ?_
  refine zj_iload_n JC (pc := 1262) (zq_d eL33 17 rfl) 3 rfl rfl ?_
  refine zj_iconst JC (pc := 1263) (zq_d eL33 18 rfl) zc_i4 ?_
  refine zj_iadd JC (pc := 1264) (zq_d eL33 19 rfl) ?_
  refine zj_sld JC (pc := 1265) (zq_d eL33 20 rfl) hv4 ?_
  refine zj_aload_n JC (pc := 1266) (zq_d eL33 21 rfl) 0 rfl rfl ?_
  refine zj_iload_n JC (pc := 1267) (zq_d eL33 22 rfl) 3 rfl rfl ?_
  refine zj_iconst JC (pc := 1268) (zq_d eL33 23 rfl) zc_i5 ?_
  refine zj_iadd JC (pc := 1269) (zq_d eL33 24 rfl) ?_
  refine zj_sld JC (pc := 1270) (zq_d eL33 25 rfl) hv5 ?_
  refine zj_Vx JC (pc := 1271) (r1 := (r, X1)) [_, _, _, _, _] (zq_d eL33 26 rfl) (s_X10_shift G N _ j X _ _ _ _ _) hfx zd_X10_shift zl_law_154 (ox_0 j) rfl rfl rfl rfl (Nat.le_of_ble_eq_true rfl) (Nat.le_of_ble_eq_true rfl) (Nat.le_of_ble_eq_true rfl) ⟨(by show kc + 0 ≤ _; omega), (by show kn + 0 ≤ _; omega)⟩ (zq_dmx j) ?_
  refine zj_aload_n JC (pc := 1274) (zq_d eL33 27 rfl) 2 rfl rfl ?_
  refine zj_aload_n JC (pc := 1275) (zq_d eL33 28 rfl) 0 rfl rfl ?_
  refine zj_iload_n JC (pc := 1276) (zq_d eL33 29 rfl) 3 rfl rfl ?_
  refine zj_iconst JC (pc := 1277) (zq_d eL33 30 rfl) zc_i1 ?_
  refine zj_iadd JC (pc := 1278) (zq_d eL33 31 rfl) ?_
  refine zj_sld JC (pc := 1279) (zq_d eL33 32 rfl) hv1 ?_
  refine zj_aload_n JC (pc := 1280) (zq_d eL33 33 rfl) 0 rfl rfl ?_
  refine zj_iload_n JC (pc := 1281) (zq_d eL33 34 rfl) 3 rfl rfl ?_
  refine zj_iconst JC (pc := 1282) (zq_d eL33 35 rfl) zc_i2 ?_
  refine zj_iadd JC (pc := 1283) (zq_d eL33 36 rfl) ?_
  refine zj_sld JC (pc := 1284) (zq_d eL33 37 rfl) hv2 ?_
  refine zj_aload_n JC (pc := 1285) (zq_d eL33 38 rfl) 0 rfl rfl ?_
  refine zj_iload_n JC (pc := 1286) (zq_d eL33 39 rfl) 3 rfl rfl ?_
  refine zj_iconst JC (pc := 1287) (zq_d eL33 40 rfl) zc_i3 ?_
  refine zj_iadd JC (pc := 1288) (zq_d eL33 41 rfl) ?_
  refine zj_sld JC (pc := 1289) (zq_d eL33 42 rfl) hv3 ?_
  refine zj_aload_n JC (pc := 1290) (zq_d eL33 43 rfl) 0 rfl rfl ?_
  refine zj_iload_n JC (pc := 1291) (zq_d eL33 44 rfl) 3 rfl rfl ?_
  refine zj_iconst JC (pc := 1292) (zq_d eL33 45 rfl) zc_i4 ?_
  refine zj_iadd JC (pc := 1293) (zq_d eL33 46 rfl) ?_
  refine zj_sld JC (pc := 1294) (zq_d eL33 47 rfl) hv4 ?_
  refine zj_aload_n JC (pc := 1295) (zq_d eL33 48 rfl) 0 rfl rfl ?_
  refine zj_iload_n JC (pc := 1296) (zq_d eL33 49 rfl) 3 rfl rfl ?_
  refine zj_iconst JC (pc := 1297) (zq_d eL33 50 rfl) zc_i5 ?_
  refine zj_iadd JC (pc := 1298) (zq_d eL33 51 rfl) ?_
  refine zj_sld JC (pc := 1299) (zq_d eL33 52 rfl) hv5 ?_
  refine zj_Vm JC (pc := 1300) (r1 := (r, M1)) [_, _, _, _, _] (zq_d eL33 53 rfl) (s_X11_shift G N _ M _ _ _ _ _) hfm zd_X11_shift zl_law_158 om_69 rfl rfl rfl rfl (Nat.le_of_ble_eq_true rfl) (Nat.le_of_ble_eq_true rfl) (Nat.le_of_ble_eq_true rfl) ⟨(by show kc + 0 + 0 ≤ _; omega), (by show kn + 0 + 0 ≤ _; omega)⟩ (zq_dxm j) ?_
  refine zj_eq JC (pc := 1303) 1308 (zq_d eL33 54 rfl) (by decide) ?_
  exact zj_wid (kc2 := kc + 5) (kn2 := kn + 137) (by show kc + 0 + 0 ≤ _; omega) (by show kn + 0 + 0 ≤ _; omega) (K j X1 M1 hI2)

theorem zl_sw {x : Int32} {P : Prop} (h : ∀ n : Nat, n < 34 → x.toInt = (n : Int) → P) (hd : x.toInt < 0 ∨ 33 < x.toInt → P) : P := by
  by_cases h1 : x.toInt < 0 ∨ 33 < x.toInt
  · exact hd h1
  · exact h x.toInt.toNat (by omega) (by omega)
theorem zl_in {q L d : Nat} (h : 6 * q + 6 ≤ L) (hL : L ≤ 3072) (hd : d < 6) {i : Int32} (hi : i = nI (6 * q)) {dd : Int32} (hdd : dd = nI d) : vp_in (i + dd) L := by
  rw [hi, hdd, nI_add]
  exact vp_in_nI (by omega) (by omega)
theorem zl_gt {q L : Nat} (hq : 6 * q ≤ L) (hL : L ≤ 3072) {i : Int32} (hi : i = nI (6 * q)) (h : ¬ (Int32.ofNat L - 6 < i)) : 6 * q + 6 ≤ L := by
  have h1 : i ≤ Int32.ofNat L - 6 := Int32.not_lt.mp h
  rw [Int32.le_iff_toInt_le] at h1
  have e1 : i.toInt = ((6 * q : Nat) : Int) := by rw [hi]; exact nI_toInt (by omega)
  have e2 : (Int32.ofNat L - 6).toInt = (L : Int) - 6 := by
    have := pk_sub_toInt (a := L) (b := 6) (by omega) (by decide)
    exact this
  rw [e1, e2] at h1
  omega
set_option maxRecDepth 20000 in
set_option maxHeartbeats 8000000 in
theorem zl_loop (JC : zq_JC p s m meth c b L xs G) (hL : L ≤ 3072) {N : Nat} {I : Nat → Nat → zq_M → zq_M → Prop} (hok : zq_ok N I) : ∀ (n q j kc kn : Nat) (X M : zq_M) (i : Int32), q + n = 513 → i = nI (6 * q) → 6 * q ≤ L → I q j X M → kc ≤ 1000 + 5 * q → kn ≤ 1000000 + 137 * q → zq_J p e s m below meth c b G kc kn 18 [(0, .ref b), (1, .ref (zq_ad G 0)), (2, .ref (zq_ad G 69)), (3, .int i)] [] (zq_shX j) X zq_shM M (zq_ad G 141) := by
  obtain ⟨hini, hidle, h0, h1, h2, h3, h4, h5, h6, h7, h8, h9, h10, h11, h12, h13, h14, h15, h16, h17, h18, h19, h20, h21, h22, h23, h24, h25, h26, h27, h28, h29, h30, h31, h32, h33⟩ := hok
  intro n
  induction n with
  | zero => intro q j kc kn X M i hn hi hqL; omega
  | succ n ih =>
    intro q j kc kn X M i hn hi hqL hI hkc hkn
    refine zj_iload_n JC (pc := 18) (zq_d eLH 10 rfl) 3 rfl rfl ?_
    refine zj_aload_n JC (pc := 19) (zq_d eLH 11 rfl) 0 rfl rfl ?_
    refine zj_slen JC (pc := 20) (zq_d eLH 12 rfl) ?_
    refine zj_bipush JC (pc := 21) (zq_d eLH 13 rfl) zc_b6 ?_
    refine zj_isub JC (pc := 23) (zq_d eLH 14 rfl) ?_
    refine zj_gt JC (pc := 24) 1314 (zq_d eLH 15 rfl) (by decide) (fun h => ?_) (fun h => ?_)
    · refine zj_iconst JC (pc := 1314) (zq_d eLT 2 rfl) zc_i1 ?_
      exact zj_ret JC (pc := 1315) (zq_d eLT 3 rfl) (by omega) (by omega)
    · have hq6 := zl_gt hqL hL hi h
      have hq5 : q < 512 := by omega
      have w0 : vp_in i L := by rw [hi]; exact vp_in_nI (by omega) (by omega)
      have w1 : vp_in (i + 1) L := zl_in hq6 hL (d := 1) (by omega) hi rfl
      have w2 : vp_in (i + 2) L := zl_in hq6 hL (d := 2) (by omega) hi rfl
      have w3 : vp_in (i + 3) L := zl_in hq6 hL (d := 3) (by omega) hi rfl
      have w4 : vp_in (i + 4) L := zl_in hq6 hL (d := 4) (by omega) hi rfl
      have w5 : vp_in (i + 5) L := zl_in hq6 hL (d := 5) (by omega) hi rfl
      refine zj_aload_n JC (pc := 27) (zq_d eLH 16 rfl) 0 rfl rfl ?_
      refine zj_iload_n JC (pc := 28) (zq_d eLH 17 rfl) 3 rfl rfl ?_
      refine zj_sld JC (pc := 29) (zq_d eLH 18 rfl) w0 ?_
      refine zj_bipush JC (pc := 30) (zq_d eLH 19 rfl) zc_b63 ?_
      refine zj_iand JC (pc := 32) (zq_d eLH 20 rfl) ?_
      have next : ∀ (j1 : Nat) (X1 M1 : zq_M), I (q + 1) j1 X1 M1 → zq_J p e s m below meth c b G (kc + 5) (kn + 137) 1308 [(0, .ref b), (1, .ref (zq_ad G 0)), (2, .ref (zq_ad G 69)), (3, .int i)] [] (zq_shX j1) X1 zq_shM M1 (zq_ad G 141) := by
        intro j1 X1 M1 hI1
        refine zj_iinc JC (pc := 1308) (q := 3) (v := i + 6) (lo2 := [(3, .int (i + 6)), (0, .ref b), (1, .ref (zq_ad G 0)), (2, .ref (zq_ad G 69))]) (zq_d eLT 0 rfl) rfl (by rw [show Int32.ofInt 6 = (6 : Int32) by decide]) (by decide) rfl ?_
        refine zj_goto JC (pc := 1311) 18 (zq_d eLT 1 rfl) (by decide) ?_
        refine zj_lo [1, 2, 3, 0] rfl ?_
        exact ih (q + 1) j1 (kc + 5) (kn + 137) X1 M1 (i + 6) (by omega) (by rw [hi, show (6 : Int32) = nI 6 from rfl, nI_add]; rfl) (by omega) hI1 (by omega) (by omega)
      refine zl_sw (x := xs i.toNatClampNeg &&& 63) (fun k hk hx => ?_) (fun hx => ?_)
      · match k, hk with
        | 0, _ =>
          refine zj_tab JC (pc := 33) (n := 0) 184 (zq_d eLH 21 rfl) hx (by decide) (by decide) rfl (by decide) ?_
          exact zl_case0 JC h0 hq5 hI w1 w2 w3 w4 w5 (by omega) (by omega) next
        | 1, _ =>
          refine zj_tab JC (pc := 33) (n := 1) 227 (zq_d eLH 21 rfl) hx (by decide) (by decide) rfl (by decide) ?_
          exact zl_case1 JC h1 hq5 hI w1 w2 w3 w4 w5 (by omega) (by omega) next
        | 2, _ =>
          refine zj_tab JC (pc := 33) (n := 2) 260 (zq_d eLH 21 rfl) hx (by decide) (by decide) rfl (by decide) ?_
          exact zl_case2 JC h2 hq5 hI w1 w2 w3 w4 w5 (by omega) (by omega) next
        | 3, _ =>
          refine zj_tab JC (pc := 33) (n := 3) 293 (zq_d eLH 21 rfl) hx (by decide) (by decide) rfl (by decide) ?_
          exact zl_case3 JC h3 hq5 hI w1 w2 w3 w4 w5 (by omega) (by omega) next
        | 4, _ =>
          refine zj_tab JC (pc := 33) (n := 4) 336 (zq_d eLH 21 rfl) hx (by decide) (by decide) rfl (by decide) ?_
          exact zl_case4 JC h4 hq5 hI w1 w2 w3 w4 w5 (by omega) (by omega) next
        | 5, _ =>
          refine zj_tab JC (pc := 33) (n := 5) 369 (zq_d eLH 21 rfl) hx (by decide) (by decide) rfl (by decide) ?_
          exact zl_case5 JC h5 hq5 hI w1 w2 w3 w4 w5 (by omega) (by omega) next
        | 6, _ =>
          refine zj_tab JC (pc := 33) (n := 6) 392 (zq_d eLH 21 rfl) hx (by decide) (by decide) rfl (by decide) ?_
          exact zl_case6 JC h6 hq5 hI w1 w2 w3 w4 w5 (by omega) (by omega) next
        | 7, _ =>
          refine zj_tab JC (pc := 33) (n := 7) 405 (zq_d eLH 21 rfl) hx (by decide) (by decide) rfl (by decide) ?_
          exact zl_case7 JC h7 hq5 hI w1 w2 w3 w4 w5 (by omega) (by omega) next
        | 8, _ =>
          refine zj_tab JC (pc := 33) (n := 8) 428 (zq_d eLH 21 rfl) hx (by decide) (by decide) rfl (by decide) ?_
          exact zl_case8 JC h8 hq5 hI w1 w2 w3 w4 w5 (by omega) (by omega) next
        | 9, _ =>
          refine zj_tab JC (pc := 33) (n := 9) 471 (zq_d eLH 21 rfl) hx (by decide) (by decide) rfl (by decide) ?_
          exact zl_case9 JC h9 hq5 hI w1 w2 w3 w4 w5 (by omega) (by omega) next
        | 10, _ =>
          refine zj_tab JC (pc := 33) (n := 10) 504 (zq_d eLH 21 rfl) hx (by decide) (by decide) rfl (by decide) ?_
          exact zl_case10 JC h10 hq5 hI w1 w2 w3 w4 w5 (by omega) (by omega) next
        | 11, _ =>
          refine zj_tab JC (pc := 33) (n := 11) 537 (zq_d eLH 21 rfl) hx (by decide) (by decide) rfl (by decide) ?_
          exact zl_case11 JC h11 hq5 hI w1 w2 w3 w4 w5 (by omega) (by omega) next
        | 12, _ =>
          refine zj_tab JC (pc := 33) (n := 12) 580 (zq_d eLH 21 rfl) hx (by decide) (by decide) rfl (by decide) ?_
          exact zl_case12 JC h12 hq5 hI w1 w2 w3 w4 w5 (by omega) (by omega) next
        | 13, _ =>
          refine zj_tab JC (pc := 33) (n := 13) 623 (zq_d eLH 21 rfl) hx (by decide) (by decide) rfl (by decide) ?_
          exact zl_case13 JC h13 hq5 hI w1 w2 w3 w4 w5 (by omega) (by omega) next
        | 14, _ =>
          refine zj_tab JC (pc := 33) (n := 14) 646 (zq_d eLH 21 rfl) hx (by decide) (by decide) rfl (by decide) ?_
          exact zl_case14 JC h14 hq5 hI w1 w2 w3 w4 w5 (by omega) (by omega) next
        | 15, _ =>
          refine zj_tab JC (pc := 33) (n := 15) 669 (zq_d eLH 21 rfl) hx (by decide) (by decide) rfl (by decide) ?_
          exact zl_case15 JC h15 hq5 hI w1 w2 w3 w4 w5 (by omega) (by omega) next
        | 16, _ =>
          refine zj_tab JC (pc := 33) (n := 16) 712 (zq_d eLH 21 rfl) hx (by decide) (by decide) rfl (by decide) ?_
          exact zl_case16 JC h16 hq5 hI w1 w2 w3 w4 w5 (by omega) (by omega) next
        | 17, _ =>
          refine zj_tab JC (pc := 33) (n := 17) 755 (zq_d eLH 21 rfl) hx (by decide) (by decide) rfl (by decide) ?_
          exact zl_case17 JC h17 hq5 hI w1 w2 w3 w4 w5 (by omega) (by omega) next
        | 18, _ =>
          refine zj_tab JC (pc := 33) (n := 18) 788 (zq_d eLH 21 rfl) hx (by decide) (by decide) rfl (by decide) ?_
          exact zl_case18 JC h18 hq5 hI w1 w2 w3 w4 w5 (by omega) (by omega) next
        | 19, _ =>
          refine zj_tab JC (pc := 33) (n := 19) 821 (zq_d eLH 21 rfl) hx (by decide) (by decide) rfl (by decide) ?_
          exact zl_case19 JC h19 hq5 hI w1 w2 w3 w4 w5 (by omega) (by omega) next
        | 20, _ =>
          refine zj_tab JC (pc := 33) (n := 20) 834 (zq_d eLH 21 rfl) hx (by decide) (by decide) rfl (by decide) ?_
          exact zl_case20 JC h20 hq5 hI w1 w2 w3 w4 w5 (by omega) (by omega) next
        | 21, _ =>
          refine zj_tab JC (pc := 33) (n := 21) 878 (zq_d eLH 21 rfl) hx (by decide) (by decide) rfl (by decide) ?_
          exact zl_case21 JC h21 hq5 hI w1 w2 w3 w4 w5 (by omega) (by omega) next
        | 22, _ =>
          refine zj_tab JC (pc := 33) (n := 22) 901 (zq_d eLH 21 rfl) hx (by decide) (by decide) rfl (by decide) ?_
          exact zl_case22 JC h22 hq5 hI w1 w2 w3 w4 w5 (by omega) (by omega) next
        | 23, _ =>
          refine zj_tab JC (pc := 33) (n := 23) 914 (zq_d eLH 21 rfl) hx (by decide) (by decide) rfl (by decide) ?_
          exact zl_case23 JC h23 hq5 hI w1 w2 w3 w4 w5 (by omega) (by omega) next
        | 24, _ =>
          refine zj_tab JC (pc := 33) (n := 24) 947 (zq_d eLH 21 rfl) hx (by decide) (by decide) rfl (by decide) ?_
          exact zl_case24 JC h24 hq5 hI w1 w2 w3 w4 w5 (by omega) (by omega) next
        | 25, _ =>
          refine zj_tab JC (pc := 33) (n := 25) 960 (zq_d eLH 21 rfl) hx (by decide) (by decide) rfl (by decide) ?_
          exact zl_case25 JC h25 hq5 hI w1 w2 w3 w4 w5 (by omega) (by omega) next
        | 26, _ =>
          refine zj_tab JC (pc := 33) (n := 26) 973 (zq_d eLH 21 rfl) hx (by decide) (by decide) rfl (by decide) ?_
          exact zl_case26 JC h26 hq5 hI w1 w2 w3 w4 w5 (by omega) (by omega) next
        | 27, _ =>
          refine zj_tab JC (pc := 33) (n := 27) 1016 (zq_d eLH 21 rfl) hx (by decide) (by decide) rfl (by decide) ?_
          exact zl_case27 JC h27 hq5 hI w1 w2 w3 w4 w5 (by omega) (by omega) next
        | 28, _ =>
          refine zj_tab JC (pc := 33) (n := 28) 1039 (zq_d eLH 21 rfl) hx (by decide) (by decide) rfl (by decide) ?_
          exact zl_case28 JC h28 hq5 hI w1 w2 w3 w4 w5 (by omega) (by omega) next
        | 29, _ =>
          refine zj_tab JC (pc := 33) (n := 29) 1072 (zq_d eLH 21 rfl) hx (by decide) (by decide) rfl (by decide) ?_
          exact zl_case29 JC h29 hq5 hI w1 w2 w3 w4 w5 (by omega) (by omega) next
        | 30, _ =>
          refine zj_tab JC (pc := 33) (n := 30) 1095 (zq_d eLH 21 rfl) hx (by decide) (by decide) rfl (by decide) ?_
          exact zl_case30 JC h30 hq5 hI w1 w2 w3 w4 w5 (by omega) (by omega) next
        | 31, _ =>
          refine zj_tab JC (pc := 33) (n := 31) 1138 (zq_d eLH 21 rfl) hx (by decide) (by decide) rfl (by decide) ?_
          exact zl_case31 JC h31 hq5 hI w1 w2 w3 w4 w5 (by omega) (by omega) next
        | 32, _ =>
          refine zj_tab JC (pc := 33) (n := 32) 1211 (zq_d eLH 21 rfl) hx (by decide) (by decide) rfl (by decide) ?_
          exact zl_case32 JC h32 hq5 hI w1 w2 w3 w4 w5 (by omega) (by omega) next
        | 33, _ =>
          refine zj_tab JC (pc := 33) (n := 33) 1245 (zq_d eLH 21 rfl) hx (by decide) (by decide) rfl (by decide) ?_
          exact zl_case33 JC h33 hq5 hI w1 w2 w3 w4 w5 (by omega) (by omega) next
          | k + 34, hk => omega
      · refine zj_tabD JC (pc := 33) 1308 (zq_d eLH 21 rfl) hx (by decide) ?_
        exact zj_wid (kc2 := kc + 5) (kn2 := kn + 137) (by omega) (by omega) (next j X M (hidle q j X M hI))
end
