/-- the cells that nobody writes -/
def zM0 (xs : Nat → Int32) : zM := fun i j => if i = 62 then xs j else if i = 69 then 0 else nI ((if i = 63 then [20, 20, 30, 0, 10, 30, 20, 40, 20, 20, 60, 9] else if i = 64 then [2, 3, 1, 3, 2, 2, 2, 2, 1, 1, 3, 1] else if i = 65 then [1, 10, 0, 3, 1, 1, 0, 0, 0, 0, 0, 0, 1, 1, 0, 1, 0, 0, 0, 0, 0, 0, 0, 0, 1, 0, 0, 0, 0, 0, 0, 0, 1, 0, 0, 0] else if i = 66 then [30, 60, 0, 40, 60, 99, 40, 0, 0, 40, 99, 99, 99, 99, 0, 99, 10, 0, 23, 9, 0, 99, 99, 0, 99, 0, 0, 60, 0, 0, 6, 6, 60, 6, 0, 0] else if i = 67 then [1, 2, 4] else if i = 68 then [1, 2, 5] else [115, 112, 98, 107, 97, 104, 110, 113, 109, 116, 101, 105] : List Nat).getD j 0)
theorem zM0_ro (xs : Nat → Int32) : zRo (zM0 xs) := ⟨fun j _ => rfl, fun j _ => rfl, fun j _ => rfl, fun j _ => rfl, ⟨rfl, rfl, rfl⟩, ⟨rfl, rfl, rfl⟩, rfl, fun j _ => rfl⟩
set_option maxHeartbeats 16000000 in
set_option maxRecDepth 100000 in
theorem z_begin {s : State} {b L : Nat} {xs : Nat → Int32} (hts : ∀ w ∈ lw_tbl, w.before #[Value.ref b] s = true) (hX : va_X b L xs s s.heap) (hbl : b < s.heap.size) (hgv : (Jvm.Cond.and given_1 narrow_1).before #[Value.ref b] s = true) :
    ∃ (ad : Nat → Nat) (D : va_G) (cA : FieldType → ClassId), ad 62 = b ∧ zG (L + 1) ad D cA (fun q : Nat => s.heap.size ≤ q) (zM0 xs) s := by
  have hs := flat_of_before _ hgv
  have hz : ∀ w ∈ zgood, w.before #[Value.ref b] s = true := fun w h => hts w (List.mem_filter.mp h).1
  have hA : ∀ a : Nat, a < s.heap.size → ¬ (fun q : Nat => s.heap.size ≤ q) a := fun a h => Nat.not_le.mpr h
  have el63 : ∀ j : Nat, j < 12 → (Term.elem (.static "PramAndSteps$Town" "WITHOUT" "[I") (.int (Int32.ofNat j))).eval #[Value.ref b] s none [] s = some (.int (nI (([20, 20, 30, 0, 10, 30, 20, 40, 20, 20, 60, 9] : List Nat).getD j 0))) := fun j hj => by
    match j, hj with
    | 0, _ => exact va_eqt (hs (Cond.eq (.elem (.static "PramAndSteps$Town" "WITHOUT" "[I") (.int (Int32.ofNat 0))) (.int (nI 20))) (List.mem_of_getElem? (i := 7) rfl))
    | 1, _ => exact va_eqt (hs (Cond.eq (.elem (.static "PramAndSteps$Town" "WITHOUT" "[I") (.int (Int32.ofNat 1))) (.int (nI 20))) (List.mem_of_getElem? (i := 8) rfl))
    | 2, _ => exact va_eqt (hs (Cond.eq (.elem (.static "PramAndSteps$Town" "WITHOUT" "[I") (.int (Int32.ofNat 2))) (.int (nI 30))) (List.mem_of_getElem? (i := 9) rfl))
    | 3, _ => exact va_eqt (hs (Cond.eq (.elem (.static "PramAndSteps$Town" "WITHOUT" "[I") (.int (Int32.ofNat 3))) (.int (nI 0))) (List.mem_of_getElem? (i := 10) rfl))
    | 4, _ => exact va_eqt (hs (Cond.eq (.elem (.static "PramAndSteps$Town" "WITHOUT" "[I") (.int (Int32.ofNat 4))) (.int (nI 10))) (List.mem_of_getElem? (i := 11) rfl))
    | 5, _ => exact va_eqt (hs (Cond.eq (.elem (.static "PramAndSteps$Town" "WITHOUT" "[I") (.int (Int32.ofNat 5))) (.int (nI 30))) (List.mem_of_getElem? (i := 12) rfl))
    | 6, _ => exact va_eqt (hs (Cond.eq (.elem (.static "PramAndSteps$Town" "WITHOUT" "[I") (.int (Int32.ofNat 6))) (.int (nI 20))) (List.mem_of_getElem? (i := 13) rfl))
    | 7, _ => exact va_eqt (hs (Cond.eq (.elem (.static "PramAndSteps$Town" "WITHOUT" "[I") (.int (Int32.ofNat 7))) (.int (nI 40))) (List.mem_of_getElem? (i := 14) rfl))
    | 8, _ => exact va_eqt (hs (Cond.eq (.elem (.static "PramAndSteps$Town" "WITHOUT" "[I") (.int (Int32.ofNat 8))) (.int (nI 20))) (List.mem_of_getElem? (i := 15) rfl))
    | 9, _ => exact va_eqt (hs (Cond.eq (.elem (.static "PramAndSteps$Town" "WITHOUT" "[I") (.int (Int32.ofNat 9))) (.int (nI 20))) (List.mem_of_getElem? (i := 16) rfl))
    | 10, _ => exact va_eqt (hs (Cond.eq (.elem (.static "PramAndSteps$Town" "WITHOUT" "[I") (.int (Int32.ofNat 10))) (.int (nI 60))) (List.mem_of_getElem? (i := 17) rfl))
    | 11, _ => exact va_eqt (hs (Cond.eq (.elem (.static "PramAndSteps$Town" "WITHOUT" "[I") (.int (Int32.ofNat 11))) (.int (nI 9))) (List.mem_of_getElem? (i := 18) rfl))
    | j + 12, hj => exact absurd hj (by omega)
  obtain ⟨t63, e63, T63⟩ := va_Tof (ty := .int) (A := fun q : Nat => s.heap.size ≤ q) (by decide) (hs (Cond.arrayOf (.static "PramAndSteps$Town" "WITHOUT" "[I") .int) (List.mem_of_getElem? (i := 5) rfl)) (va_eqt (hs (Cond.eq (.length (.static "PramAndSteps$Town" "WITHOUT" "[I")) (.int (Int32.ofNat 12))) (List.mem_of_getElem? (i := 6) rfl))) el63 hA
  have el64 : ∀ j : Nat, j < 12 → (Term.elem (.static "PramAndSteps$Reader" "NUMBERS" "[I") (.int (Int32.ofNat j))).eval #[Value.ref b] s none [] s = some (.int (nI (([2, 3, 1, 3, 2, 2, 2, 2, 1, 1, 3, 1] : List Nat).getD j 0))) := fun j hj => by
    match j, hj with
    | 0, _ => exact va_eqt (hs (Cond.eq (.elem (.static "PramAndSteps$Reader" "NUMBERS" "[I") (.int (Int32.ofNat 0))) (.int (nI 2))) (List.mem_of_getElem? (i := 27) rfl))
    | 1, _ => exact va_eqt (hs (Cond.eq (.elem (.static "PramAndSteps$Reader" "NUMBERS" "[I") (.int (Int32.ofNat 1))) (.int (nI 3))) (List.mem_of_getElem? (i := 28) rfl))
    | 2, _ => exact va_eqt (hs (Cond.eq (.elem (.static "PramAndSteps$Reader" "NUMBERS" "[I") (.int (Int32.ofNat 2))) (.int (nI 1))) (List.mem_of_getElem? (i := 29) rfl))
    | 3, _ => exact va_eqt (hs (Cond.eq (.elem (.static "PramAndSteps$Reader" "NUMBERS" "[I") (.int (Int32.ofNat 3))) (.int (nI 3))) (List.mem_of_getElem? (i := 30) rfl))
    | 4, _ => exact va_eqt (hs (Cond.eq (.elem (.static "PramAndSteps$Reader" "NUMBERS" "[I") (.int (Int32.ofNat 4))) (.int (nI 2))) (List.mem_of_getElem? (i := 31) rfl))
    | 5, _ => exact va_eqt (hs (Cond.eq (.elem (.static "PramAndSteps$Reader" "NUMBERS" "[I") (.int (Int32.ofNat 5))) (.int (nI 2))) (List.mem_of_getElem? (i := 32) rfl))
    | 6, _ => exact va_eqt (hs (Cond.eq (.elem (.static "PramAndSteps$Reader" "NUMBERS" "[I") (.int (Int32.ofNat 6))) (.int (nI 2))) (List.mem_of_getElem? (i := 33) rfl))
    | 7, _ => exact va_eqt (hs (Cond.eq (.elem (.static "PramAndSteps$Reader" "NUMBERS" "[I") (.int (Int32.ofNat 7))) (.int (nI 2))) (List.mem_of_getElem? (i := 34) rfl))
    | 8, _ => exact va_eqt (hs (Cond.eq (.elem (.static "PramAndSteps$Reader" "NUMBERS" "[I") (.int (Int32.ofNat 8))) (.int (nI 1))) (List.mem_of_getElem? (i := 35) rfl))
    | 9, _ => exact va_eqt (hs (Cond.eq (.elem (.static "PramAndSteps$Reader" "NUMBERS" "[I") (.int (Int32.ofNat 9))) (.int (nI 1))) (List.mem_of_getElem? (i := 36) rfl))
    | 10, _ => exact va_eqt (hs (Cond.eq (.elem (.static "PramAndSteps$Reader" "NUMBERS" "[I") (.int (Int32.ofNat 10))) (.int (nI 3))) (List.mem_of_getElem? (i := 37) rfl))
    | 11, _ => exact va_eqt (hs (Cond.eq (.elem (.static "PramAndSteps$Reader" "NUMBERS" "[I") (.int (Int32.ofNat 11))) (.int (nI 1))) (List.mem_of_getElem? (i := 38) rfl))
    | j + 12, hj => exact absurd hj (by omega)
  obtain ⟨t64, e64, T64⟩ := va_Tof (ty := .int) (A := fun q : Nat => s.heap.size ≤ q) (by decide) (hs (Cond.arrayOf (.static "PramAndSteps$Reader" "NUMBERS" "[I") .int) (List.mem_of_getElem? (i := 25) rfl)) (va_eqt (hs (Cond.eq (.length (.static "PramAndSteps$Reader" "NUMBERS" "[I")) (.int (Int32.ofNat 12))) (List.mem_of_getElem? (i := 26) rfl))) el64 hA
  have el65 : ∀ j : Nat, j < 36 → (Term.elem (.static "PramAndSteps$Reader" "LOWEST" "[I") (.int (Int32.ofNat j))).eval #[Value.ref b] s none [] s = some (.int (nI (([1, 10, 0, 3, 1, 1, 0, 0, 0, 0, 0, 0, 1, 1, 0, 1, 0, 0, 0, 0, 0, 0, 0, 0, 1, 0, 0, 0, 0, 0, 0, 0, 1, 0, 0, 0] : List Nat).getD j 0))) := fun j hj => by
    match j, hj with
    | 0, _ => exact va_eqt (hs (Cond.eq (.elem (.static "PramAndSteps$Reader" "LOWEST" "[I") (.int (Int32.ofNat 0))) (.int (nI 1))) (List.mem_of_getElem? (i := 42) rfl))
    | 1, _ => exact va_eqt (hs (Cond.eq (.elem (.static "PramAndSteps$Reader" "LOWEST" "[I") (.int (Int32.ofNat 1))) (.int (nI 10))) (List.mem_of_getElem? (i := 43) rfl))
    | 2, _ => exact va_eqt (hs (Cond.eq (.elem (.static "PramAndSteps$Reader" "LOWEST" "[I") (.int (Int32.ofNat 2))) (.int (nI 0))) (List.mem_of_getElem? (i := 44) rfl))
    | 3, _ => exact va_eqt (hs (Cond.eq (.elem (.static "PramAndSteps$Reader" "LOWEST" "[I") (.int (Int32.ofNat 3))) (.int (nI 3))) (List.mem_of_getElem? (i := 45) rfl))
    | 4, _ => exact va_eqt (hs (Cond.eq (.elem (.static "PramAndSteps$Reader" "LOWEST" "[I") (.int (Int32.ofNat 4))) (.int (nI 1))) (List.mem_of_getElem? (i := 46) rfl))
    | 5, _ => exact va_eqt (hs (Cond.eq (.elem (.static "PramAndSteps$Reader" "LOWEST" "[I") (.int (Int32.ofNat 5))) (.int (nI 1))) (List.mem_of_getElem? (i := 47) rfl))
    | 6, _ => exact va_eqt (hs (Cond.eq (.elem (.static "PramAndSteps$Reader" "LOWEST" "[I") (.int (Int32.ofNat 6))) (.int (nI 0))) (List.mem_of_getElem? (i := 48) rfl))
    | 7, _ => exact va_eqt (hs (Cond.eq (.elem (.static "PramAndSteps$Reader" "LOWEST" "[I") (.int (Int32.ofNat 7))) (.int (nI 0))) (List.mem_of_getElem? (i := 49) rfl))
    | 8, _ => exact va_eqt (hs (Cond.eq (.elem (.static "PramAndSteps$Reader" "LOWEST" "[I") (.int (Int32.ofNat 8))) (.int (nI 0))) (List.mem_of_getElem? (i := 50) rfl))
    | 9, _ => exact va_eqt (hs (Cond.eq (.elem (.static "PramAndSteps$Reader" "LOWEST" "[I") (.int (Int32.ofNat 9))) (.int (nI 0))) (List.mem_of_getElem? (i := 51) rfl))
    | 10, _ => exact va_eqt (hs (Cond.eq (.elem (.static "PramAndSteps$Reader" "LOWEST" "[I") (.int (Int32.ofNat 10))) (.int (nI 0))) (List.mem_of_getElem? (i := 52) rfl))
    | 11, _ => exact va_eqt (hs (Cond.eq (.elem (.static "PramAndSteps$Reader" "LOWEST" "[I") (.int (Int32.ofNat 11))) (.int (nI 0))) (List.mem_of_getElem? (i := 53) rfl))
    | 12, _ => exact va_eqt (hs (Cond.eq (.elem (.static "PramAndSteps$Reader" "LOWEST" "[I") (.int (Int32.ofNat 12))) (.int (nI 1))) (List.mem_of_getElem? (i := 54) rfl))
    | 13, _ => exact va_eqt (hs (Cond.eq (.elem (.static "PramAndSteps$Reader" "LOWEST" "[I") (.int (Int32.ofNat 13))) (.int (nI 1))) (List.mem_of_getElem? (i := 55) rfl))
    | 14, _ => exact va_eqt (hs (Cond.eq (.elem (.static "PramAndSteps$Reader" "LOWEST" "[I") (.int (Int32.ofNat 14))) (.int (nI 0))) (List.mem_of_getElem? (i := 56) rfl))
    | 15, _ => exact va_eqt (hs (Cond.eq (.elem (.static "PramAndSteps$Reader" "LOWEST" "[I") (.int (Int32.ofNat 15))) (.int (nI 1))) (List.mem_of_getElem? (i := 57) rfl))
    | 16, _ => exact va_eqt (hs (Cond.eq (.elem (.static "PramAndSteps$Reader" "LOWEST" "[I") (.int (Int32.ofNat 16))) (.int (nI 0))) (List.mem_of_getElem? (i := 58) rfl))
    | 17, _ => exact va_eqt (hs (Cond.eq (.elem (.static "PramAndSteps$Reader" "LOWEST" "[I") (.int (Int32.ofNat 17))) (.int (nI 0))) (List.mem_of_getElem? (i := 59) rfl))
    | 18, _ => exact va_eqt (hs (Cond.eq (.elem (.static "PramAndSteps$Reader" "LOWEST" "[I") (.int (Int32.ofNat 18))) (.int (nI 0))) (List.mem_of_getElem? (i := 60) rfl))
    | 19, _ => exact va_eqt (hs (Cond.eq (.elem (.static "PramAndSteps$Reader" "LOWEST" "[I") (.int (Int32.ofNat 19))) (.int (nI 0))) (List.mem_of_getElem? (i := 61) rfl))
    | 20, _ => exact va_eqt (hs (Cond.eq (.elem (.static "PramAndSteps$Reader" "LOWEST" "[I") (.int (Int32.ofNat 20))) (.int (nI 0))) (List.mem_of_getElem? (i := 62) rfl))
    | 21, _ => exact va_eqt (hs (Cond.eq (.elem (.static "PramAndSteps$Reader" "LOWEST" "[I") (.int (Int32.ofNat 21))) (.int (nI 0))) (List.mem_of_getElem? (i := 63) rfl))
    | 22, _ => exact va_eqt (hs (Cond.eq (.elem (.static "PramAndSteps$Reader" "LOWEST" "[I") (.int (Int32.ofNat 22))) (.int (nI 0))) (List.mem_of_getElem? (i := 64) rfl))
    | 23, _ => exact va_eqt (hs (Cond.eq (.elem (.static "PramAndSteps$Reader" "LOWEST" "[I") (.int (Int32.ofNat 23))) (.int (nI 0))) (List.mem_of_getElem? (i := 65) rfl))
    | 24, _ => exact va_eqt (hs (Cond.eq (.elem (.static "PramAndSteps$Reader" "LOWEST" "[I") (.int (Int32.ofNat 24))) (.int (nI 1))) (List.mem_of_getElem? (i := 66) rfl))
    | 25, _ => exact va_eqt (hs (Cond.eq (.elem (.static "PramAndSteps$Reader" "LOWEST" "[I") (.int (Int32.ofNat 25))) (.int (nI 0))) (List.mem_of_getElem? (i := 67) rfl))
    | 26, _ => exact va_eqt (hs (Cond.eq (.elem (.static "PramAndSteps$Reader" "LOWEST" "[I") (.int (Int32.ofNat 26))) (.int (nI 0))) (List.mem_of_getElem? (i := 68) rfl))
    | 27, _ => exact va_eqt (hs (Cond.eq (.elem (.static "PramAndSteps$Reader" "LOWEST" "[I") (.int (Int32.ofNat 27))) (.int (nI 0))) (List.mem_of_getElem? (i := 69) rfl))
    | 28, _ => exact va_eqt (hs (Cond.eq (.elem (.static "PramAndSteps$Reader" "LOWEST" "[I") (.int (Int32.ofNat 28))) (.int (nI 0))) (List.mem_of_getElem? (i := 70) rfl))
    | 29, _ => exact va_eqt (hs (Cond.eq (.elem (.static "PramAndSteps$Reader" "LOWEST" "[I") (.int (Int32.ofNat 29))) (.int (nI 0))) (List.mem_of_getElem? (i := 71) rfl))
    | 30, _ => exact va_eqt (hs (Cond.eq (.elem (.static "PramAndSteps$Reader" "LOWEST" "[I") (.int (Int32.ofNat 30))) (.int (nI 0))) (List.mem_of_getElem? (i := 72) rfl))
    | 31, _ => exact va_eqt (hs (Cond.eq (.elem (.static "PramAndSteps$Reader" "LOWEST" "[I") (.int (Int32.ofNat 31))) (.int (nI 0))) (List.mem_of_getElem? (i := 73) rfl))
    | 32, _ => exact va_eqt (hs (Cond.eq (.elem (.static "PramAndSteps$Reader" "LOWEST" "[I") (.int (Int32.ofNat 32))) (.int (nI 1))) (List.mem_of_getElem? (i := 74) rfl))
    | 33, _ => exact va_eqt (hs (Cond.eq (.elem (.static "PramAndSteps$Reader" "LOWEST" "[I") (.int (Int32.ofNat 33))) (.int (nI 0))) (List.mem_of_getElem? (i := 75) rfl))
    | 34, _ => exact va_eqt (hs (Cond.eq (.elem (.static "PramAndSteps$Reader" "LOWEST" "[I") (.int (Int32.ofNat 34))) (.int (nI 0))) (List.mem_of_getElem? (i := 76) rfl))
    | 35, _ => exact va_eqt (hs (Cond.eq (.elem (.static "PramAndSteps$Reader" "LOWEST" "[I") (.int (Int32.ofNat 35))) (.int (nI 0))) (List.mem_of_getElem? (i := 77) rfl))
    | j + 36, hj => exact absurd hj (by omega)
  obtain ⟨t65, e65, T65⟩ := va_Tof (ty := .int) (A := fun q : Nat => s.heap.size ≤ q) (by decide) (hs (Cond.arrayOf (.static "PramAndSteps$Reader" "LOWEST" "[I") .int) (List.mem_of_getElem? (i := 40) rfl)) (va_eqt (hs (Cond.eq (.length (.static "PramAndSteps$Reader" "LOWEST" "[I")) (.int (Int32.ofNat 36))) (List.mem_of_getElem? (i := 41) rfl))) el65 hA
  have el66 : ∀ j : Nat, j < 36 → (Term.elem (.static "PramAndSteps$Reader" "HIGHEST" "[I") (.int (Int32.ofNat j))).eval #[Value.ref b] s none [] s = some (.int (nI (([30, 60, 0, 40, 60, 99, 40, 0, 0, 40, 99, 99, 99, 99, 0, 99, 10, 0, 23, 9, 0, 99, 99, 0, 99, 0, 0, 60, 0, 0, 6, 6, 60, 6, 0, 0] : List Nat).getD j 0))) := fun j hj => by
    match j, hj with
    | 0, _ => exact va_eqt (hs (Cond.eq (.elem (.static "PramAndSteps$Reader" "HIGHEST" "[I") (.int (Int32.ofNat 0))) (.int (nI 30))) (List.mem_of_getElem? (i := 81) rfl))
    | 1, _ => exact va_eqt (hs (Cond.eq (.elem (.static "PramAndSteps$Reader" "HIGHEST" "[I") (.int (Int32.ofNat 1))) (.int (nI 60))) (List.mem_of_getElem? (i := 82) rfl))
    | 2, _ => exact va_eqt (hs (Cond.eq (.elem (.static "PramAndSteps$Reader" "HIGHEST" "[I") (.int (Int32.ofNat 2))) (.int (nI 0))) (List.mem_of_getElem? (i := 83) rfl))
    | 3, _ => exact va_eqt (hs (Cond.eq (.elem (.static "PramAndSteps$Reader" "HIGHEST" "[I") (.int (Int32.ofNat 3))) (.int (nI 40))) (List.mem_of_getElem? (i := 84) rfl))
    | 4, _ => exact va_eqt (hs (Cond.eq (.elem (.static "PramAndSteps$Reader" "HIGHEST" "[I") (.int (Int32.ofNat 4))) (.int (nI 60))) (List.mem_of_getElem? (i := 85) rfl))
    | 5, _ => exact va_eqt (hs (Cond.eq (.elem (.static "PramAndSteps$Reader" "HIGHEST" "[I") (.int (Int32.ofNat 5))) (.int (nI 99))) (List.mem_of_getElem? (i := 86) rfl))
    | 6, _ => exact va_eqt (hs (Cond.eq (.elem (.static "PramAndSteps$Reader" "HIGHEST" "[I") (.int (Int32.ofNat 6))) (.int (nI 40))) (List.mem_of_getElem? (i := 87) rfl))
    | 7, _ => exact va_eqt (hs (Cond.eq (.elem (.static "PramAndSteps$Reader" "HIGHEST" "[I") (.int (Int32.ofNat 7))) (.int (nI 0))) (List.mem_of_getElem? (i := 88) rfl))
    | 8, _ => exact va_eqt (hs (Cond.eq (.elem (.static "PramAndSteps$Reader" "HIGHEST" "[I") (.int (Int32.ofNat 8))) (.int (nI 0))) (List.mem_of_getElem? (i := 89) rfl))
    | 9, _ => exact va_eqt (hs (Cond.eq (.elem (.static "PramAndSteps$Reader" "HIGHEST" "[I") (.int (Int32.ofNat 9))) (.int (nI 40))) (List.mem_of_getElem? (i := 90) rfl))
    | 10, _ => exact va_eqt (hs (Cond.eq (.elem (.static "PramAndSteps$Reader" "HIGHEST" "[I") (.int (Int32.ofNat 10))) (.int (nI 99))) (List.mem_of_getElem? (i := 91) rfl))
    | 11, _ => exact va_eqt (hs (Cond.eq (.elem (.static "PramAndSteps$Reader" "HIGHEST" "[I") (.int (Int32.ofNat 11))) (.int (nI 99))) (List.mem_of_getElem? (i := 92) rfl))
    | 12, _ => exact va_eqt (hs (Cond.eq (.elem (.static "PramAndSteps$Reader" "HIGHEST" "[I") (.int (Int32.ofNat 12))) (.int (nI 99))) (List.mem_of_getElem? (i := 93) rfl))
    | 13, _ => exact va_eqt (hs (Cond.eq (.elem (.static "PramAndSteps$Reader" "HIGHEST" "[I") (.int (Int32.ofNat 13))) (.int (nI 99))) (List.mem_of_getElem? (i := 94) rfl))
    | 14, _ => exact va_eqt (hs (Cond.eq (.elem (.static "PramAndSteps$Reader" "HIGHEST" "[I") (.int (Int32.ofNat 14))) (.int (nI 0))) (List.mem_of_getElem? (i := 95) rfl))
    | 15, _ => exact va_eqt (hs (Cond.eq (.elem (.static "PramAndSteps$Reader" "HIGHEST" "[I") (.int (Int32.ofNat 15))) (.int (nI 99))) (List.mem_of_getElem? (i := 96) rfl))
    | 16, _ => exact va_eqt (hs (Cond.eq (.elem (.static "PramAndSteps$Reader" "HIGHEST" "[I") (.int (Int32.ofNat 16))) (.int (nI 10))) (List.mem_of_getElem? (i := 97) rfl))
    | 17, _ => exact va_eqt (hs (Cond.eq (.elem (.static "PramAndSteps$Reader" "HIGHEST" "[I") (.int (Int32.ofNat 17))) (.int (nI 0))) (List.mem_of_getElem? (i := 98) rfl))
    | 18, _ => exact va_eqt (hs (Cond.eq (.elem (.static "PramAndSteps$Reader" "HIGHEST" "[I") (.int (Int32.ofNat 18))) (.int (nI 23))) (List.mem_of_getElem? (i := 99) rfl))
    | 19, _ => exact va_eqt (hs (Cond.eq (.elem (.static "PramAndSteps$Reader" "HIGHEST" "[I") (.int (Int32.ofNat 19))) (.int (nI 9))) (List.mem_of_getElem? (i := 100) rfl))
    | 20, _ => exact va_eqt (hs (Cond.eq (.elem (.static "PramAndSteps$Reader" "HIGHEST" "[I") (.int (Int32.ofNat 20))) (.int (nI 0))) (List.mem_of_getElem? (i := 101) rfl))
    | 21, _ => exact va_eqt (hs (Cond.eq (.elem (.static "PramAndSteps$Reader" "HIGHEST" "[I") (.int (Int32.ofNat 21))) (.int (nI 99))) (List.mem_of_getElem? (i := 102) rfl))
    | 22, _ => exact va_eqt (hs (Cond.eq (.elem (.static "PramAndSteps$Reader" "HIGHEST" "[I") (.int (Int32.ofNat 22))) (.int (nI 99))) (List.mem_of_getElem? (i := 103) rfl))
    | 23, _ => exact va_eqt (hs (Cond.eq (.elem (.static "PramAndSteps$Reader" "HIGHEST" "[I") (.int (Int32.ofNat 23))) (.int (nI 0))) (List.mem_of_getElem? (i := 104) rfl))
    | 24, _ => exact va_eqt (hs (Cond.eq (.elem (.static "PramAndSteps$Reader" "HIGHEST" "[I") (.int (Int32.ofNat 24))) (.int (nI 99))) (List.mem_of_getElem? (i := 105) rfl))
    | 25, _ => exact va_eqt (hs (Cond.eq (.elem (.static "PramAndSteps$Reader" "HIGHEST" "[I") (.int (Int32.ofNat 25))) (.int (nI 0))) (List.mem_of_getElem? (i := 106) rfl))
    | 26, _ => exact va_eqt (hs (Cond.eq (.elem (.static "PramAndSteps$Reader" "HIGHEST" "[I") (.int (Int32.ofNat 26))) (.int (nI 0))) (List.mem_of_getElem? (i := 107) rfl))
    | 27, _ => exact va_eqt (hs (Cond.eq (.elem (.static "PramAndSteps$Reader" "HIGHEST" "[I") (.int (Int32.ofNat 27))) (.int (nI 60))) (List.mem_of_getElem? (i := 108) rfl))
    | 28, _ => exact va_eqt (hs (Cond.eq (.elem (.static "PramAndSteps$Reader" "HIGHEST" "[I") (.int (Int32.ofNat 28))) (.int (nI 0))) (List.mem_of_getElem? (i := 109) rfl))
    | 29, _ => exact va_eqt (hs (Cond.eq (.elem (.static "PramAndSteps$Reader" "HIGHEST" "[I") (.int (Int32.ofNat 29))) (.int (nI 0))) (List.mem_of_getElem? (i := 110) rfl))
    | 30, _ => exact va_eqt (hs (Cond.eq (.elem (.static "PramAndSteps$Reader" "HIGHEST" "[I") (.int (Int32.ofNat 30))) (.int (nI 6))) (List.mem_of_getElem? (i := 111) rfl))
    | 31, _ => exact va_eqt (hs (Cond.eq (.elem (.static "PramAndSteps$Reader" "HIGHEST" "[I") (.int (Int32.ofNat 31))) (.int (nI 6))) (List.mem_of_getElem? (i := 112) rfl))
    | 32, _ => exact va_eqt (hs (Cond.eq (.elem (.static "PramAndSteps$Reader" "HIGHEST" "[I") (.int (Int32.ofNat 32))) (.int (nI 60))) (List.mem_of_getElem? (i := 113) rfl))
    | 33, _ => exact va_eqt (hs (Cond.eq (.elem (.static "PramAndSteps$Reader" "HIGHEST" "[I") (.int (Int32.ofNat 33))) (.int (nI 6))) (List.mem_of_getElem? (i := 114) rfl))
    | 34, _ => exact va_eqt (hs (Cond.eq (.elem (.static "PramAndSteps$Reader" "HIGHEST" "[I") (.int (Int32.ofNat 34))) (.int (nI 0))) (List.mem_of_getElem? (i := 115) rfl))
    | 35, _ => exact va_eqt (hs (Cond.eq (.elem (.static "PramAndSteps$Reader" "HIGHEST" "[I") (.int (Int32.ofNat 35))) (.int (nI 0))) (List.mem_of_getElem? (i := 116) rfl))
    | j + 36, hj => exact absurd hj (by omega)
  obtain ⟨t66, e66, T66⟩ := va_Tof (ty := .int) (A := fun q : Nat => s.heap.size ≤ q) (by decide) (hs (Cond.arrayOf (.static "PramAndSteps$Reader" "HIGHEST" "[I") .int) (List.mem_of_getElem? (i := 79) rfl)) (va_eqt (hs (Cond.eq (.length (.static "PramAndSteps$Reader" "HIGHEST" "[I")) (.int (Int32.ofNat 36))) (List.mem_of_getElem? (i := 80) rfl))) el66 hA
  have el67 : ∀ j : Nat, j < 3 → (Term.elem (.static "PramAndSteps$Stair" "FORCE_PARTS" "[I") (.int (Int32.ofNat j))).eval #[Value.ref b] s none [] s = some (.int (nI (([1, 2, 4] : List Nat).getD j 0))) := fun j hj => by
    match j, hj with
    | 0, _ => exact va_eqt (hs (Cond.eq (.elem (.static "PramAndSteps$Stair" "FORCE_PARTS" "[I") (.int (Int32.ofNat 0))) (.int (nI 1))) (List.mem_of_getElem? (i := 120) rfl))
    | 1, _ => exact va_eqt (hs (Cond.eq (.elem (.static "PramAndSteps$Stair" "FORCE_PARTS" "[I") (.int (Int32.ofNat 1))) (.int (nI 2))) (List.mem_of_getElem? (i := 121) rfl))
    | 2, _ => exact va_eqt (hs (Cond.eq (.elem (.static "PramAndSteps$Stair" "FORCE_PARTS" "[I") (.int (Int32.ofNat 2))) (.int (nI 4))) (List.mem_of_getElem? (i := 122) rfl))
    | j + 3, hj => exact absurd hj (by omega)
  obtain ⟨t67, e67, T67⟩ := va_Tof (ty := .int) (A := fun q : Nat => s.heap.size ≤ q) (by decide) (hs (Cond.arrayOf (.static "PramAndSteps$Stair" "FORCE_PARTS" "[I") .int) (List.mem_of_getElem? (i := 118) rfl)) (va_eqt (hs (Cond.eq (.length (.static "PramAndSteps$Stair" "FORCE_PARTS" "[I")) (.int (Int32.ofNat 3))) (List.mem_of_getElem? (i := 119) rfl))) el67 hA
  have el68 : ∀ j : Nat, j < 3 → (Term.elem (.static "PramAndSteps$Stair" "MANNER_BEATS" "[I") (.int (Int32.ofNat j))).eval #[Value.ref b] s none [] s = some (.int (nI (([1, 2, 5] : List Nat).getD j 0))) := fun j hj => by
    match j, hj with
    | 0, _ => exact va_eqt (hs (Cond.eq (.elem (.static "PramAndSteps$Stair" "MANNER_BEATS" "[I") (.int (Int32.ofNat 0))) (.int (nI 1))) (List.mem_of_getElem? (i := 126) rfl))
    | 1, _ => exact va_eqt (hs (Cond.eq (.elem (.static "PramAndSteps$Stair" "MANNER_BEATS" "[I") (.int (Int32.ofNat 1))) (.int (nI 2))) (List.mem_of_getElem? (i := 127) rfl))
    | 2, _ => exact va_eqt (hs (Cond.eq (.elem (.static "PramAndSteps$Stair" "MANNER_BEATS" "[I") (.int (Int32.ofNat 2))) (.int (nI 5))) (List.mem_of_getElem? (i := 128) rfl))
    | j + 3, hj => exact absurd hj (by omega)
  obtain ⟨t68, e68, T68⟩ := va_Tof (ty := .int) (A := fun q : Nat => s.heap.size ≤ q) (by decide) (hs (Cond.arrayOf (.static "PramAndSteps$Stair" "MANNER_BEATS" "[I") .int) (List.mem_of_getElem? (i := 124) rfl)) (va_eqt (hs (Cond.eq (.length (.static "PramAndSteps$Stair" "MANNER_BEATS" "[I")) (.int (Int32.ofNat 3))) (List.mem_of_getElem? (i := 125) rfl))) el68 hA
  have el70 : ∀ j : Nat, j < 12 → (Term.elem (.field (.string "PramAndSteps$Reader" 36) "java/lang/String" "value" "[B") (.int (Int32.ofNat j))).eval #[Value.ref b] s none [] s = some (.int (nI (([115, 112, 98, 107, 97, 104, 110, 113, 109, 116, 101, 105] : List Nat).getD j 0))) := fun j hj => by
    match j, hj with
    | 0, _ => exact va_eqt (hs (Cond.eq (.elem (.field (.string "PramAndSteps$Reader" 36) "java/lang/String" "value" "[B") (.int (Int32.ofNat 0))) (.int (nI 115))) (List.mem_of_getElem? (i := 133) rfl))
    | 1, _ => exact va_eqt (hs (Cond.eq (.elem (.field (.string "PramAndSteps$Reader" 36) "java/lang/String" "value" "[B") (.int (Int32.ofNat 1))) (.int (nI 112))) (List.mem_of_getElem? (i := 134) rfl))
    | 2, _ => exact va_eqt (hs (Cond.eq (.elem (.field (.string "PramAndSteps$Reader" 36) "java/lang/String" "value" "[B") (.int (Int32.ofNat 2))) (.int (nI 98))) (List.mem_of_getElem? (i := 135) rfl))
    | 3, _ => exact va_eqt (hs (Cond.eq (.elem (.field (.string "PramAndSteps$Reader" 36) "java/lang/String" "value" "[B") (.int (Int32.ofNat 3))) (.int (nI 107))) (List.mem_of_getElem? (i := 136) rfl))
    | 4, _ => exact va_eqt (hs (Cond.eq (.elem (.field (.string "PramAndSteps$Reader" 36) "java/lang/String" "value" "[B") (.int (Int32.ofNat 4))) (.int (nI 97))) (List.mem_of_getElem? (i := 137) rfl))
    | 5, _ => exact va_eqt (hs (Cond.eq (.elem (.field (.string "PramAndSteps$Reader" 36) "java/lang/String" "value" "[B") (.int (Int32.ofNat 5))) (.int (nI 104))) (List.mem_of_getElem? (i := 138) rfl))
    | 6, _ => exact va_eqt (hs (Cond.eq (.elem (.field (.string "PramAndSteps$Reader" 36) "java/lang/String" "value" "[B") (.int (Int32.ofNat 6))) (.int (nI 110))) (List.mem_of_getElem? (i := 139) rfl))
    | 7, _ => exact va_eqt (hs (Cond.eq (.elem (.field (.string "PramAndSteps$Reader" 36) "java/lang/String" "value" "[B") (.int (Int32.ofNat 7))) (.int (nI 113))) (List.mem_of_getElem? (i := 140) rfl))
    | 8, _ => exact va_eqt (hs (Cond.eq (.elem (.field (.string "PramAndSteps$Reader" 36) "java/lang/String" "value" "[B") (.int (Int32.ofNat 8))) (.int (nI 109))) (List.mem_of_getElem? (i := 141) rfl))
    | 9, _ => exact va_eqt (hs (Cond.eq (.elem (.field (.string "PramAndSteps$Reader" 36) "java/lang/String" "value" "[B") (.int (Int32.ofNat 9))) (.int (nI 116))) (List.mem_of_getElem? (i := 142) rfl))
    | 10, _ => exact va_eqt (hs (Cond.eq (.elem (.field (.string "PramAndSteps$Reader" 36) "java/lang/String" "value" "[B") (.int (Int32.ofNat 10))) (.int (nI 101))) (List.mem_of_getElem? (i := 143) rfl))
    | 11, _ => exact va_eqt (hs (Cond.eq (.elem (.field (.string "PramAndSteps$Reader" 36) "java/lang/String" "value" "[B") (.int (Int32.ofNat 11))) (.int (nI 105))) (List.mem_of_getElem? (i := 144) rfl))
    | j + 12, hj => exact absurd hj (by omega)
  obtain ⟨t70, e70, T70⟩ := va_Tof (ty := .byte) (A := fun q : Nat => s.heap.size ≤ q) (by decide) (hs (Cond.arrayOf (.field (.string "PramAndSteps$Reader" 36) "java/lang/String" "value" "[B") .byte) (List.mem_of_getElem? (i := 131) rfl)) (va_eqt (hs (Cond.eq (.length (.field (.string "PramAndSteps$Reader" 36) "java/lang/String" "value" "[B")) (.int (Int32.ofNat 12))) (List.mem_of_getElem? (i := 132) rfl))) el70 hA
  obtain ⟨a69, c9, cell9, k9, q1, q2, q3, q4, q5, q6, -⟩ := Cond.exactly_spec (args := #[Value.ref b]) (first := s) (o := none) (s := s) (idx := []) (t := (.string "PramAndSteps$Reader" 36)) (cls := "java/lang/String") (hs (Cond.exactly (.string "PramAndSteps$Reader" 36) "java/lang/String") (List.mem_of_getElem? (i := 129) rfl))
  have hcod := vk_OFof (A := fun q : Nat => s.heap.size ≤ q) q1 (va_eqt (hs (Cond.eq (.field (.string "PramAndSteps$Reader" 36) "java/lang/String" "coder" "B") (.int 0)) (List.mem_of_getElem? (i := 130) rfl))) hA
  have hval := vk_OFof (A := fun q : Nat => s.heap.size ≤ q) q1 e70 hA
  obtain ⟨c0, i0, k100⟩ := u_known (C := RX0) (T := TX0) (N := 2) (n := 2) hz zi_0 (hz (.instantiable RX0 2) (zw1 198 rfl rfl))
  obtain ⟨c1, i1, k101⟩ := u_known (C := RX1) (T := TX1) (N := 4) (n := 4) hz zi_1 (hz (.instantiable RX1 4) (zw1 224 rfl rfl))
  obtain ⟨c2, i2, k102⟩ := u_known (C := RX2) (T := TX2) (N := 2) (n := 2) hz zi_2 (hz (.instantiable RX2 2) (zw1 211 rfl rfl))
  obtain ⟨c3, i3, k103⟩ := u_known (C := RX3) (T := TX3) (N := 3) (n := 3) hz zi_3 (hz (.instantiable RX3 3) (zw1 112 rfl rfl))
  obtain ⟨c4, i4, k104⟩ := u_known (C := RX4) (T := TX4) (N := 3) (n := 3) hz zi_4 (hz (.instantiable RX4 3) (zw1 172 rfl rfl))
  obtain ⟨c5, i5, k105⟩ := u_known (C := RX5) (T := TX5) (N := 3) (n := 3) hz zi_5 (hz (.instantiable RX5 3) (zw1 130 rfl rfl))
  obtain ⟨c6, i6, k106⟩ := u_known (C := RX6) (T := TX6) (N := 15) (n := 15) hz zi_6 (hz (.instantiable RX6 15) (zw1 29 rfl rfl))
  obtain ⟨c7, i7, k107⟩ := u_known (C := RX7) (T := TX7) (N := 1) (n := 1) hz zi_7 (hz (.instantiable RX7 1) (zw1 188 rfl rfl))
  obtain ⟨c8, i8, k108⟩ := u_known (C := RX8) (T := TX8) (N := 5) (n := 5) hz zi_8 (hz (.instantiable RX8 5) (zw1 150 rfl rfl))
  obtain ⟨c9, i9, k109⟩ := u_known (C := RX9) (T := TX9) (N := 16) (n := 16) hz zi_9 (hz (.instantiable RX9 16) (zw1 21 rfl rfl))
  obtain ⟨c10, i10, k110⟩ := u_known (C := RX10) (T := TX10) (N := 18) (n := 18) hz zi_10 (hz (.instantiable RX10 18) (zw5 18 rfl rfl))
  obtain ⟨cI, kI, compI, fI, mI, dI⟩ := Cond.arrayClass_spec (hz (.arrayClass .int) (zw1 110 rfl rfl))
  obtain ⟨cC, kC, compC, fC, mC, dC⟩ := Cond.arrayClass_spec (hz (.arrayClass .char) (zw1 128 rfl rfl))
  have hZ : ∀ (C n d : String) (v : Value), (Cond.laysStatic C n d).before #[Value.ref b] s = true → (Cond.initialized C).before #[Value.ref b] s = true → (Term.static C n d).eval #[Value.ref b] s none [] s = some v → va_Z C n d v (fun q : Nat => s.heap.size ≤ q) s s.heap := fun C n d v h1 h2 h3 => va_Zof h1 h2 h3 hA
  refine ⟨fun i => if i = 62 then b else if i = 63 then t63 else if i = 64 then t64 else if i = 65 then t65 else if i = 66 then t66 else if i = 67 then t67 else if i = 68 then t68 else if i = 69 then a69 else t70, (fun k => ([c0, c1, c2, c3, c4, c5, c6, c7, c8, c9, c10] : List ClassId).getD k c0, fun k => ([i0, i1, i2, i3, i4, i5, i6, i7, i8, i9, i10] : List (Nat → Nat)).getD k i0), fun t => if t = .int then cI else cC, rfl, ⟨?_, ?_⟩, ?_, ?_, ?_, ?_, ?_, ?_, ?_⟩
  · intro k q hq
    match k, hq with
    | 0, hq => cases hq; exact k100
    | 1, hq => cases hq; exact k101
    | 2, hq => cases hq; exact k102
    | 3, hq => cases hq; exact k103
    | 4, hq => cases hq; exact k104
    | 5, hq => cases hq; exact k105
    | 6, hq => cases hq; exact k106
    | 7, hq => cases hq; exact k107
    | 8, hq => cases hq; exact k108
    | 9, hq => cases hq; exact k109
    | 10, hq => cases hq; exact k110
    | k + 11, hq => simp [vwCl] at hq
  · intro k q hq
    match k, hq with
    | 0, hq => cases hq; exact ⟨fun n z => ⟨fun k h => (by cases h), kI, mI, compI, dI⟩, fI⟩
    | 1, hq => cases hq; exact ⟨fun n z => ⟨fun k h => (by cases h), kC, mC, compC, dC⟩, fC⟩
    | k + 2, hq => simp at hq
  · intro w hw
    have h1 := (List.mem_filter.mp hw).1
    have h2 := (List.mem_filter.mp hw).2
    refine va_Nw.of ?_ (hts w h1)
    cases w <;> first | (simp [znw] at h2; done) | rfl
  · intro q hq
    simp only [zstat, List.mem_cons, List.not_mem_nil, or_false] at hq
    rcases hq with rfl | rfl | rfl | rfl | rfl | rfl | rfl
    · exact hZ "PramAndSteps$Town" "WITHOUT" "[I" (.ref t63) (hts (.laysStatic "PramAndSteps$Town" "WITHOUT" "[I") (zt2 (znth_mem (i := 14) rfl))) (hts (.initialized "PramAndSteps$Town") (zt1 (znth_mem (i := 2) rfl))) e63
    · exact hZ "PramAndSteps$Reader" "NUMBERS" "[I" (.ref t64) (hts (.laysStatic "PramAndSteps$Reader" "NUMBERS" "[I") (zt2 (znth_mem (i := 214) rfl))) (hts (.initialized "PramAndSteps$Reader") (zt1 (znth_mem (i := 3) rfl))) e64
    · exact hZ "PramAndSteps$Reader" "LOWEST" "[I" (.ref t65) (hts (.laysStatic "PramAndSteps$Reader" "LOWEST" "[I") (zt2 (znth_mem (i := 230) rfl))) (hts (.initialized "PramAndSteps$Reader") (zt1 (znth_mem (i := 3) rfl))) e65
    · exact hZ "PramAndSteps$Reader" "HIGHEST" "[I" (.ref t66) (hts (.laysStatic "PramAndSteps$Reader" "HIGHEST" "[I") (zt2 (znth_mem (i := 232) rfl))) (hts (.initialized "PramAndSteps$Reader") (zt1 (znth_mem (i := 3) rfl))) e66
    · exact hZ "PramAndSteps$Stair" "FORCE_PARTS" "[I" (.ref t67) (hts (.laysStatic "PramAndSteps$Stair" "FORCE_PARTS" "[I") (zt3 (znth_mem (i := 73) rfl))) (hts (.initialized "PramAndSteps$Stair") (zt1 (znth_mem (i := 4) rfl))) e67
    · exact hZ "PramAndSteps$Stair" "MANNER_BEATS" "[I" (.ref t68) (hts (.laysStatic "PramAndSteps$Stair" "MANNER_BEATS" "[I") (zt3 (znth_mem (i := 90) rfl))) (hts (.initialized "PramAndSteps$Stair") (zt1 (znth_mem (i := 4) rfl))) e68
    · exact hZ "java/lang/String" "COMPACT_STRINGS" "Z" (.int 1) (hts (.laysStatic "java/lang/String" "COMPACT_STRINGS" "Z") (zt2 (znth_mem (i := 142) rfl))) (hts (.initialized "java/lang/String") (zt1 (znth_mem (i := 14) rfl))) (va_eqt (hs (Cond.eq (.static "java/lang/String" "COMPACT_STRINGS" "Z") (.int 1)) (List.mem_of_getElem? (i := 19) rfl)))
  · intro i ty n hi hz9
    have h62 : 62 ≤ i := hi
    obtain ⟨d, rfl⟩ : ∃ d, i = 62 + d := ⟨i - 62, by omega⟩
    rw [znth_eq, zsh_eq, List.getElem?_append_right (show zshA.length ≤ 62 + d from h62), show zshA.length = 62 from rfl, Nat.add_sub_cancel_left] at hz9
    match d, hz9 with
    | 0, hz9 =>
      cases hz9
      obtain ⟨scr, x1, x2, x3, x4, x5⟩ := hX
      exact ⟨scr, x1, x2, x3, Nat.le_of_eq x4.symm, by rw [x4], x5, hA b hbl⟩
    | 1, hz9 => cases hz9; exact T63
    | 2, hz9 => cases hz9; exact T64
    | 3, hz9 => cases hz9; exact T65
    | 4, hz9 => cases hz9; exact T66
    | 5, hz9 => cases hz9; exact T67
    | 6, hz9 => cases hz9; exact T68
    | 7, hz9 => cases hz9
    | 8, hz9 => cases hz9; exact T70
    | d + 9, hz9 => simp [zshB] at hz9
  · exact ⟨cell9, q3, q5, by rw [q6]; exact q2, hA a69 (Array.getElem?_eq_some_iff.mp q3).1⟩
  · exact hval
  · exact hcod
  · exact vk_R.of (hts (.stringRef "PramAndSteps$Reader" 36 "spbkahnqmtei") (zt2 (znth_mem (i := 128) rfl))) q1
