def zgood : List Cond := lw_tbl.filter goodWord
def znw : Cond → Bool
  | .fieldLinkNest .. => true
  | .methodLinkNest .. => true
  | _ => false
def znest : List Cond := lw_tbl.filter znw
def zon (cn : Nat) : String := (znth zown cn).getD ""
theorem znth_mem {α : Type} {l : List α} {i : Nat} {w : α} (h : znth l i = some w) : w ∈ l := List.mem_of_getElem? (i := i) (by rw [← znth_eq]; exact h)
theorem zg_of {w : Cond} (h : w ∈ lw_tbl) (g : goodWord w = true) : w ∈ zgood := List.mem_filter.mpr ⟨h, g⟩
theorem zn_of {w : Cond} (h : w ∈ lw_tbl) (g : znw w = true) : w ∈ znest := List.mem_filter.mpr ⟨h, g⟩
theorem zt0 {w : Cond} (h : w ∈ k2_sels lw_privs) : w ∈ lw_tbl := List.mem_append_left _ h
theorem zt1 {w : Cond} (h : w ∈ tables_1_1) : w ∈ lw_tbl := List.mem_append_right _ (List.mem_append_left _ h)
theorem zt2 {w : Cond} (h : w ∈ tables_1_2) : w ∈ lw_tbl := List.mem_append_right _ (List.mem_append_right _ (List.mem_append_left _ h))
theorem zt3 {w : Cond} (h : w ∈ tables_1_3) : w ∈ lw_tbl := List.mem_append_right _ (List.mem_append_right _ (List.mem_append_right _ (List.mem_append_left _ h)))
theorem zt4 {w : Cond} (h : w ∈ tables_1_4) : w ∈ lw_tbl := List.mem_append_right _ (List.mem_append_right _ (List.mem_append_right _ (List.mem_append_right _ (List.mem_append_left _ h))))
theorem zt5 {w : Cond} (h : w ∈ tables_1_5) : w ∈ lw_tbl := List.mem_append_right _ (List.mem_append_right _ (List.mem_append_right _ (List.mem_append_right _ (List.mem_append_right _ (List.mem_append_left _ h)))))
theorem zt6 {w : Cond} (h : w ∈ tables_1_6) : w ∈ lw_tbl := List.mem_append_right _ (List.mem_append_right _ (List.mem_append_right _ (List.mem_append_right _ (List.mem_append_right _ (List.mem_append_right _ h)))))
theorem zw0 {w : Cond} (i : Nat) (h : znth (k2_sels lw_privs) i = some w) (g : goodWord w = true) : w ∈ zgood := zg_of (zt0 (znth_mem h)) g
theorem zn0 {w : Cond} (i : Nat) (h : znth (k2_sels lw_privs) i = some w) (g : znw w = true) : w ∈ znest := zn_of (zt0 (znth_mem h)) g
theorem zw1 {w : Cond} (i : Nat) (h : znth tables_1_1 i = some w) (g : goodWord w = true) : w ∈ zgood := zg_of (zt1 (znth_mem h)) g
theorem zn1 {w : Cond} (i : Nat) (h : znth tables_1_1 i = some w) (g : znw w = true) : w ∈ znest := zn_of (zt1 (znth_mem h)) g
theorem zw2 {w : Cond} (i : Nat) (h : znth tables_1_2 i = some w) (g : goodWord w = true) : w ∈ zgood := zg_of (zt2 (znth_mem h)) g
theorem zn2 {w : Cond} (i : Nat) (h : znth tables_1_2 i = some w) (g : znw w = true) : w ∈ znest := zn_of (zt2 (znth_mem h)) g
theorem zw3 {w : Cond} (i : Nat) (h : znth tables_1_3 i = some w) (g : goodWord w = true) : w ∈ zgood := zg_of (zt3 (znth_mem h)) g
theorem zn3 {w : Cond} (i : Nat) (h : znth tables_1_3 i = some w) (g : znw w = true) : w ∈ znest := zn_of (zt3 (znth_mem h)) g
theorem zw4 {w : Cond} (i : Nat) (h : znth tables_1_4 i = some w) (g : goodWord w = true) : w ∈ zgood := zg_of (zt4 (znth_mem h)) g
theorem zn4 {w : Cond} (i : Nat) (h : znth tables_1_4 i = some w) (g : znw w = true) : w ∈ znest := zn_of (zt4 (znth_mem h)) g
theorem zw5 {w : Cond} (i : Nat) (h : znth tables_1_5 i = some w) (g : goodWord w = true) : w ∈ zgood := zg_of (zt5 (znth_mem h)) g
theorem zn5 {w : Cond} (i : Nat) (h : znth tables_1_5 i = some w) (g : znw w = true) : w ∈ znest := zn_of (zt5 (znth_mem h)) g
theorem zw6 {w : Cond} (i : Nat) (h : znth tables_1_6 i = some w) (g : goodWord w = true) : w ∈ zgood := zg_of (zt6 (znth_mem h)) g
theorem zn6 {w : Cond} (i : Nat) (h : znth tables_1_6 i = some w) (g : znw w = true) : w ∈ znest := zn_of (zt6 (znth_mem h)) g
def zrkOf (r : Option FieldType) : Nat := match r with
  | none => 0
  | some .long => 2
  | some _ => 1
def zHost : String := "PramAndSteps"
def zMok (st : Bool) (q : zMe) : Prop := q.2.1.cls = zon q.1 ∧ plainFor q.2.1 = true ∧ (q.2.1.cls ≠ "java/lang/invoke/MethodHandle" ∧ q.2.1.cls ≠ "java/lang/invoke/VarHandle") ∧ (parseMethodDescriptor q.2.1.desc).map (fun d => d.parameters.length) = some (if st then q.2.2.2.2.2.1 else q.2.2.2.2.2.1 - 1) ∧ Cond.initialized q.2.1.cls ∈ zgood ∧ Cond.code q.2.1 q.2.2.1 q.2.2.2.1 q.2.2.2.2.1 ∈ zgood ∧ (if st then Cond.static q.2.1 ∈ zgood else Cond.instanceMethod q.2.1 ∈ zgood ∧ Cond.selects q.2.1.cls q.2.1 q.2.1 ∈ zgood ∧ 1 ≤ q.2.2.2.2.2.1 ∧ (q.1 = 11 ∨ (q.1 < 11 ∧ (vwCl[q.1]?.map (fun z => z.1)) = some q.2.1.cls)))
def zcpOk (cn : Nat) (q : zCp) : Prop :=
  match q with
  | (i, 0, _, [ci, k]) => ∃ C T N, vwCl[ci]? = some (C, T, N) ∧ k < N ∧ Cond.fieldLink (zon cn) i (T k).1 (T k).2.1 (T k).2.2.1 ∈ zgood
  | (i, 1, _, [ci, k]) => ∃ C T N, vwCl[ci]? = some (C, T, N) ∧ k < N ∧ Cond.fieldLinkNest (zon cn) i (T k).1 (T k).2.1 (T k).2.2.1 zHost ∈ znest
  | (i, 2, v, [j]) => ∃ C n d, zstat[j]? = some (C, n, d, v) ∧ Cond.fieldLink (zon cn) i C n d ∈ zgood
  | (i, 3, v, [j]) => ∃ C n d, zstat[j]? = some (C, n, d, v) ∧ Cond.fieldLinkNest (zon cn) i C n d zHost ∈ znest
  | (i, 4, v, []) => ∃ x, v = .int x ∧ Cond.constant (zon cn) i x ∈ zgood
  | (i, 5, v, []) => ∃ x, v = .long x ∧ Cond.constantLong (zon cn) i x ∈ zgood
  | (i, 6, v, []) => v = .ref 69 ∧ zon cn = "PramAndSteps$Reader" ∧ i = 36
  | (i, 7, _, [mi, np, mx, rk, rc]) => ∃ c' y b' r' fr lo, zmeth[mi]? = some (c', y, b', mx, r', np, fr, lo) ∧ zMok false (c', y, b', mx, r', np, fr, lo) ∧ rk = zrkOf r' ∧ rc = c' + 1 ∧ Cond.methodLink (zon cn) i y ∈ zgood
  | (i, 8, _, [mi, np, mx, rk, rc]) => ∃ c' y b' r' fr lo, zmeth[mi]? = some (c', y, b', mx, r', np, fr, lo) ∧ zMok true (c', y, b', mx, r', np, fr, lo) ∧ rk = zrkOf r' ∧ rc = 0 ∧ Cond.methodLink (zon cn) i y ∈ zgood
  | (i, 9, _, [mi, np, mx, rk, rc]) => ∃ c' y b' r' fr lo, zmeth[mi]? = some (c', y, b', mx, r', np, fr, lo) ∧ zMok true (c', y, b', mx, r', np, fr, lo) ∧ rk = zrkOf r' ∧ rc = 0 ∧ Cond.methodLinkNest (zon cn) i y zHost ∈ znest
  | (i, 10, _, [ci, k]) => ci = 11 ∧ ((k = 0 ∧ Cond.fieldLink (zon cn) i "java/lang/String" "value" "[B" ∈ zgood) ∨ (k = 1 ∧ Cond.fieldLink (zon cn) i "java/lang/String" "coder" "B" ∈ zgood))
  | _ => False
theorem zplain_of {y : MethodName} (h : plainName y.cls = true) : plainFor y = true := plainFor_of_name h
theorem zpn_0 : plainName (zon 0) = true := by decide +kernel
theorem zpn_1 : plainName (zon 1) = true := by decide +kernel
theorem zpn_2 : plainName (zon 2) = true := by decide +kernel
theorem zpn_3 : plainName (zon 3) = true := by decide +kernel
theorem zpn_4 : plainName (zon 4) = true := by decide +kernel
theorem zpn_5 : plainName (zon 5) = true := by decide +kernel
theorem zpn_6 : plainName (zon 6) = true := by decide +kernel
theorem zpn_7 : plainName (zon 7) = true := by decide +kernel
theorem zpn_8 : plainName (zon 8) = true := by decide +kernel
theorem zpn_9 : plainName (zon 9) = true := by decide +kernel
theorem zpn_10 : plainName (zon 10) = true := by decide +kernel
theorem zds_0 : (parseMethodDescriptor "()B").map (fun d => d.parameters.length) = some 0 := by decide +kernel
theorem zds_1 : (parseMethodDescriptor "()I").map (fun d => d.parameters.length) = some 0 := by decide +kernel
theorem zds_2 : (parseMethodDescriptor "()V").map (fun d => d.parameters.length) = some 0 := by decide +kernel
theorem zds_3 : (parseMethodDescriptor "()Z").map (fun d => d.parameters.length) = some 0 := by decide +kernel
theorem zds_4 : (parseMethodDescriptor "(C)I").map (fun d => d.parameters.length) = some 1 := by decide +kernel
theorem zds_5 : (parseMethodDescriptor "(C)Z").map (fun d => d.parameters.length) = some 1 := by decide +kernel
theorem zds_6 : (parseMethodDescriptor "(C[I)Z").map (fun d => d.parameters.length) = some 2 := by decide +kernel
theorem zds_7 : (parseMethodDescriptor "(I)C").map (fun d => d.parameters.length) = some 1 := by decide +kernel
theorem zds_8 : (parseMethodDescriptor "(I)I").map (fun d => d.parameters.length) = some 1 := by decide +kernel
theorem zds_9 : (parseMethodDescriptor "(I)V").map (fun d => d.parameters.length) = some 1 := by decide +kernel
theorem zds_10 : (parseMethodDescriptor "(I)Z").map (fun d => d.parameters.length) = some 1 := by decide +kernel
theorem zds_11 : (parseMethodDescriptor "(II)I").map (fun d => d.parameters.length) = some 2 := by decide +kernel
theorem zds_12 : (parseMethodDescriptor "(II)J").map (fun d => d.parameters.length) = some 2 := by decide +kernel
theorem zds_13 : (parseMethodDescriptor "(II)Z").map (fun d => d.parameters.length) = some 2 := by decide +kernel
theorem zds_14 : (parseMethodDescriptor "(III)I").map (fun d => d.parameters.length) = some 3 := by decide +kernel
theorem zds_15 : (parseMethodDescriptor "(III)V").map (fun d => d.parameters.length) = some 3 := by decide +kernel
theorem zds_16 : (parseMethodDescriptor "(III)Z").map (fun d => d.parameters.length) = some 3 := by decide +kernel
theorem zds_17 : (parseMethodDescriptor "(IIII)V").map (fun d => d.parameters.length) = some 4 := by decide +kernel
theorem zds_18 : (parseMethodDescriptor "(IIIIZ)I").map (fun d => d.parameters.length) = some 5 := by decide +kernel
theorem zds_19 : (parseMethodDescriptor "(IIIIZI)I").map (fun d => d.parameters.length) = some 6 := by decide +kernel
theorem zds_20 : (parseMethodDescriptor "(IIIZ)V").map (fun d => d.parameters.length) = some 4 := by decide +kernel
theorem zds_21 : (parseMethodDescriptor "(IIIZI)I").map (fun d => d.parameters.length) = some 5 := by decide +kernel
theorem zds_22 : (parseMethodDescriptor "(IIZ)I").map (fun d => d.parameters.length) = some 3 := by decide +kernel
theorem zds_23 : (parseMethodDescriptor "(IIZ)V").map (fun d => d.parameters.length) = some 3 := by decide +kernel
theorem zds_24 : (parseMethodDescriptor "(IIZI)I").map (fun d => d.parameters.length) = some 4 := by decide +kernel
theorem zds_25 : (parseMethodDescriptor "(ILPramAndSteps$Town;)I").map (fun d => d.parameters.length) = some 2 := by decide +kernel
theorem zds_26 : (parseMethodDescriptor "(IZ)I").map (fun d => d.parameters.length) = some 2 := by decide +kernel
theorem zds_27 : (parseMethodDescriptor "(IZ)V").map (fun d => d.parameters.length) = some 2 := by decide +kernel
theorem zds_28 : (parseMethodDescriptor "(IZI)I").map (fun d => d.parameters.length) = some 3 := by decide +kernel
theorem zds_29 : (parseMethodDescriptor "(I[II)Z").map (fun d => d.parameters.length) = some 3 := by decide +kernel
theorem zds_30 : (parseMethodDescriptor "(JJJ)Z").map (fun d => d.parameters.length) = some 3 := by decide +kernel
theorem zds_31 : (parseMethodDescriptor "(LPramAndSteps$Town;)I").map (fun d => d.parameters.length) = some 1 := by decide +kernel
theorem zds_32 : (parseMethodDescriptor "(Z)I").map (fun d => d.parameters.length) = some 1 := by decide +kernel
theorem zds_33 : (parseMethodDescriptor "(Z)V").map (fun d => d.parameters.length) = some 1 := by decide +kernel
theorem zds_34 : (parseMethodDescriptor "(ZI)Z").map (fun d => d.parameters.length) = some 2 := by decide +kernel
theorem zds_35 : (parseMethodDescriptor "([BIII)I").map (fun d => d.parameters.length) = some 4 := by decide +kernel
theorem zds_36 : (parseMethodDescriptor "([I)V").map (fun d => d.parameters.length) = some 1 := by decide +kernel
theorem zds_37 : (parseMethodDescriptor "([I)Z").map (fun d => d.parameters.length) = some 1 := by decide +kernel
theorem zds_38 : (parseMethodDescriptor "([II)I").map (fun d => d.parameters.length) = some 2 := by decide +kernel
theorem zds_39 : (parseMethodDescriptor "([II)V").map (fun d => d.parameters.length) = some 2 := by decide +kernel
theorem zds_40 : (parseMethodDescriptor "([II)Z").map (fun d => d.parameters.length) = some 2 := by decide +kernel
theorem zds_41 : (parseMethodDescriptor "([III)V").map (fun d => d.parameters.length) = some 3 := by decide +kernel
theorem zds_42 : (parseMethodDescriptor "([II[II)V").map (fun d => d.parameters.length) = some 4 := by decide +kernel
theorem zds_43 : (parseMethodDescriptor "([I[I)V").map (fun d => d.parameters.length) = some 2 := by decide +kernel
theorem znm_0 : zon 0 ≠ "java/lang/invoke/MethodHandle" ∧ zon 0 ≠ "java/lang/invoke/VarHandle" := by decide +kernel
theorem znm_1 : zon 1 ≠ "java/lang/invoke/MethodHandle" ∧ zon 1 ≠ "java/lang/invoke/VarHandle" := by decide +kernel
theorem znm_2 : zon 2 ≠ "java/lang/invoke/MethodHandle" ∧ zon 2 ≠ "java/lang/invoke/VarHandle" := by decide +kernel
theorem znm_3 : zon 3 ≠ "java/lang/invoke/MethodHandle" ∧ zon 3 ≠ "java/lang/invoke/VarHandle" := by decide +kernel
theorem znm_4 : zon 4 ≠ "java/lang/invoke/MethodHandle" ∧ zon 4 ≠ "java/lang/invoke/VarHandle" := by decide +kernel
theorem znm_5 : zon 5 ≠ "java/lang/invoke/MethodHandle" ∧ zon 5 ≠ "java/lang/invoke/VarHandle" := by decide +kernel
theorem znm_6 : zon 6 ≠ "java/lang/invoke/MethodHandle" ∧ zon 6 ≠ "java/lang/invoke/VarHandle" := by decide +kernel
theorem znm_7 : zon 7 ≠ "java/lang/invoke/MethodHandle" ∧ zon 7 ≠ "java/lang/invoke/VarHandle" := by decide +kernel
theorem znm_8 : zon 8 ≠ "java/lang/invoke/MethodHandle" ∧ zon 8 ≠ "java/lang/invoke/VarHandle" := by decide +kernel
theorem znm_9 : zon 9 ≠ "java/lang/invoke/MethodHandle" ∧ zon 9 ≠ "java/lang/invoke/VarHandle" := by decide +kernel
theorem znm_10 : zon 10 ≠ "java/lang/invoke/MethodHandle" ∧ zon 10 ≠ "java/lang/invoke/VarHandle" := by decide +kernel
theorem znm_11 : zon 11 ≠ "java/lang/invoke/MethodHandle" ∧ zon 11 ≠ "java/lang/invoke/VarHandle" := by decide +kernel
theorem znm_12 : zon 12 ≠ "java/lang/invoke/MethodHandle" ∧ zon 12 ≠ "java/lang/invoke/VarHandle" := by decide +kernel
theorem znm_13 : zon 13 ≠ "java/lang/invoke/MethodHandle" ∧ zon 13 ≠ "java/lang/invoke/VarHandle" := by decide +kernel
theorem znm_14 : zon 14 ≠ "java/lang/invoke/MethodHandle" ∧ zon 14 ≠ "java/lang/invoke/VarHandle" := by decide +kernel
theorem znm_15 : zon 15 ≠ "java/lang/invoke/MethodHandle" ∧ zon 15 ≠ "java/lang/invoke/VarHandle" := by decide +kernel
theorem znm_16 : zon 16 ≠ "java/lang/invoke/MethodHandle" ∧ zon 16 ≠ "java/lang/invoke/VarHandle" := by decide +kernel
theorem zmo_0 : zMok false zm_0 := ⟨rfl, zplain_of zpn_6, znm_6, zds_8, zw1 2 rfl rfl, zw2 34 rfl rfl, ⟨zw2 32 rfl rfl, zw2 33 rfl rfl, by decide, Or.inr ⟨by decide, rfl⟩⟩⟩
theorem zmo_1 : zMok false zm_1 := ⟨rfl, zplain_of zpn_0, znm_0, zds_8, zw1 8 rfl rfl, zw4 84 rfl rfl, ⟨zw4 83 rfl rfl, zw0 31 rfl rfl, by decide, Or.inr ⟨by decide, rfl⟩⟩⟩
theorem zmo_2 : zMok false zm_2 := ⟨rfl, zplain_of zpn_0, znm_0, zds_26, zw1 8 rfl rfl, zw4 80 rfl rfl, ⟨zw4 78 rfl rfl, zw4 79 rfl rfl, by decide, Or.inr ⟨by decide, rfl⟩⟩⟩
theorem zmo_3 : zMok false zm_3 := ⟨rfl, zplain_of zpn_0, znm_0, zds_1, zw1 8 rfl rfl, zw4 93 rfl rfl, ⟨zw4 91 rfl rfl, zw4 92 rfl rfl, by decide, Or.inr ⟨by decide, rfl⟩⟩⟩
theorem zmo_4 : zMok true zm_4 := ⟨rfl, zplain_of zpn_9, znm_9, zds_38, zw1 1 rfl rfl, zw2 217 rfl rfl, zw2 216 rfl rfl⟩
theorem zmo_5 : zMok true zm_5 := ⟨rfl, zplain_of zpn_9, znm_9, zds_41, zw1 1 rfl rfl, zw2 24 rfl rfl, zw2 23 rfl rfl⟩
theorem zmo_6 : zMok false zm_6 := ⟨rfl, zplain_of zpn_0, znm_0, zds_33, zw1 8 rfl rfl, zw4 105 rfl rfl, ⟨zw4 103 rfl rfl, zw4 104 rfl rfl, by decide, Or.inr ⟨by decide, rfl⟩⟩⟩
theorem zmo_7 : zMok false zm_7 := ⟨rfl, zplain_of zpn_0, znm_0, zds_11, zw1 8 rfl rfl, zw4 112 rfl rfl, ⟨zw4 111 rfl rfl, zw0 32 rfl rfl, by decide, Or.inr ⟨by decide, rfl⟩⟩⟩
theorem zmo_8 : zMok false zm_8 := ⟨rfl, zplain_of zpn_0, znm_0, zds_22, zw1 8 rfl rfl, zw4 101 rfl rfl, ⟨zw4 99 rfl rfl, zw4 100 rfl rfl, by decide, Or.inr ⟨by decide, rfl⟩⟩⟩
theorem zmo_9 : zMok false zm_9 := ⟨rfl, zplain_of zpn_0, znm_0, zds_32, zw1 8 rfl rfl, zw4 120 rfl rfl, ⟨zw4 118 rfl rfl, zw4 119 rfl rfl, by decide, Or.inr ⟨by decide, rfl⟩⟩⟩
theorem zmo_10 : zMok false zm_10 := ⟨rfl, zplain_of zpn_0, znm_0, zds_22, zw1 8 rfl rfl, zw4 128 rfl rfl, ⟨zw4 126 rfl rfl, zw4 127 rfl rfl, by decide, Or.inr ⟨by decide, rfl⟩⟩⟩
theorem zmo_11 : zMok true zm_11 := ⟨rfl, zplain_of zpn_0, znm_0, zds_11, zw1 8 rfl rfl, zw4 236 rfl rfl, zw4 235 rfl rfl⟩
theorem zmo_12 : zMok false zm_12 := ⟨rfl, zplain_of zpn_0, znm_0, zds_14, zw1 8 rfl rfl, zw4 233 rfl rfl, ⟨zw4 231 rfl rfl, zw4 232 rfl rfl, by decide, Or.inr ⟨by decide, rfl⟩⟩⟩
theorem zmo_13 : zMok true zm_13 := ⟨rfl, by decide +kernel, znm_13, zds_11, zw1 11 rfl rfl, zw1 231 rfl rfl, zw1 230 rfl rfl⟩
theorem zmo_14 : zMok false zm_14 := ⟨rfl, zplain_of zpn_1, znm_1, zds_2, zw1 10 rfl rfl, zw2 42 rfl rfl, ⟨zw2 40 rfl rfl, zw2 41 rfl rfl, by decide, Or.inr ⟨by decide, rfl⟩⟩⟩
theorem zmo_15 : zMok false zm_15 := ⟨rfl, zplain_of zpn_1, znm_1, zds_2, zw1 10 rfl rfl, zw3 136 rfl rfl, ⟨zw3 135 rfl rfl, zw0 16 rfl rfl, by decide, Or.inr ⟨by decide, rfl⟩⟩⟩
theorem zmo_16 : zMok false zm_16 := ⟨rfl, zplain_of zpn_1, znm_1, zds_36, zw1 10 rfl rfl, zw3 132 rfl rfl, ⟨zw3 130 rfl rfl, zw3 131 rfl rfl, by decide, Or.inr ⟨by decide, rfl⟩⟩⟩
theorem zmo_17 : zMok false zm_17 := ⟨rfl, zplain_of zpn_1, znm_1, zds_37, zw1 10 rfl rfl, zw3 150 rfl rfl, ⟨zw3 148 rfl rfl, zw3 149 rfl rfl, by decide, Or.inr ⟨by decide, rfl⟩⟩⟩
theorem zmo_18 : zMok true zm_18 := ⟨rfl, zplain_of zpn_2, znm_2, zds_13, zw1 9 rfl rfl, zw3 58 rfl rfl, zw3 57 rfl rfl⟩
theorem zmo_19 : zMok true zm_19 := ⟨rfl, by decide +kernel, znm_14, zds_39, zw1 12 rfl rfl, zw2 12 rfl rfl, zw2 11 rfl rfl⟩
theorem zmo_20 : zMok false zm_20 := ⟨rfl, zplain_of zpn_2, znm_2, zds_11, zw1 9 rfl rfl, zw4 159 rfl rfl, ⟨zw4 157 rfl rfl, zw4 158 rfl rfl, by decide, Or.inr ⟨by decide, rfl⟩⟩⟩
theorem zmo_21 : zMok false zm_21 := ⟨rfl, zplain_of zpn_2, znm_2, zds_15, zw1 9 rfl rfl, zw4 155 rfl rfl, ⟨zw4 154 rfl rfl, zw0 35 rfl rfl, by decide, Or.inr ⟨by decide, rfl⟩⟩⟩
theorem zmo_22 : zMok false zm_22 := ⟨rfl, zplain_of zpn_2, znm_2, zds_2, zw1 9 rfl rfl, zw4 149 rfl rfl, ⟨zw4 147 rfl rfl, zw4 148 rfl rfl, by decide, Or.inr ⟨by decide, rfl⟩⟩⟩
theorem zmo_23 : zMok false zm_23 := ⟨rfl, zplain_of zpn_2, znm_2, zds_11, zw1 9 rfl rfl, zw4 170 rfl rfl, ⟨zw4 169 rfl rfl, zw0 36 rfl rfl, by decide, Or.inr ⟨by decide, rfl⟩⟩⟩
theorem zmo_24 : zMok false zm_24 := ⟨rfl, zplain_of zpn_2, znm_2, zds_14, zw1 9 rfl rfl, zw4 166 rfl rfl, ⟨zw4 164 rfl rfl, zw4 165 rfl rfl, by decide, Or.inr ⟨by decide, rfl⟩⟩⟩
theorem zmo_25 : zMok false zm_25 := ⟨rfl, zplain_of zpn_2, znm_2, zds_8, zw1 9 rfl rfl, zw4 179 rfl rfl, ⟨zw4 177 rfl rfl, zw4 178 rfl rfl, by decide, Or.inr ⟨by decide, rfl⟩⟩⟩
theorem zmo_26 : zMok true zm_26 := ⟨rfl, by decide +kernel, znm_15, zds_8, zw1 19 rfl rfl, zw4 191 rfl rfl, zw4 190 rfl rfl⟩
theorem zmo_27 : zMok false zm_27 := ⟨rfl, zplain_of zpn_2, znm_2, zds_8, zw1 9 rfl rfl, zw4 188 rfl rfl, ⟨zw4 186 rfl rfl, zw4 187 rfl rfl, by decide, Or.inr ⟨by decide, rfl⟩⟩⟩
theorem zmo_28 : zMok false zm_28 := ⟨rfl, zplain_of zpn_2, znm_2, zds_1, zw1 9 rfl rfl, zw4 203 rfl rfl, ⟨zw4 201 rfl rfl, zw4 202 rfl rfl, by decide, Or.inr ⟨by decide, rfl⟩⟩⟩
theorem zmo_29 : zMok false zm_29 := ⟨rfl, zplain_of zpn_3, znm_3, zds_4, zw1 3 rfl rfl, zw2 102 rfl rfl, ⟨zw2 100 rfl rfl, zw2 101 rfl rfl, by decide, Or.inr ⟨by decide, rfl⟩⟩⟩
theorem zmo_30 : zMok false zm_30 := ⟨rfl, zplain_of zpn_3, znm_3, zds_1, zw1 3 rfl rfl, zw2 110 rfl rfl, ⟨zw2 108 rfl rfl, zw2 109 rfl rfl, by decide, Or.inr ⟨by decide, rfl⟩⟩⟩
theorem zmo_31 : zMok true zm_31 := ⟨rfl, zplain_of zpn_9, znm_9, zds_43, zw1 1 rfl rfl, zw2 17 rfl rfl, zw2 16 rfl rfl⟩
theorem zmo_32 : zMok false zm_32 := ⟨rfl, zplain_of zpn_6, znm_6, zds_2, zw1 2 rfl rfl, zw2 9 rfl rfl, ⟨zw2 7 rfl rfl, zw2 8 rfl rfl, by decide, Or.inr ⟨by decide, rfl⟩⟩⟩
theorem zmo_33 : zMok false zm_33 := ⟨rfl, zplain_of zpn_3, znm_3, zds_7, zw1 3 rfl rfl, zw2 127 rfl rfl, ⟨zw2 126 rfl rfl, zw0 3 rfl rfl, by decide, Or.inr ⟨by decide, rfl⟩⟩⟩
theorem zmo_34 : zMok false zm_34 := ⟨rfl, by decide +kernel, znm_11, zds_3, zw1 14 rfl rfl, zw2 140 rfl rfl, ⟨zw2 138 rfl rfl, zw2 139 rfl rfl, by decide, Or.inl rfl⟩⟩
theorem zmo_35 : zMok false zm_35 := ⟨rfl, by decide +kernel, znm_11, zds_0, zw1 14 rfl rfl, zw2 150 rfl rfl, ⟨zw2 148 rfl rfl, zw2 149 rfl rfl, by decide, Or.inl rfl⟩⟩
theorem zmo_36 : zMok false zm_36 := ⟨rfl, by decide +kernel, znm_11, zds_1, zw1 14 rfl rfl, zw2 146 rfl rfl, ⟨zw2 144 rfl rfl, zw2 145 rfl rfl, by decide, Or.inl rfl⟩⟩
theorem zmo_37 : zMok true zm_37 := ⟨rfl, by decide +kernel, znm_12, zds_10, zw1 15 rfl rfl, zw2 156 rfl rfl, zw2 155 rfl rfl⟩
theorem zmo_38 : zMok true zm_38 := ⟨rfl, by decide +kernel, znm_13, zds_11, zw1 11 rfl rfl, zw2 160 rfl rfl, zw2 159 rfl rfl⟩
theorem zmo_39 : zMok true zm_39 := ⟨rfl, by decide +kernel, znm_12, zds_35, zw1 15 rfl rfl, zw2 163 rfl rfl, zw2 162 rfl rfl⟩
theorem zmo_40 : zMok true zm_40 := ⟨rfl, by decide +kernel, znm_12, zds_35, zw1 15 rfl rfl, zw2 153 rfl rfl, zw2 152 rfl rfl⟩
theorem zmo_41 : zMok false zm_41 := ⟨rfl, by decide +kernel, znm_11, zds_11, zw1 14 rfl rfl, zw2 136 rfl rfl, ⟨zw2 134 rfl rfl, zw2 135 rfl rfl, by decide, Or.inl rfl⟩⟩
theorem zmo_42 : zMok false zm_42 := ⟨rfl, by decide +kernel, znm_11, zds_8, zw1 14 rfl rfl, zw2 132 rfl rfl, ⟨zw2 130 rfl rfl, zw2 131 rfl rfl, by decide, Or.inl rfl⟩⟩
theorem zmo_43 : zMok true zm_43 := ⟨rfl, zplain_of zpn_3, znm_3, zds_5, zw1 3 rfl rfl, zw2 224 rfl rfl, zw2 223 rfl rfl⟩
theorem zmo_44 : zMok false zm_44 := ⟨rfl, zplain_of zpn_3, znm_3, zds_8, zw1 3 rfl rfl, zw2 221 rfl rfl, ⟨zw2 220 rfl rfl, zw0 4 rfl rfl, by decide, Or.inr ⟨by decide, rfl⟩⟩⟩
theorem zmo_45 : zMok false zm_45 := ⟨rfl, zplain_of zpn_3, znm_3, zds_11, zw1 3 rfl rfl, zw2 228 rfl rfl, ⟨zw2 227 rfl rfl, zw0 5 rfl rfl, by decide, Or.inr ⟨by decide, rfl⟩⟩⟩
theorem zmo_46 : zMok true zm_46 := ⟨rfl, zplain_of zpn_9, znm_9, zds_16, zw1 1 rfl rfl, zw2 98 rfl rfl, zw2 97 rfl rfl⟩
theorem zmo_47 : zMok false zm_47 := ⟨rfl, zplain_of zpn_6, znm_6, zds_13, zw1 2 rfl rfl, zw2 21 rfl rfl, ⟨zw2 19 rfl rfl, zw2 20 rfl rfl, by decide, Or.inr ⟨by decide, rfl⟩⟩⟩
theorem zmo_48 : zMok false zm_48 := ⟨rfl, zplain_of zpn_6, znm_6, zds_29, zw1 2 rfl rfl, zw3 4 rfl rfl, ⟨zw3 3 rfl rfl, zw0 6 rfl rfl, by decide, Or.inr ⟨by decide, rfl⟩⟩⟩
theorem zmo_49 : zMok false zm_49 := ⟨rfl, zplain_of zpn_6, znm_6, zds_13, zw1 2 rfl rfl, zw3 8 rfl rfl, ⟨zw3 7 rfl rfl, zw0 7 rfl rfl, by decide, Or.inr ⟨by decide, rfl⟩⟩⟩
theorem zmo_50 : zMok false zm_50 := ⟨rfl, zplain_of zpn_6, znm_6, zds_13, zw1 2 rfl rfl, zw3 12 rfl rfl, ⟨zw3 11 rfl rfl, zw0 8 rfl rfl, by decide, Or.inr ⟨by decide, rfl⟩⟩⟩
theorem zmo_51 : zMok false zm_51 := ⟨rfl, zplain_of zpn_6, znm_6, zds_10, zw1 2 rfl rfl, zw3 16 rfl rfl, ⟨zw3 15 rfl rfl, zw0 9 rfl rfl, by decide, Or.inr ⟨by decide, rfl⟩⟩⟩
theorem zmo_52 : zMok false zm_52 := ⟨rfl, zplain_of zpn_6, znm_6, zds_16, zw1 2 rfl rfl, zw3 20 rfl rfl, ⟨zw3 19 rfl rfl, zw0 10 rfl rfl, by decide, Or.inr ⟨by decide, rfl⟩⟩⟩
theorem zmo_53 : zMok false zm_53 := ⟨rfl, zplain_of zpn_6, znm_6, zds_10, zw1 2 rfl rfl, zw3 24 rfl rfl, ⟨zw3 23 rfl rfl, zw0 11 rfl rfl, by decide, Or.inr ⟨by decide, rfl⟩⟩⟩
theorem zmo_54 : zMok false zm_54 := ⟨rfl, zplain_of zpn_6, znm_6, zds_6, zw1 2 rfl rfl, zw2 238 rfl rfl, ⟨zw2 236 rfl rfl, zw2 237 rfl rfl, by decide, Or.inr ⟨by decide, rfl⟩⟩⟩
theorem zmo_55 : zMok false zm_55 := ⟨rfl, zplain_of zpn_3, znm_3, zds_25, zw1 3 rfl rfl, zw2 123 rfl rfl, ⟨zw2 122 rfl rfl, zw0 2 rfl rfl, by decide, Or.inr ⟨by decide, rfl⟩⟩⟩
theorem zmo_56 : zMok false zm_56 := ⟨rfl, zplain_of zpn_3, znm_3, zds_31, zw1 3 rfl rfl, zw2 118 rfl rfl, ⟨zw2 116 rfl rfl, zw2 117 rfl rfl, by decide, Or.inr ⟨by decide, rfl⟩⟩⟩
theorem zmo_57 : zMok false zm_57 := ⟨rfl, zplain_of zpn_5, znm_5, zds_26, zw1 4 rfl rfl, zw3 116 rfl rfl, ⟨zw3 114 rfl rfl, zw3 115 rfl rfl, by decide, Or.inr ⟨by decide, rfl⟩⟩⟩
theorem zmo_58 : zMok false zm_58 := ⟨rfl, zplain_of zpn_6, znm_6, zds_1, zw1 2 rfl rfl, zw3 42 rfl rfl, ⟨zw3 40 rfl rfl, zw3 41 rfl rfl, by decide, Or.inr ⟨by decide, rfl⟩⟩⟩
theorem zmo_59 : zMok true zm_59 := ⟨rfl, zplain_of zpn_9, znm_9, zds_11, zw1 1 rfl rfl, zw3 77 rfl rfl, zw3 76 rfl rfl⟩
theorem zmo_60 : zMok false zm_60 := ⟨rfl, zplain_of zpn_5, znm_5, zds_24, zw1 4 rfl rfl, zw3 70 rfl rfl, ⟨zw3 68 rfl rfl, zw3 69 rfl rfl, by decide, Or.inr ⟨by decide, rfl⟩⟩⟩
theorem zmo_61 : zMok false zm_61 := ⟨rfl, zplain_of zpn_5, znm_5, zds_16, zw1 4 rfl rfl, zw3 81 rfl rfl, ⟨zw3 79 rfl rfl, zw3 80 rfl rfl, by decide, Or.inr ⟨by decide, rfl⟩⟩⟩
theorem zmo_62 : zMok false zm_62 := ⟨rfl, zplain_of zpn_5, znm_5, zds_22, zw1 4 rfl rfl, zw3 85 rfl rfl, ⟨zw3 83 rfl rfl, zw3 84 rfl rfl, by decide, Or.inr ⟨by decide, rfl⟩⟩⟩
theorem zmo_63 : zMok false zm_63 := ⟨rfl, zplain_of zpn_5, znm_5, zds_27, zw1 4 rfl rfl, zw3 185 rfl rfl, ⟨zw3 183 rfl rfl, zw3 184 rfl rfl, by decide, Or.inr ⟨by decide, rfl⟩⟩⟩
theorem zmo_64 : zMok false zm_64 := ⟨rfl, zplain_of zpn_4, znm_4, zds_10, zw1 6 rfl rfl, zw4 0 rfl rfl, ⟨zw3 239 rfl rfl, zw0 23 rfl rfl, by decide, Or.inr ⟨by decide, rfl⟩⟩⟩
theorem zmo_65 : zMok false zm_65 := ⟨rfl, zplain_of zpn_4, znm_4, zds_1, zw1 6 rfl rfl, zw3 236 rfl rfl, ⟨zw3 235 rfl rfl, zw0 22 rfl rfl, by decide, Or.inr ⟨by decide, rfl⟩⟩⟩
theorem zmo_66 : zMok false zm_66 := ⟨rfl, zplain_of zpn_4, znm_4, zds_8, zw1 6 rfl rfl, zw4 10 rfl rfl, ⟨zw4 9 rfl rfl, zw0 25 rfl rfl, by decide, Or.inr ⟨by decide, rfl⟩⟩⟩
theorem zmo_67 : zMok true zm_67 := ⟨rfl, zplain_of zpn_5, znm_5, zds_8, zw1 4 rfl rfl, zw3 122 rfl rfl, zw3 121 rfl rfl⟩
theorem zmo_68 : zMok true zm_68 := ⟨rfl, zplain_of zpn_5, znm_5, zds_8, zw1 4 rfl rfl, zw3 88 rfl rfl, zw3 87 rfl rfl⟩
theorem zmo_69 : zMok false zm_69 := ⟨rfl, zplain_of zpn_4, znm_4, zds_17, zw1 6 rfl rfl, zw4 14 rfl rfl, ⟨zw4 13 rfl rfl, zw0 26 rfl rfl, by decide, Or.inr ⟨by decide, rfl⟩⟩⟩
theorem zmo_70 : zMok false zm_70 := ⟨rfl, zplain_of zpn_4, znm_4, zds_20, zw1 6 rfl rfl, zw4 6 rfl rfl, ⟨zw4 5 rfl rfl, zw0 24 rfl rfl, by decide, Or.inr ⟨by decide, rfl⟩⟩⟩
theorem zmo_71 : zMok false zm_71 := ⟨rfl, zplain_of zpn_4, znm_4, zds_1, zw1 6 rfl rfl, zw4 20 rfl rfl, ⟨zw4 19 rfl rfl, zw0 27 rfl rfl, by decide, Or.inr ⟨by decide, rfl⟩⟩⟩
theorem zmo_72 : zMok false zm_72 := ⟨rfl, zplain_of zpn_4, znm_4, zds_8, zw1 6 rfl rfl, zw4 25 rfl rfl, ⟨zw4 24 rfl rfl, zw0 28 rfl rfl, by decide, Or.inr ⟨by decide, rfl⟩⟩⟩
theorem zmo_73 : zMok false zm_73 := ⟨rfl, zplain_of zpn_4, znm_4, zds_32, zw1 6 rfl rfl, zw3 226 rfl rfl, ⟨zw3 224 rfl rfl, zw3 225 rfl rfl, by decide, Or.inr ⟨by decide, rfl⟩⟩⟩
theorem zmo_74 : zMok false zm_74 := ⟨rfl, zplain_of zpn_5, znm_5, zds_37, zw1 4 rfl rfl, zw3 107 rfl rfl, ⟨zw3 106 rfl rfl, zw0 13 rfl rfl, by decide, Or.inr ⟨by decide, rfl⟩⟩⟩
theorem zmo_75 : zMok false zm_75 := ⟨rfl, zplain_of zpn_5, znm_5, zds_39, zw1 4 rfl rfl, zw3 128 rfl rfl, ⟨zw3 127 rfl rfl, zw0 15 rfl rfl, by decide, Or.inr ⟨by decide, rfl⟩⟩⟩
theorem zmo_76 : zMok false zm_76 := ⟨rfl, zplain_of zpn_5, znm_5, zds_40, zw1 4 rfl rfl, zw3 112 rfl rfl, ⟨zw3 111 rfl rfl, zw0 14 rfl rfl, by decide, Or.inr ⟨by decide, rfl⟩⟩⟩
theorem zmo_77 : zMok false zm_77 := ⟨rfl, zplain_of zpn_5, znm_5, zds_40, zw1 4 rfl rfl, zw3 103 rfl rfl, ⟨zw3 101 rfl rfl, zw3 102 rfl rfl, by decide, Or.inr ⟨by decide, rfl⟩⟩⟩
theorem zmo_78 : zMok false zm_78 := ⟨rfl, zplain_of zpn_5, znm_5, zds_34, zw1 4 rfl rfl, zw4 215 rfl rfl, ⟨zw4 213 rfl rfl, zw4 214 rfl rfl, by decide, Or.inr ⟨by decide, rfl⟩⟩⟩
theorem zmo_79 : zMok false zm_79 := ⟨rfl, zplain_of zpn_7, znm_7, zds_11, zw1 7 rfl rfl, zw4 44 rfl rfl, ⟨zw4 43 rfl rfl, zw0 30 rfl rfl, by decide, Or.inr ⟨by decide, rfl⟩⟩⟩
theorem zmo_80 : zMok false zm_80 := ⟨rfl, zplain_of zpn_7, znm_7, zds_26, zw1 7 rfl rfl, zw4 37 rfl rfl, ⟨zw4 36 rfl rfl, zw0 29 rfl rfl, by decide, Or.inr ⟨by decide, rfl⟩⟩⟩
theorem zmo_81 : zMok false zm_81 := ⟨rfl, zplain_of zpn_7, znm_7, zds_8, zw1 7 rfl rfl, zw4 33 rfl rfl, ⟨zw4 31 rfl rfl, zw4 32 rfl rfl, by decide, Or.inr ⟨by decide, rfl⟩⟩⟩
theorem zmo_82 : zMok false zm_82 := ⟨rfl, zplain_of zpn_7, znm_7, zds_8, zw1 7 rfl rfl, zw4 51 rfl rfl, ⟨zw4 49 rfl rfl, zw4 50 rfl rfl, by decide, Or.inr ⟨by decide, rfl⟩⟩⟩
theorem zmo_83 : zMok false zm_83 := ⟨rfl, zplain_of zpn_7, znm_7, zds_1, zw1 7 rfl rfl, zw4 59 rfl rfl, ⟨zw4 57 rfl rfl, zw4 58 rfl rfl, by decide, Or.inr ⟨by decide, rfl⟩⟩⟩
theorem zmo_84 : zMok true zm_84 := ⟨rfl, zplain_of zpn_7, znm_7, zds_11, zw1 7 rfl rfl, zw4 72 rfl rfl, zw4 71 rfl rfl⟩
theorem zmo_85 : zMok false zm_85 := ⟨rfl, zplain_of zpn_7, znm_7, zds_12, zw1 7 rfl rfl, zw4 69 rfl rfl, ⟨zw4 67 rfl rfl, zw4 68 rfl rfl, by decide, Or.inr ⟨by decide, rfl⟩⟩⟩
theorem zmo_86 : zMok false zm_86 := ⟨rfl, zplain_of zpn_8, znm_8, zds_11, zw1 5 rfl rfl, zw3 190 rfl rfl, ⟨zw3 189 rfl rfl, zw0 18 rfl rfl, by decide, Or.inr ⟨by decide, rfl⟩⟩⟩
theorem zmo_87 : zMok false zm_87 := ⟨rfl, zplain_of zpn_8, znm_8, zds_23, zw1 5 rfl rfl, zw3 180 rfl rfl, ⟨zw3 179 rfl rfl, zw0 17 rfl rfl, by decide, Or.inr ⟨by decide, rfl⟩⟩⟩
theorem zmo_88 : zMok false zm_88 := ⟨rfl, zplain_of zpn_8, znm_8, zds_8, zw1 5 rfl rfl, zw3 197 rfl rfl, ⟨zw3 196 rfl rfl, zw0 19 rfl rfl, by decide, Or.inr ⟨by decide, rfl⟩⟩⟩
theorem zmo_89 : zMok true zm_89 := ⟨rfl, zplain_of zpn_8, znm_8, zds_14, zw1 5 rfl rfl, zw3 210 rfl rfl, zw3 209 rfl rfl⟩
theorem zmo_90 : zMok false zm_90 := ⟨rfl, zplain_of zpn_8, znm_8, zds_14, zw1 5 rfl rfl, zw3 206 rfl rfl, ⟨zw3 205 rfl rfl, zw0 21 rfl rfl, by decide, Or.inr ⟨by decide, rfl⟩⟩⟩
theorem zmo_91 : zMok false zm_91 := ⟨rfl, zplain_of zpn_8, znm_8, zds_11, zw1 5 rfl rfl, zw3 201 rfl rfl, ⟨zw3 200 rfl rfl, zw0 20 rfl rfl, by decide, Or.inr ⟨by decide, rfl⟩⟩⟩
theorem zmo_92 : zMok false zm_92 := ⟨rfl, zplain_of zpn_8, znm_8, zds_26, zw1 5 rfl rfl, zw3 174 rfl rfl, ⟨zw3 172 rfl rfl, zw3 173 rfl rfl, by decide, Or.inr ⟨by decide, rfl⟩⟩⟩
theorem zmo_93 : zMok false zm_93 := ⟨rfl, zplain_of zpn_8, znm_8, zds_11, zw1 5 rfl rfl, zw3 218 rfl rfl, ⟨zw3 216 rfl rfl, zw3 217 rfl rfl, by decide, Or.inr ⟨by decide, rfl⟩⟩⟩
theorem zmo_94 : zMok false zm_94 := ⟨rfl, zplain_of zpn_9, znm_9, zds_2, zw1 1 rfl rfl, zw2 38 rfl rfl, ⟨zw2 37 rfl rfl, zw0 1 rfl rfl, by decide, Or.inr ⟨by decide, rfl⟩⟩⟩
theorem zmo_95 : zMok false zm_95 := ⟨rfl, zplain_of zpn_9, znm_9, zds_33, zw1 1 rfl rfl, zw2 28 rfl rfl, ⟨zw2 27 rfl rfl, zw0 0 rfl rfl, by decide, Or.inr ⟨by decide, rfl⟩⟩⟩
theorem zmo_96 : zMok false zm_96 := ⟨rfl, zplain_of zpn_9, znm_9, zds_8, zw1 1 rfl rfl, zw2 95 rfl rfl, ⟨zw2 93 rfl rfl, zw2 94 rfl rfl, by decide, Or.inr ⟨by decide, rfl⟩⟩⟩
theorem zmo_97 : zMok false zm_97 := ⟨rfl, zplain_of zpn_9, znm_9, zds_1, zw1 1 rfl rfl, zw2 106 rfl rfl, ⟨zw2 104 rfl rfl, zw2 105 rfl rfl, by decide, Or.inr ⟨by decide, rfl⟩⟩⟩
theorem zmo_98 : zMok false zm_98 := ⟨rfl, zplain_of zpn_9, znm_9, zds_1, zw1 1 rfl rfl, zw2 114 rfl rfl, ⟨zw2 112 rfl rfl, zw2 113 rfl rfl, by decide, Or.inr ⟨by decide, rfl⟩⟩⟩
theorem zmo_99 : zMok false zm_99 := ⟨rfl, zplain_of zpn_9, znm_9, zds_1, zw1 1 rfl rfl, zw3 29 rfl rfl, ⟨zw3 27 rfl rfl, zw3 28 rfl rfl, by decide, Or.inr ⟨by decide, rfl⟩⟩⟩
theorem zmo_100 : zMok false zm_100 := ⟨rfl, zplain_of zpn_9, znm_9, zds_11, zw1 1 rfl rfl, zw3 33 rfl rfl, ⟨zw3 31 rfl rfl, zw3 32 rfl rfl, by decide, Or.inr ⟨by decide, rfl⟩⟩⟩
theorem zmo_101 : zMok false zm_101 := ⟨rfl, zplain_of zpn_9, znm_9, zds_8, zw1 1 rfl rfl, zw3 38 rfl rfl, ⟨zw3 36 rfl rfl, zw3 37 rfl rfl, by decide, Or.inr ⟨by decide, rfl⟩⟩⟩
theorem zmo_102 : zMok false zm_102 := ⟨rfl, zplain_of zpn_9, znm_9, zds_11, zw1 1 rfl rfl, zw3 47 rfl rfl, ⟨zw3 45 rfl rfl, zw3 46 rfl rfl, by decide, Or.inr ⟨by decide, rfl⟩⟩⟩
theorem zmo_103 : zMok false zm_103 := ⟨rfl, zplain_of zpn_9, znm_9, zds_8, zw1 1 rfl rfl, zw3 51 rfl rfl, ⟨zw3 49 rfl rfl, zw3 50 rfl rfl, by decide, Or.inr ⟨by decide, rfl⟩⟩⟩
theorem zmo_104 : zMok false zm_104 := ⟨rfl, zplain_of zpn_9, znm_9, zds_11, zw1 1 rfl rfl, zw3 55 rfl rfl, ⟨zw3 53 rfl rfl, zw3 54 rfl rfl, by decide, Or.inr ⟨by decide, rfl⟩⟩⟩
theorem zmo_105 : zMok false zm_105 := ⟨rfl, zplain_of zpn_9, znm_9, zds_32, zw1 1 rfl rfl, zw3 62 rfl rfl, ⟨zw3 60 rfl rfl, zw3 61 rfl rfl, by decide, Or.inr ⟨by decide, rfl⟩⟩⟩
theorem zmo_106 : zMok false zm_106 := ⟨rfl, zplain_of zpn_9, znm_9, zds_24, zw1 1 rfl rfl, zw3 66 rfl rfl, ⟨zw3 64 rfl rfl, zw3 65 rfl rfl, by decide, Or.inr ⟨by decide, rfl⟩⟩⟩
theorem zmo_107 : zMok false zm_107 := ⟨rfl, zplain_of zpn_9, znm_9, zds_10, zw1 1 rfl rfl, zw3 98 rfl rfl, ⟨zw3 97 rfl rfl, zw0 12 rfl rfl, by decide, Or.inr ⟨by decide, rfl⟩⟩⟩
theorem zmo_108 : zMok false zm_108 := ⟨rfl, zplain_of zpn_9, znm_9, zds_8, zw1 1 rfl rfl, zw3 94 rfl rfl, ⟨zw3 92 rfl rfl, zw3 93 rfl rfl, by decide, Or.inr ⟨by decide, rfl⟩⟩⟩
theorem zmo_109 : zMok false zm_109 := ⟨rfl, zplain_of zpn_9, znm_9, zds_1, zw1 1 rfl rfl, zw3 142 rfl rfl, ⟨zw3 140 rfl rfl, zw3 141 rfl rfl, by decide, Or.inr ⟨by decide, rfl⟩⟩⟩
theorem zmo_110 : zMok false zm_110 := ⟨rfl, zplain_of zpn_9, znm_9, zds_1, zw1 1 rfl rfl, zw3 146 rfl rfl, ⟨zw3 144 rfl rfl, zw3 145 rfl rfl, by decide, Or.inr ⟨by decide, rfl⟩⟩⟩
theorem zmo_111 : zMok false zm_111 := ⟨rfl, zplain_of zpn_9, znm_9, zds_8, zw1 1 rfl rfl, zw3 154 rfl rfl, ⟨zw3 152 rfl rfl, zw3 153 rfl rfl, by decide, Or.inr ⟨by decide, rfl⟩⟩⟩
theorem zmo_112 : zMok false zm_112 := ⟨rfl, zplain_of zpn_9, znm_9, zds_8, zw1 1 rfl rfl, zw3 158 rfl rfl, ⟨zw3 156 rfl rfl, zw3 157 rfl rfl, by decide, Or.inr ⟨by decide, rfl⟩⟩⟩
theorem zmo_113 : zMok false zm_113 := ⟨rfl, zplain_of zpn_9, znm_9, zds_1, zw1 1 rfl rfl, zw3 162 rfl rfl, ⟨zw3 160 rfl rfl, zw3 161 rfl rfl, by decide, Or.inr ⟨by decide, rfl⟩⟩⟩
theorem zmo_114 : zMok false zm_114 := ⟨rfl, zplain_of zpn_9, znm_9, zds_1, zw1 1 rfl rfl, zw3 166 rfl rfl, ⟨zw3 164 rfl rfl, zw3 165 rfl rfl, by decide, Or.inr ⟨by decide, rfl⟩⟩⟩
theorem zmo_115 : zMok false zm_115 := ⟨rfl, zplain_of zpn_9, znm_9, zds_28, zw1 1 rfl rfl, zw3 170 rfl rfl, ⟨zw3 168 rfl rfl, zw3 169 rfl rfl, by decide, Or.inr ⟨by decide, rfl⟩⟩⟩
theorem zmo_116 : zMok false zm_116 := ⟨rfl, zplain_of zpn_9, znm_9, zds_32, zw1 1 rfl rfl, zw3 222 rfl rfl, ⟨zw3 220 rfl rfl, zw3 221 rfl rfl, by decide, Or.inr ⟨by decide, rfl⟩⟩⟩
theorem zmo_117 : zMok false zm_117 := ⟨rfl, zplain_of zpn_9, znm_9, zds_11, zw1 1 rfl rfl, zw4 29 rfl rfl, ⟨zw4 27 rfl rfl, zw4 28 rfl rfl, by decide, Or.inr ⟨by decide, rfl⟩⟩⟩
theorem zmo_118 : zMok false zm_118 := ⟨rfl, zplain_of zpn_9, znm_9, zds_1, zw1 1 rfl rfl, zw4 55 rfl rfl, ⟨zw4 53 rfl rfl, zw4 54 rfl rfl, by decide, Or.inr ⟨by decide, rfl⟩⟩⟩
theorem zmo_119 : zMok false zm_119 := ⟨rfl, zplain_of zpn_9, znm_9, zds_12, zw1 1 rfl rfl, zw4 64 rfl rfl, ⟨zw4 62 rfl rfl, zw4 63 rfl rfl, by decide, Or.inr ⟨by decide, rfl⟩⟩⟩
theorem zmo_120 : zMok false zm_120 := ⟨rfl, zplain_of zpn_9, znm_9, zds_26, zw1 1 rfl rfl, zw4 76 rfl rfl, ⟨zw4 74 rfl rfl, zw4 75 rfl rfl, by decide, Or.inr ⟨by decide, rfl⟩⟩⟩
theorem zmo_121 : zMok false zm_121 := ⟨rfl, zplain_of zpn_9, znm_9, zds_1, zw1 1 rfl rfl, zw4 89 rfl rfl, ⟨zw4 87 rfl rfl, zw4 88 rfl rfl, by decide, Or.inr ⟨by decide, rfl⟩⟩⟩
theorem zmo_122 : zMok false zm_122 := ⟨rfl, zplain_of zpn_9, znm_9, zds_22, zw1 1 rfl rfl, zw4 97 rfl rfl, ⟨zw4 95 rfl rfl, zw4 96 rfl rfl, by decide, Or.inr ⟨by decide, rfl⟩⟩⟩
theorem zmo_123 : zMok false zm_123 := ⟨rfl, zplain_of zpn_9, znm_9, zds_32, zw1 1 rfl rfl, zw4 116 rfl rfl, ⟨zw4 114 rfl rfl, zw4 115 rfl rfl, by decide, Or.inr ⟨by decide, rfl⟩⟩⟩
theorem zmo_124 : zMok false zm_124 := ⟨rfl, zplain_of zpn_9, znm_9, zds_22, zw1 1 rfl rfl, zw4 124 rfl rfl, ⟨zw4 122 rfl rfl, zw4 123 rfl rfl, by decide, Or.inr ⟨by decide, rfl⟩⟩⟩
theorem zmo_125 : zMok false zm_125 := ⟨rfl, zplain_of zpn_9, znm_9, zds_32, zw1 1 rfl rfl, zw4 136 rfl rfl, ⟨zw4 135 rfl rfl, zw0 33 rfl rfl, by decide, Or.inr ⟨by decide, rfl⟩⟩⟩
theorem zmo_126 : zMok false zm_126 := ⟨rfl, zplain_of zpn_9, znm_9, zds_8, zw1 1 rfl rfl, zw4 141 rfl rfl, ⟨zw4 140 rfl rfl, zw0 34 rfl rfl, by decide, Or.inr ⟨by decide, rfl⟩⟩⟩
theorem zmo_127 : zMok false zm_127 := ⟨rfl, zplain_of zpn_9, znm_9, zds_28, zw1 1 rfl rfl, zw4 132 rfl rfl, ⟨zw4 130 rfl rfl, zw4 131 rfl rfl, by decide, Or.inr ⟨by decide, rfl⟩⟩⟩
theorem zmo_128 : zMok false zm_128 := ⟨rfl, zplain_of zpn_9, znm_9, zds_14, zw1 1 rfl rfl, zw4 145 rfl rfl, ⟨zw4 143 rfl rfl, zw4 144 rfl rfl, by decide, Or.inr ⟨by decide, rfl⟩⟩⟩
theorem zmo_129 : zMok false zm_129 := ⟨rfl, zplain_of zpn_9, znm_9, zds_1, zw1 1 rfl rfl, zw4 175 rfl rfl, ⟨zw4 173 rfl rfl, zw4 174 rfl rfl, by decide, Or.inr ⟨by decide, rfl⟩⟩⟩
theorem zmo_130 : zMok false zm_130 := ⟨rfl, zplain_of zpn_9, znm_9, zds_11, zw1 1 rfl rfl, zw4 184 rfl rfl, ⟨zw4 182 rfl rfl, zw4 183 rfl rfl, by decide, Or.inr ⟨by decide, rfl⟩⟩⟩
theorem zmo_131 : zMok false zm_131 := ⟨rfl, zplain_of zpn_9, znm_9, zds_1, zw1 1 rfl rfl, zw4 199 rfl rfl, ⟨zw4 197 rfl rfl, zw4 198 rfl rfl, by decide, Or.inr ⟨by decide, rfl⟩⟩⟩
theorem zmo_132 : zMok false zm_132 := ⟨rfl, zplain_of zpn_9, znm_9, zds_32, zw1 1 rfl rfl, zw4 211 rfl rfl, ⟨zw4 210 rfl rfl, zw0 37 rfl rfl, by decide, Or.inr ⟨by decide, rfl⟩⟩⟩
theorem zmo_133 : zMok false zm_133 := ⟨rfl, zplain_of zpn_9, znm_9, zds_8, zw1 1 rfl rfl, zw4 207 rfl rfl, ⟨zw4 205 rfl rfl, zw4 206 rfl rfl, by decide, Or.inr ⟨by decide, rfl⟩⟩⟩
theorem zmo_134 : zMok false zm_134 := ⟨rfl, zplain_of zpn_9, znm_9, zds_8, zw1 1 rfl rfl, zw4 219 rfl rfl, ⟨zw4 217 rfl rfl, zw4 218 rfl rfl, by decide, Or.inr ⟨by decide, rfl⟩⟩⟩
theorem zmo_135 : zMok false zm_135 := ⟨rfl, zplain_of zpn_9, znm_9, zds_26, zw1 1 rfl rfl, zw4 223 rfl rfl, ⟨zw4 221 rfl rfl, zw4 222 rfl rfl, by decide, Or.inr ⟨by decide, rfl⟩⟩⟩
theorem zmo_136 : zMok false zm_136 := ⟨rfl, zplain_of zpn_9, znm_9, zds_22, zw1 1 rfl rfl, zw4 228 rfl rfl, ⟨zw4 226 rfl rfl, zw4 227 rfl rfl, by decide, Or.inr ⟨by decide, rfl⟩⟩⟩
theorem zmo_137 : zMok false zm_137 := ⟨rfl, zplain_of zpn_9, znm_9, zds_18, zw1 1 rfl rfl, zw5 4 rfl rfl, ⟨zw5 2 rfl rfl, zw5 3 rfl rfl, by decide, Or.inr ⟨by decide, rfl⟩⟩⟩
theorem zmo_138 : zMok false zm_138 := ⟨rfl, zplain_of zpn_9, znm_9, zds_1, zw1 1 rfl rfl, zw5 8 rfl rfl, ⟨zw5 6 rfl rfl, zw5 7 rfl rfl, by decide, Or.inr ⟨by decide, rfl⟩⟩⟩
theorem zmo_139 : zMok false zm_139 := ⟨rfl, zplain_of zpn_9, znm_9, zds_1, zw1 1 rfl rfl, zw5 12 rfl rfl, ⟨zw5 10 rfl rfl, zw5 11 rfl rfl, by decide, Or.inr ⟨by decide, rfl⟩⟩⟩
theorem zmo_140 : zMok false zm_140 := ⟨rfl, zplain_of zpn_9, znm_9, zds_8, zw1 1 rfl rfl, zw5 16 rfl rfl, ⟨zw5 14 rfl rfl, zw5 15 rfl rfl, by decide, Or.inr ⟨by decide, rfl⟩⟩⟩
theorem zmo_141 : zMok true zm_141 := ⟨rfl, zplain_of zpn_10, znm_10, zds_36, zw1 13 rfl rfl, zw5 26 rfl rfl, zw5 25 rfl rfl⟩
theorem zmo_142 : zMok false zm_142 := ⟨rfl, zplain_of zpn_10, znm_10, zds_9, zw1 13 rfl rfl, zw5 30 rfl rfl, ⟨zw5 29 rfl rfl, zw0 38 rfl rfl, by decide, Or.inr ⟨by decide, rfl⟩⟩⟩
theorem zmo_143 : zMok true zm_143 := ⟨rfl, zplain_of zpn_10, znm_10, zds_30, zw1 13 rfl rfl, zw5 94 rfl rfl, zw5 93 rfl rfl⟩
theorem zmo_144 : zMok false zm_144 := ⟨rfl, zplain_of zpn_10, znm_10, zds_8, zw1 13 rfl rfl, zw5 89 rfl rfl, ⟨zw5 87 rfl rfl, zw5 88 rfl rfl, by decide, Or.inr ⟨by decide, rfl⟩⟩⟩
theorem zmo_145 : zMok false zm_145 := ⟨rfl, zplain_of zpn_10, znm_10, zds_1, zw1 13 rfl rfl, zw5 98 rfl rfl, ⟨zw5 96 rfl rfl, zw5 97 rfl rfl, by decide, Or.inr ⟨by decide, rfl⟩⟩⟩
theorem zmo_146 : zMok false zm_146 := ⟨rfl, zplain_of zpn_10, znm_10, zds_10, zw1 13 rfl rfl, zw5 118 rfl rfl, ⟨zw5 117 rfl rfl, zw0 42 rfl rfl, by decide, Or.inr ⟨by decide, rfl⟩⟩⟩
theorem zmo_147 : zMok false zm_147 := ⟨rfl, zplain_of zpn_10, znm_10, zds_16, zw1 13 rfl rfl, zw5 125 rfl rfl, ⟨zw5 124 rfl rfl, zw0 43 rfl rfl, by decide, Or.inr ⟨by decide, rfl⟩⟩⟩
theorem zmo_148 : zMok false zm_148 := ⟨rfl, zplain_of zpn_10, znm_10, zds_8, zw1 13 rfl rfl, zw5 129 rfl rfl, ⟨zw5 128 rfl rfl, zw0 44 rfl rfl, by decide, Or.inr ⟨by decide, rfl⟩⟩⟩
theorem zmo_149 : zMok false zm_149 := ⟨rfl, zplain_of zpn_10, znm_10, zds_3, zw1 13 rfl rfl, zw5 114 rfl rfl, ⟨zw5 113 rfl rfl, zw0 41 rfl rfl, by decide, Or.inr ⟨by decide, rfl⟩⟩⟩
theorem zmo_150 : zMok false zm_150 := ⟨rfl, zplain_of zpn_10, znm_10, zds_13, zw1 13 rfl rfl, zw5 133 rfl rfl, ⟨zw5 132 rfl rfl, zw0 45 rfl rfl, by decide, Or.inr ⟨by decide, rfl⟩⟩⟩
theorem zmo_151 : zMok false zm_151 := ⟨rfl, zplain_of zpn_10, znm_10, zds_3, zw1 13 rfl rfl, zw5 137 rfl rfl, ⟨zw5 136 rfl rfl, zw0 46 rfl rfl, by decide, Or.inr ⟨by decide, rfl⟩⟩⟩
theorem zmo_152 : zMok false zm_152 := ⟨rfl, zplain_of zpn_10, znm_10, zds_3, zw1 13 rfl rfl, zw5 141 rfl rfl, ⟨zw5 140 rfl rfl, zw0 47 rfl rfl, by decide, Or.inr ⟨by decide, rfl⟩⟩⟩
theorem zmo_153 : zMok false zm_153 := ⟨rfl, zplain_of zpn_10, znm_10, zds_3, zw1 13 rfl rfl, zw5 145 rfl rfl, ⟨zw5 144 rfl rfl, zw0 48 rfl rfl, by decide, Or.inr ⟨by decide, rfl⟩⟩⟩
theorem zmo_154 : zMok false zm_154 := ⟨rfl, zplain_of zpn_10, znm_10, zds_3, zw1 13 rfl rfl, zw5 149 rfl rfl, ⟨zw5 148 rfl rfl, zw0 49 rfl rfl, by decide, Or.inr ⟨by decide, rfl⟩⟩⟩
theorem zmo_155 : zMok false zm_155 := ⟨rfl, zplain_of zpn_10, znm_10, zds_3, zw1 13 rfl rfl, zw5 153 rfl rfl, ⟨zw5 152 rfl rfl, zw0 50 rfl rfl, by decide, Or.inr ⟨by decide, rfl⟩⟩⟩
theorem zmo_156 : zMok false zm_156 := ⟨rfl, zplain_of zpn_10, znm_10, zds_3, zw1 13 rfl rfl, zw5 110 rfl rfl, ⟨zw5 109 rfl rfl, zw0 40 rfl rfl, by decide, Or.inr ⟨by decide, rfl⟩⟩⟩
theorem zmo_157 : zMok false zm_157 := ⟨rfl, zplain_of zpn_10, znm_10, zds_1, zw1 13 rfl rfl, zw5 106 rfl rfl, ⟨zw5 105 rfl rfl, zw0 39 rfl rfl, by decide, Or.inr ⟨by decide, rfl⟩⟩⟩
theorem zmo_158 : zMok false zm_158 := ⟨rfl, zplain_of zpn_10, znm_10, zds_1, zw1 13 rfl rfl, zw5 102 rfl rfl, ⟨zw5 100 rfl rfl, zw5 101 rfl rfl, by decide, Or.inr ⟨by decide, rfl⟩⟩⟩
theorem zmo_159 : zMok false zm_159 := ⟨rfl, zplain_of zpn_10, znm_10, zds_1, zw1 13 rfl rfl, zw5 157 rfl rfl, ⟨zw5 155 rfl rfl, zw5 156 rfl rfl, by decide, Or.inr ⟨by decide, rfl⟩⟩⟩
theorem zmo_160 : zMok false zm_160 := ⟨rfl, zplain_of zpn_10, znm_10, zds_10, zw1 13 rfl rfl, zw5 165 rfl rfl, ⟨zw5 164 rfl rfl, zw0 51 rfl rfl, by decide, Or.inr ⟨by decide, rfl⟩⟩⟩
theorem zmo_161 : zMok true zm_161 := ⟨rfl, zplain_of zpn_10, znm_10, zds_10, zw1 13 rfl rfl, zw5 168 rfl rfl, zw5 167 rfl rfl⟩
theorem zmo_162 : zMok false zm_162 := ⟨rfl, zplain_of zpn_10, znm_10, zds_11, zw1 13 rfl rfl, zw5 161 rfl rfl, ⟨zw5 159 rfl rfl, zw5 160 rfl rfl, by decide, Or.inr ⟨by decide, rfl⟩⟩⟩
theorem zmo_163 : zMok false zm_163 := ⟨rfl, zplain_of zpn_10, znm_10, zds_1, zw1 13 rfl rfl, zw5 177 rfl rfl, ⟨zw5 176 rfl rfl, zw0 52 rfl rfl, by decide, Or.inr ⟨by decide, rfl⟩⟩⟩
theorem zmo_164 : zMok false zm_164 := ⟨rfl, zplain_of zpn_10, znm_10, zds_8, zw1 13 rfl rfl, zw5 172 rfl rfl, ⟨zw5 170 rfl rfl, zw5 171 rfl rfl, by decide, Or.inr ⟨by decide, rfl⟩⟩⟩
theorem zmo_165 : zMok false zm_165 := ⟨rfl, zplain_of zpn_10, znm_10, zds_10, zw1 13 rfl rfl, zw5 185 rfl rfl, ⟨zw5 184 rfl rfl, zw0 53 rfl rfl, by decide, Or.inr ⟨by decide, rfl⟩⟩⟩
theorem zmo_166 : zMok false zm_166 := ⟨rfl, zplain_of zpn_10, znm_10, zds_11, zw1 13 rfl rfl, zw5 181 rfl rfl, ⟨zw5 179 rfl rfl, zw5 180 rfl rfl, by decide, Or.inr ⟨by decide, rfl⟩⟩⟩
theorem zmo_167 : zMok true zm_167 := ⟨rfl, zplain_of zpn_10, znm_10, zds_10, zw1 13 rfl rfl, zw5 192 rfl rfl, zw5 191 rfl rfl⟩
theorem zmo_168 : zMok false zm_168 := ⟨rfl, zplain_of zpn_10, znm_10, zds_8, zw1 13 rfl rfl, zw5 189 rfl rfl, ⟨zw5 187 rfl rfl, zw5 188 rfl rfl, by decide, Or.inr ⟨by decide, rfl⟩⟩⟩
theorem zmo_169 : zMok false zm_169 := ⟨rfl, zplain_of zpn_10, znm_10, zds_10, zw1 13 rfl rfl, zw5 201 rfl rfl, ⟨zw5 200 rfl rfl, zw0 54 rfl rfl, by decide, Or.inr ⟨by decide, rfl⟩⟩⟩
theorem zmo_170 : zMok false zm_170 := ⟨rfl, zplain_of zpn_10, znm_10, zds_11, zw1 13 rfl rfl, zw5 197 rfl rfl, ⟨zw5 195 rfl rfl, zw5 196 rfl rfl, by decide, Or.inr ⟨by decide, rfl⟩⟩⟩
theorem zmo_171 : zMok false zm_171 := ⟨rfl, zplain_of zpn_10, znm_10, zds_32, zw1 13 rfl rfl, zw5 205 rfl rfl, ⟨zw5 203 rfl rfl, zw5 204 rfl rfl, by decide, Or.inr ⟨by decide, rfl⟩⟩⟩
theorem zmo_172 : zMok true zm_172 := ⟨rfl, zplain_of zpn_10, znm_10, zds_11, zw1 13 rfl rfl, zw5 216 rfl rfl, zw5 215 rfl rfl⟩
theorem zmo_173 : zMok false zm_173 := ⟨rfl, zplain_of zpn_10, znm_10, zds_24, zw1 13 rfl rfl, zw5 213 rfl rfl, ⟨zw5 212 rfl rfl, zw0 55 rfl rfl, by decide, Or.inr ⟨by decide, rfl⟩⟩⟩
theorem zmo_174 : zMok false zm_174 := ⟨rfl, zplain_of zpn_10, znm_10, zds_22, zw1 13 rfl rfl, zw5 220 rfl rfl, ⟨zw5 219 rfl rfl, zw0 56 rfl rfl, by decide, Or.inr ⟨by decide, rfl⟩⟩⟩
theorem zmo_175 : zMok true zm_175 := ⟨rfl, zplain_of zpn_10, znm_10, zds_8, zw1 13 rfl rfl, zw5 223 rfl rfl, zw5 222 rfl rfl⟩
theorem zmo_176 : zMok false zm_176 := ⟨rfl, zplain_of zpn_10, znm_10, zds_24, zw1 13 rfl rfl, zw5 209 rfl rfl, ⟨zw5 207 rfl rfl, zw5 208 rfl rfl, by decide, Or.inr ⟨by decide, rfl⟩⟩⟩
theorem zmo_177 : zMok false zm_177 := ⟨rfl, zplain_of zpn_10, znm_10, zds_42, zw1 13 rfl rfl, zw5 231 rfl rfl, ⟨zw5 230 rfl rfl, zw0 57 rfl rfl, by decide, Or.inr ⟨by decide, rfl⟩⟩⟩
theorem zmo_178 : zMok false zm_178 := ⟨rfl, zplain_of zpn_10, znm_10, zds_26, zw1 13 rfl rfl, zw5 239 rfl rfl, ⟨zw5 238 rfl rfl, zw0 59 rfl rfl, by decide, Or.inr ⟨by decide, rfl⟩⟩⟩
theorem zmo_179 : zMok false zm_179 := ⟨rfl, zplain_of zpn_10, znm_10, zds_40, zw1 13 rfl rfl, zw5 235 rfl rfl, ⟨zw5 234 rfl rfl, zw0 58 rfl rfl, by decide, Or.inr ⟨by decide, rfl⟩⟩⟩
theorem zmo_180 : zMok false zm_180 := ⟨rfl, zplain_of zpn_10, znm_10, zds_2, zw1 13 rfl rfl, zw6 3 rfl rfl, ⟨zw6 2 rfl rfl, zw0 60 rfl rfl, by decide, Or.inr ⟨by decide, rfl⟩⟩⟩
theorem zmo_181 : zMok false zm_181 := ⟨rfl, zplain_of zpn_10, znm_10, zds_8, zw1 13 rfl rfl, zw5 227 rfl rfl, ⟨zw5 225 rfl rfl, zw5 226 rfl rfl, by decide, Or.inr ⟨by decide, rfl⟩⟩⟩
theorem zmo_182 : zMok false zm_182 := ⟨rfl, zplain_of zpn_10, znm_10, zds_37, zw1 13 rfl rfl, zw6 11 rfl rfl, ⟨zw6 10 rfl rfl, zw0 61 rfl rfl, by decide, Or.inr ⟨by decide, rfl⟩⟩⟩
theorem zmo_183 : zMok false zm_183 := ⟨rfl, zplain_of zpn_10, znm_10, zds_1, zw1 13 rfl rfl, zw6 7 rfl rfl, ⟨zw6 5 rfl rfl, zw6 6 rfl rfl, by decide, Or.inr ⟨by decide, rfl⟩⟩⟩
theorem zmo_184 : zMok false zm_184 := ⟨rfl, zplain_of zpn_10, znm_10, zds_1, zw1 13 rfl rfl, zw6 15 rfl rfl, ⟨zw6 13 rfl rfl, zw6 14 rfl rfl, by decide, Or.inr ⟨by decide, rfl⟩⟩⟩
theorem zmo_185 : zMok false zm_185 := ⟨rfl, zplain_of zpn_10, znm_10, zds_8, zw1 13 rfl rfl, zw6 19 rfl rfl, ⟨zw6 17 rfl rfl, zw6 18 rfl rfl, by decide, Or.inr ⟨by decide, rfl⟩⟩⟩
theorem zmo_186 : zMok false zm_186 := ⟨rfl, zplain_of zpn_10, znm_10, zds_8, zw1 13 rfl rfl, zw6 24 rfl rfl, ⟨zw6 22 rfl rfl, zw6 23 rfl rfl, by decide, Or.inr ⟨by decide, rfl⟩⟩⟩
theorem zmo_187 : zMok false zm_187 := ⟨rfl, zplain_of zpn_10, znm_10, zds_1, zw1 13 rfl rfl, zw6 29 rfl rfl, ⟨zw6 27 rfl rfl, zw6 28 rfl rfl, by decide, Or.inr ⟨by decide, rfl⟩⟩⟩
theorem zmo_188 : zMok false zm_188 := ⟨rfl, zplain_of zpn_10, znm_10, zds_1, zw1 13 rfl rfl, zw6 33 rfl rfl, ⟨zw6 31 rfl rfl, zw6 32 rfl rfl, by decide, Or.inr ⟨by decide, rfl⟩⟩⟩
theorem zmo_189 : zMok true zm_189 := ⟨rfl, zplain_of zpn_10, znm_10, zds_14, zw1 13 rfl rfl, zw6 53 rfl rfl, zw6 52 rfl rfl⟩
theorem zmo_190 : zMok false zm_190 := ⟨rfl, zplain_of zpn_10, znm_10, zds_19, zw1 13 rfl rfl, zw6 50 rfl rfl, ⟨zw6 49 rfl rfl, zw0 64 rfl rfl, by decide, Or.inr ⟨by decide, rfl⟩⟩⟩
theorem zmo_191 : zMok false zm_191 := ⟨rfl, zplain_of zpn_10, znm_10, zds_21, zw1 13 rfl rfl, zw6 45 rfl rfl, ⟨zw6 44 rfl rfl, zw0 63 rfl rfl, by decide, Or.inr ⟨by decide, rfl⟩⟩⟩
theorem zmo_192 : zMok false zm_192 := ⟨rfl, zplain_of zpn_10, znm_10, zds_28, zw1 13 rfl rfl, zw6 41 rfl rfl, ⟨zw6 40 rfl rfl, zw0 62 rfl rfl, by decide, Or.inr ⟨by decide, rfl⟩⟩⟩
theorem zmo_193 : zMok false zm_193 := ⟨rfl, zplain_of zpn_10, znm_10, zds_28, zw1 13 rfl rfl, zw6 37 rfl rfl, ⟨zw6 35 rfl rfl, zw6 36 rfl rfl, by decide, Or.inr ⟨by decide, rfl⟩⟩⟩
theorem zmo_194 : zMok false zm_194 := ⟨rfl, zplain_of zpn_10, znm_10, zds_23, zw1 13 rfl rfl, zw6 61 rfl rfl, ⟨zw6 60 rfl rfl, zw0 65 rfl rfl, by decide, Or.inr ⟨by decide, rfl⟩⟩⟩
theorem zmo_195 : zMok false zm_195 := ⟨rfl, zplain_of zpn_10, znm_10, zds_32, zw1 13 rfl rfl, zw6 57 rfl rfl, ⟨zw6 55 rfl rfl, zw6 56 rfl rfl, by decide, Or.inr ⟨by decide, rfl⟩⟩⟩
theorem zmo_196 : zMok false zm_196 := ⟨rfl, zplain_of zpn_10, znm_10, zds_11, zw1 13 rfl rfl, zw6 73 rfl rfl, ⟨zw6 72 rfl rfl, zw0 67 rfl rfl, by decide, Or.inr ⟨by decide, rfl⟩⟩⟩
theorem zmo_197 : zMok false zm_197 := ⟨rfl, zplain_of zpn_10, znm_10, zds_8, zw1 13 rfl rfl, zw6 69 rfl rfl, ⟨zw6 68 rfl rfl, zw0 66 rfl rfl, by decide, Or.inr ⟨by decide, rfl⟩⟩⟩
theorem zmo_198 : zMok false zm_198 := ⟨rfl, zplain_of zpn_10, znm_10, zds_11, zw1 13 rfl rfl, zw6 65 rfl rfl, ⟨zw6 63 rfl rfl, zw6 64 rfl rfl, by decide, Or.inr ⟨by decide, rfl⟩⟩⟩
theorem zmo_199 : zMok false zm_199 := ⟨rfl, zplain_of zpn_10, znm_10, zds_1, zw1 13 rfl rfl, zw6 77 rfl rfl, ⟨zw6 75 rfl rfl, zw6 76 rfl rfl, by decide, Or.inr ⟨by decide, rfl⟩⟩⟩
theorem zmo_200 : zMok false zm_200 := ⟨rfl, zplain_of zpn_10, znm_10, zds_12, zw1 13 rfl rfl, zw6 81 rfl rfl, ⟨zw6 79 rfl rfl, zw6 80 rfl rfl, by decide, Or.inr ⟨by decide, rfl⟩⟩⟩
theorem zmo_201 : zMok false zm_201 := ⟨rfl, zplain_of zpn_10, znm_10, zds_8, zw1 13 rfl rfl, zw6 96 rfl rfl, ⟨zw6 95 rfl rfl, zw0 69 rfl rfl, by decide, Or.inr ⟨by decide, rfl⟩⟩⟩
theorem zmo_202 : zMok false zm_202 := ⟨rfl, zplain_of zpn_10, znm_10, zds_26, zw1 13 rfl rfl, zw6 92 rfl rfl, ⟨zw6 91 rfl rfl, zw0 68 rfl rfl, by decide, Or.inr ⟨by decide, rfl⟩⟩⟩
theorem zmo_203 : zMok false zm_203 := ⟨rfl, zplain_of zpn_10, znm_10, zds_26, zw1 13 rfl rfl, zw6 87 rfl rfl, ⟨zw6 85 rfl rfl, zw6 86 rfl rfl, by decide, Or.inr ⟨by decide, rfl⟩⟩⟩
theorem zmo_204 : zMok false zm_204 := ⟨rfl, zplain_of zpn_10, znm_10, zds_1, zw1 13 rfl rfl, zw6 100 rfl rfl, ⟨zw6 98 rfl rfl, zw6 99 rfl rfl, by decide, Or.inr ⟨by decide, rfl⟩⟩⟩
theorem zmo_205 : zMok false zm_205 := ⟨rfl, zplain_of zpn_10, znm_10, zds_22, zw1 13 rfl rfl, zw6 113 rfl rfl, ⟨zw6 112 rfl rfl, zw0 71 rfl rfl, by decide, Or.inr ⟨by decide, rfl⟩⟩⟩
theorem zmo_206 : zMok false zm_206 := ⟨rfl, zplain_of zpn_10, znm_10, zds_22, zw1 13 rfl rfl, zw6 109 rfl rfl, ⟨zw6 108 rfl rfl, zw0 70 rfl rfl, by decide, Or.inr ⟨by decide, rfl⟩⟩⟩
theorem zmo_207 : zMok false zm_207 := ⟨rfl, zplain_of zpn_10, znm_10, zds_22, zw1 13 rfl rfl, zw6 104 rfl rfl, ⟨zw6 102 rfl rfl, zw6 103 rfl rfl, by decide, Or.inr ⟨by decide, rfl⟩⟩⟩
theorem zmo_208 : zMok false zm_208 := ⟨rfl, zplain_of zpn_10, znm_10, zds_32, zw1 13 rfl rfl, zw6 117 rfl rfl, ⟨zw6 115 rfl rfl, zw6 116 rfl rfl, by decide, Or.inr ⟨by decide, rfl⟩⟩⟩
theorem zmo_209 : zMok false zm_209 := ⟨rfl, zplain_of zpn_10, znm_10, zds_22, zw1 13 rfl rfl, zw6 126 rfl rfl, ⟨zw6 125 rfl rfl, zw0 72 rfl rfl, by decide, Or.inr ⟨by decide, rfl⟩⟩⟩
theorem zmo_210 : zMok false zm_210 := ⟨rfl, zplain_of zpn_10, znm_10, zds_22, zw1 13 rfl rfl, zw6 121 rfl rfl, ⟨zw6 119 rfl rfl, zw6 120 rfl rfl, by decide, Or.inr ⟨by decide, rfl⟩⟩⟩
theorem zmo_211 : zMok false zm_211 := ⟨rfl, zplain_of zpn_10, znm_10, zds_28, zw1 13 rfl rfl, zw6 130 rfl rfl, ⟨zw6 128 rfl rfl, zw6 129 rfl rfl, by decide, Or.inr ⟨by decide, rfl⟩⟩⟩
theorem zmo_212 : zMok false zm_212 := ⟨rfl, zplain_of zpn_10, znm_10, zds_2, zw1 13 rfl rfl, zw6 139 rfl rfl, ⟨zw6 138 rfl rfl, zw0 73 rfl rfl, by decide, Or.inr ⟨by decide, rfl⟩⟩⟩
theorem zmo_213 : zMok false zm_213 := ⟨rfl, zplain_of zpn_10, znm_10, zds_1, zw1 13 rfl rfl, zw6 143 rfl rfl, ⟨zw6 142 rfl rfl, zw0 74 rfl rfl, by decide, Or.inr ⟨by decide, rfl⟩⟩⟩
theorem zmo_214 : zMok false zm_214 := ⟨rfl, zplain_of zpn_10, znm_10, zds_11, zw1 13 rfl rfl, zw6 147 rfl rfl, ⟨zw6 146 rfl rfl, zw0 75 rfl rfl, by decide, Or.inr ⟨by decide, rfl⟩⟩⟩
theorem zmo_215 : zMok false zm_215 := ⟨rfl, zplain_of zpn_10, znm_10, zds_14, zw1 13 rfl rfl, zw6 135 rfl rfl, ⟨zw6 133 rfl rfl, zw6 134 rfl rfl, by decide, Or.inr ⟨by decide, rfl⟩⟩⟩
theorem zmo_216 : zMok false zm_216 := ⟨rfl, zplain_of zpn_10, znm_10, zds_8, zw1 13 rfl rfl, zw6 155 rfl rfl, ⟨zw6 154 rfl rfl, zw0 76 rfl rfl, by decide, Or.inr ⟨by decide, rfl⟩⟩⟩
theorem zmo_217 : zMok false zm_217 := ⟨rfl, zplain_of zpn_10, znm_10, zds_1, zw1 13 rfl rfl, zw6 151 rfl rfl, ⟨zw6 149 rfl rfl, zw6 150 rfl rfl, by decide, Or.inr ⟨by decide, rfl⟩⟩⟩
theorem zmo_218 : zMok true zm_218 := ⟨rfl, zplain_of zpn_10, znm_10, zds_8, zw1 13 rfl rfl, zw6 162 rfl rfl, zw6 161 rfl rfl⟩
theorem zmo_219 : zMok false zm_219 := ⟨rfl, zplain_of zpn_10, znm_10, zds_11, zw1 13 rfl rfl, zw6 159 rfl rfl, ⟨zw6 157 rfl rfl, zw6 158 rfl rfl, by decide, Or.inr ⟨by decide, rfl⟩⟩⟩
theorem zmo_220 : zMok false zm_220 := ⟨rfl, zplain_of zpn_10, znm_10, zds_1, zw1 13 rfl rfl, zw6 166 rfl rfl, ⟨zw6 164 rfl rfl, zw6 165 rfl rfl, by decide, Or.inr ⟨by decide, rfl⟩⟩⟩
theorem zmo_221 : zMok false zm_221 := ⟨rfl, zplain_of zpn_10, znm_10, zds_32, zw1 13 rfl rfl, zw6 174 rfl rfl, ⟨zw6 173 rfl rfl, zw0 77 rfl rfl, by decide, Or.inr ⟨by decide, rfl⟩⟩⟩
theorem zmo_222 : zMok false zm_222 := ⟨rfl, zplain_of zpn_10, znm_10, zds_8, zw1 13 rfl rfl, zw6 170 rfl rfl, ⟨zw6 168 rfl rfl, zw6 169 rfl rfl, by decide, Or.inr ⟨by decide, rfl⟩⟩⟩
theorem zmo_223 : zMok false zm_223 := ⟨rfl, zplain_of zpn_10, znm_10, zds_8, zw1 13 rfl rfl, zw6 178 rfl rfl, ⟨zw6 176 rfl rfl, zw6 177 rfl rfl, by decide, Or.inr ⟨by decide, rfl⟩⟩⟩
theorem zmo_224 : zMok false zm_224 := ⟨rfl, zplain_of zpn_10, znm_10, zds_26, zw1 13 rfl rfl, zw6 183 rfl rfl, ⟨zw6 181 rfl rfl, zw6 182 rfl rfl, by decide, Or.inr ⟨by decide, rfl⟩⟩⟩
theorem zmo_225 : zMok false zm_225 := ⟨rfl, zplain_of zpn_10, znm_10, zds_22, zw1 13 rfl rfl, zw6 192 rfl rfl, ⟨zw6 191 rfl rfl, zw0 78 rfl rfl, by decide, Or.inr ⟨by decide, rfl⟩⟩⟩
theorem zmo_226 : zMok false zm_226 := ⟨rfl, zplain_of zpn_10, znm_10, zds_22, zw1 13 rfl rfl, zw6 187 rfl rfl, ⟨zw6 185 rfl rfl, zw6 186 rfl rfl, by decide, Or.inr ⟨by decide, rfl⟩⟩⟩
theorem zmo_227 : zMok false zm_227 := ⟨rfl, zplain_of zpn_10, znm_10, zds_18, zw1 13 rfl rfl, zw6 199 rfl rfl, ⟨zw6 197 rfl rfl, zw6 198 rfl rfl, by decide, Or.inr ⟨by decide, rfl⟩⟩⟩
theorem zmo_228 : zMok false zm_228 := ⟨rfl, zplain_of zpn_10, znm_10, zds_1, zw1 13 rfl rfl, zw6 204 rfl rfl, ⟨zw6 202 rfl rfl, zw6 203 rfl rfl, by decide, Or.inr ⟨by decide, rfl⟩⟩⟩
theorem zmo_229 : zMok false zm_229 := ⟨rfl, zplain_of zpn_10, znm_10, zds_1, zw1 13 rfl rfl, zw6 208 rfl rfl, ⟨zw6 206 rfl rfl, zw6 207 rfl rfl, by decide, Or.inr ⟨by decide, rfl⟩⟩⟩
theorem zmo_230 : zMok false zm_230 := ⟨rfl, zplain_of zpn_10, znm_10, zds_8, zw1 13 rfl rfl, zw6 212 rfl rfl, ⟨zw6 210 rfl rfl, zw6 211 rfl rfl, by decide, Or.inr ⟨by decide, rfl⟩⟩⟩
theorem zq_0_9 : zcpOk 0 (9, 0, .null, [0, 1]) := ⟨_, _, _, rfl, by decide, zw1 204 rfl rfl⟩
theorem zq_0_15 : zcpOk 0 (15, 0, .null, [0, 0]) := ⟨_, _, _, rfl, by decide, zw1 203 rfl rfl⟩
theorem zq_0_19 : zcpOk 0 (19, 7, .null, [1, 2, 5, 1, 1]) := ⟨_, _, _, _, _, _, rfl, zmo_1, rfl, rfl, zw4 81 rfl rfl⟩
theorem zq_0_23 : zcpOk 0 (23, 7, .null, [0, 2, 2, 1, 7]) := ⟨_, _, _, _, _, _, rfl, zmo_0, rfl, rfl, zw4 85 rfl rfl⟩
theorem zq_0_28 : zcpOk 0 (28, 1, .null, [6, 7]) := ⟨_, _, _, rfl, by decide, zn1 59 rfl rfl⟩
theorem zq_0_31 : zcpOk 0 (31, 9, .null, [4, 2, 2, 1, 0]) := ⟨_, _, _, _, _, _, rfl, zmo_4, rfl, rfl, zn4 106 rfl rfl⟩
theorem zq_0_35 : zcpOk 0 (35, 7, .null, [2, 3, 4, 1, 1]) := ⟨_, _, _, _, _, _, rfl, zmo_2, rfl, rfl, zw4 107 rfl rfl⟩
theorem zq_0_39 : zcpOk 0 (39, 9, .null, [5, 3, 3, 0, 0]) := ⟨_, _, _, _, _, _, rfl, zmo_5, rfl, rfl, zn4 108 rfl rfl⟩
theorem zq_0_43 : zcpOk 0 (43, 7, .null, [6, 2, 3, 0, 1]) := ⟨_, _, _, _, _, _, rfl, zmo_6, rfl, rfl, zw4 102 rfl rfl⟩
theorem zq_0_47 : zcpOk 0 (47, 7, .null, [7, 3, 3, 1, 1]) := ⟨_, _, _, _, _, _, rfl, zmo_7, rfl, rfl, zw4 109 rfl rfl⟩
theorem zq_0_51 : zcpOk 0 (51, 8, .null, [11, 2, 4, 1, 0]) := ⟨_, _, _, _, _, _, rfl, zmo_11, rfl, rfl, zw4 234 rfl rfl⟩
theorem zq_0_54 : zcpOk 0 (54, 5, .long 7919, []) := ⟨_, rfl, zw4 237 rfl rfl⟩
theorem zq_0_56 : zcpOk 0 (56, 5, .long 6151, []) := ⟨_, rfl, zw4 238 rfl rfl⟩
theorem zq_0_58 : zcpOk 0 (58, 5, .long 65521, []) := ⟨_, rfl, zw4 239 rfl rfl⟩
theorem zq_0_60 : zcpOk 0 (60, 5, .long 1000, []) := ⟨_, rfl, zw5 0 rfl rfl⟩
set_option maxRecDepth 10000 in
theorem zqa_0 : ∀ q ∈ zcp_0, zcpOk 0 q := List.forall_mem_cons.mpr ⟨zq_0_9, List.forall_mem_cons.mpr ⟨zq_0_15, List.forall_mem_cons.mpr ⟨zq_0_19, List.forall_mem_cons.mpr ⟨zq_0_23, List.forall_mem_cons.mpr ⟨zq_0_28, List.forall_mem_cons.mpr ⟨zq_0_31, List.forall_mem_cons.mpr ⟨zq_0_35, List.forall_mem_cons.mpr ⟨zq_0_39, List.forall_mem_cons.mpr ⟨zq_0_43, List.forall_mem_cons.mpr ⟨zq_0_47, List.forall_mem_cons.mpr ⟨zq_0_51, List.forall_mem_cons.mpr ⟨zq_0_54, List.forall_mem_cons.mpr ⟨zq_0_56, List.forall_mem_cons.mpr ⟨zq_0_58, List.forall_mem_cons.mpr ⟨zq_0_60, fun _ h => absurd h List.not_mem_nil⟩⟩⟩⟩⟩⟩⟩⟩⟩⟩⟩⟩⟩⟩⟩
theorem zq_1_7 : zcpOk 1 (7, 0, .null, [1, 3]) := ⟨_, _, _, rfl, by decide, zw1 235 rfl rfl⟩
theorem zq_1_13 : zcpOk 1 (13, 0, .null, [1, 0]) := ⟨_, _, _, rfl, by decide, zw1 232 rfl rfl⟩
theorem zq_1_16 : zcpOk 1 (16, 0, .null, [1, 1]) := ⟨_, _, _, rfl, by decide, zw1 233 rfl rfl⟩
theorem zq_1_25 : zcpOk 1 (25, 0, .null, [1, 2]) := ⟨_, _, _, rfl, by decide, zw1 234 rfl rfl⟩
theorem zq_1_29 : zcpOk 1 (29, 7, .null, [15, 1, 2, 0, 2]) := ⟨_, _, _, _, _, _, rfl, zmo_15, rfl, rfl, zw3 133 rfl rfl⟩
theorem zq_1_32 : zcpOk 1 (32, 9, .null, [4, 2, 2, 1, 0]) := ⟨_, _, _, _, _, _, rfl, zmo_4, rfl, rfl, zn3 137 rfl rfl⟩
theorem zq_1_38 : zcpOk 1 (38, 9, .null, [5, 3, 3, 0, 0]) := ⟨_, _, _, _, _, _, rfl, zmo_5, rfl, rfl, zn3 138 rfl rfl⟩
set_option maxRecDepth 10000 in
theorem zqa_1 : ∀ q ∈ zcp_1, zcpOk 1 q := List.forall_mem_cons.mpr ⟨zq_1_7, List.forall_mem_cons.mpr ⟨zq_1_13, List.forall_mem_cons.mpr ⟨zq_1_16, List.forall_mem_cons.mpr ⟨zq_1_25, List.forall_mem_cons.mpr ⟨zq_1_29, List.forall_mem_cons.mpr ⟨zq_1_32, List.forall_mem_cons.mpr ⟨zq_1_38, fun _ h => absurd h List.not_mem_nil⟩⟩⟩⟩⟩⟩⟩
theorem zq_2_9 : zcpOk 2 (9, 0, .null, [2, 1]) := ⟨_, _, _, rfl, by decide, zw1 217 rfl rfl⟩
theorem zq_2_15 : zcpOk 2 (15, 0, .null, [2, 0]) := ⟨_, _, _, rfl, by decide, zw1 216 rfl rfl⟩
theorem zq_2_19 : zcpOk 2 (19, 9, .null, [4, 2, 2, 1, 0]) := ⟨_, _, _, _, _, _, rfl, zmo_4, rfl, rfl, zn4 160 rfl rfl⟩
theorem zq_2_23 : zcpOk 2 (23, 4, .int 1000000, []) := ⟨_, rfl, zw4 150 rfl rfl⟩
theorem zq_2_24 : zcpOk 2 (24, 8, .null, [19, 2, 4, 0, 0]) := ⟨_, _, _, _, _, _, rfl, zmo_19, rfl, rfl, zw4 151 rfl rfl⟩
theorem zq_2_30 : zcpOk 2 (30, 1, .null, [6, 9]) := ⟨_, _, _, rfl, by decide, zn1 65 rfl rfl⟩
theorem zq_2_36 : zcpOk 2 (36, 7, .null, [21, 4, 4, 0, 3]) := ⟨_, _, _, _, _, _, rfl, zmo_21, rfl, rfl, zw4 152 rfl rfl⟩
theorem zq_2_40 : zcpOk 2 (40, 1, .null, [6, 13]) := ⟨_, _, _, rfl, by decide, zn1 74 rfl rfl⟩
theorem zq_2_43 : zcpOk 2 (43, 1, .null, [6, 10]) := ⟨_, _, _, rfl, by decide, zn1 68 rfl rfl⟩
theorem zq_2_46 : zcpOk 2 (46, 1, .null, [6, 11]) := ⟨_, _, _, rfl, by decide, zn1 70 rfl rfl⟩
theorem zq_2_49 : zcpOk 2 (49, 1, .null, [6, 12]) := ⟨_, _, _, rfl, by decide, zn1 72 rfl rfl⟩
theorem zq_2_52 : zcpOk 2 (52, 7, .null, [20, 3, 3, 1, 3]) := ⟨_, _, _, _, _, _, rfl, zmo_20, rfl, rfl, zw4 156 rfl rfl⟩
theorem zq_2_56 : zcpOk 2 (56, 9, .null, [5, 3, 3, 0, 0]) := ⟨_, _, _, _, _, _, rfl, zmo_5, rfl, rfl, zn4 161 rfl rfl⟩
theorem zq_2_60 : zcpOk 2 (60, 7, .null, [23, 3, 3, 1, 3]) := ⟨_, _, _, _, _, _, rfl, zmo_23, rfl, rfl, zw4 167 rfl rfl⟩
theorem zq_2_63 : zcpOk 2 (63, 8, .null, [18, 2, 2, 1, 0]) := ⟨_, _, _, _, _, _, rfl, zmo_18, rfl, rfl, zw4 171 rfl rfl⟩
theorem zq_2_67 : zcpOk 2 (67, 1, .null, [6, 8]) := ⟨_, _, _, rfl, by decide, zn1 62 rfl rfl⟩
theorem zq_2_70 : zcpOk 2 (70, 7, .null, [24, 4, 4, 1, 3]) := ⟨_, _, _, _, _, _, rfl, zmo_24, rfl, rfl, zw4 180 rfl rfl⟩
theorem zq_2_74 : zcpOk 2 (74, 8, .null, [26, 1, 1, 1, 0]) := ⟨_, _, _, _, _, _, rfl, zmo_26, rfl, rfl, zw4 189 rfl rfl⟩
theorem zq_2_80 : zcpOk 2 (80, 1, .null, [6, 14]) := ⟨_, _, _, rfl, by decide, zn1 77 rfl rfl⟩
theorem zq_2_83 : zcpOk 2 (83, 7, .null, [25, 2, 5, 1, 3]) := ⟨_, _, _, _, _, _, rfl, zmo_25, rfl, rfl, zw4 195 rfl rfl⟩
set_option maxRecDepth 10000 in
theorem zqa_2 : ∀ q ∈ zcp_2, zcpOk 2 q := List.forall_mem_cons.mpr ⟨zq_2_9, List.forall_mem_cons.mpr ⟨zq_2_15, List.forall_mem_cons.mpr ⟨zq_2_19, List.forall_mem_cons.mpr ⟨zq_2_23, List.forall_mem_cons.mpr ⟨zq_2_24, List.forall_mem_cons.mpr ⟨zq_2_30, List.forall_mem_cons.mpr ⟨zq_2_36, List.forall_mem_cons.mpr ⟨zq_2_40, List.forall_mem_cons.mpr ⟨zq_2_43, List.forall_mem_cons.mpr ⟨zq_2_46, List.forall_mem_cons.mpr ⟨zq_2_49, List.forall_mem_cons.mpr ⟨zq_2_52, List.forall_mem_cons.mpr ⟨zq_2_56, List.forall_mem_cons.mpr ⟨zq_2_60, List.forall_mem_cons.mpr ⟨zq_2_63, List.forall_mem_cons.mpr ⟨zq_2_67, List.forall_mem_cons.mpr ⟨zq_2_70, List.forall_mem_cons.mpr ⟨zq_2_74, List.forall_mem_cons.mpr ⟨zq_2_80, List.forall_mem_cons.mpr ⟨zq_2_83, fun _ h => absurd h List.not_mem_nil⟩⟩⟩⟩⟩⟩⟩⟩⟩⟩⟩⟩⟩⟩⟩⟩⟩⟩⟩⟩
theorem zq_3_9 : zcpOk 3 (9, 0, .null, [3, 0]) := ⟨_, _, _, rfl, by decide, zw1 117 rfl rfl⟩
theorem zq_3_15 : zcpOk 3 (15, 0, .null, [3, 1]) := ⟨_, _, _, rfl, by decide, zw1 118 rfl rfl⟩
theorem zq_3_19 : zcpOk 3 (19, 0, .null, [3, 2]) := ⟨_, _, _, rfl, by decide, zw1 120 rfl rfl⟩
theorem zq_3_23 : zcpOk 3 (23, 7, .null, [32, 1, 1, 0, 7]) := ⟨_, _, _, _, _, _, rfl, zmo_32, rfl, rfl, zw2 119 rfl rfl⟩
theorem zq_3_28 : zcpOk 3 (28, 7, .null, [55, 3, 11, 1, 4]) := ⟨_, _, _, _, _, _, rfl, zmo_55, rfl, rfl, zw2 120 rfl rfl⟩
theorem zq_3_32 : zcpOk 3 (32, 7, .null, [33, 2, 2, 1, 4]) := ⟨_, _, _, _, _, _, rfl, zmo_33, rfl, rfl, zw2 124 rfl rfl⟩
theorem zq_3_36 : zcpOk 3 (36, 6, .ref 69, []) := ⟨rfl, rfl, rfl⟩
theorem zq_3_38 : zcpOk 3 (38, 7, .null, [42, 2, 2, 1, 12]) := ⟨_, _, _, _, _, _, rfl, zmo_42, rfl, rfl, zw2 129 rfl rfl⟩
theorem zq_3_44 : zcpOk 3 (44, 2, .ref 64, [1]) := ⟨_, _, _, rfl, zw2 213 rfl rfl⟩
theorem zq_3_47 : zcpOk 3 (47, 9, .null, [4, 2, 2, 1, 0]) := ⟨_, _, _, _, _, _, rfl, zmo_4, rfl, rfl, zn2 215 rfl rfl⟩
theorem zq_3_51 : zcpOk 3 (51, 7, .null, [44, 2, 2, 1, 4]) := ⟨_, _, _, _, _, _, rfl, zmo_44, rfl, rfl, zw2 218 rfl rfl⟩
theorem zq_3_54 : zcpOk 3 (54, 7, .null, [45, 3, 5, 1, 4]) := ⟨_, _, _, _, _, _, rfl, zmo_45, rfl, rfl, zw2 225 rfl rfl⟩
theorem zq_3_58 : zcpOk 3 (58, 2, .ref 65, [2]) := ⟨_, _, _, rfl, zw2 229 rfl rfl⟩
theorem zq_3_61 : zcpOk 3 (61, 2, .ref 66, [3]) := ⟨_, _, _, rfl, zw2 231 rfl rfl⟩
theorem zq_3_64 : zcpOk 3 (64, 9, .null, [46, 3, 3, 1, 0]) := ⟨_, _, _, _, _, _, rfl, zmo_46, rfl, rfl, zn2 233 rfl rfl⟩
theorem zq_3_68 : zcpOk 3 (68, 9, .null, [5, 3, 3, 0, 0]) := ⟨_, _, _, _, _, _, rfl, zmo_5, rfl, rfl, zn2 234 rfl rfl⟩
theorem zq_3_72 : zcpOk 3 (72, 7, .null, [54, 3, 5, 1, 7]) := ⟨_, _, _, _, _, _, rfl, zmo_54, rfl, rfl, zw2 235 rfl rfl⟩
theorem zq_3_76 : zcpOk 3 (76, 8, .null, [43, 1, 1, 1, 0]) := ⟨_, _, _, _, _, _, rfl, zmo_43, rfl, rfl, zw2 222 rfl rfl⟩
set_option maxRecDepth 10000 in
theorem zqa_3 : ∀ q ∈ zcp_3, zcpOk 3 q := List.forall_mem_cons.mpr ⟨zq_3_9, List.forall_mem_cons.mpr ⟨zq_3_15, List.forall_mem_cons.mpr ⟨zq_3_19, List.forall_mem_cons.mpr ⟨zq_3_23, List.forall_mem_cons.mpr ⟨zq_3_28, List.forall_mem_cons.mpr ⟨zq_3_32, List.forall_mem_cons.mpr ⟨zq_3_36, List.forall_mem_cons.mpr ⟨zq_3_38, List.forall_mem_cons.mpr ⟨zq_3_44, List.forall_mem_cons.mpr ⟨zq_3_47, List.forall_mem_cons.mpr ⟨zq_3_51, List.forall_mem_cons.mpr ⟨zq_3_54, List.forall_mem_cons.mpr ⟨zq_3_58, List.forall_mem_cons.mpr ⟨zq_3_61, List.forall_mem_cons.mpr ⟨zq_3_64, List.forall_mem_cons.mpr ⟨zq_3_68, List.forall_mem_cons.mpr ⟨zq_3_72, List.forall_mem_cons.mpr ⟨zq_3_76, fun _ h => absurd h List.not_mem_nil⟩⟩⟩⟩⟩⟩⟩⟩⟩⟩⟩⟩⟩⟩⟩⟩⟩⟩
theorem zq_4_11 : zcpOk 4 (11, 0, .null, [4, 2]) := ⟨_, _, _, rfl, by decide, zw1 179 rfl rfl⟩
theorem zq_4_15 : zcpOk 4 (15, 0, .null, [4, 0]) := ⟨_, _, _, rfl, by decide, zw1 177 rfl rfl⟩
theorem zq_4_19 : zcpOk 4 (19, 0, .null, [4, 1]) := ⟨_, _, _, rfl, by decide, zw1 178 rfl rfl⟩
theorem zq_4_23 : zcpOk 4 (23, 4, .int 1000000, []) := ⟨_, rfl, zw3 227 rfl rfl⟩
theorem zq_4_24 : zcpOk 4 (24, 8, .null, [19, 2, 4, 0, 0]) := ⟨_, _, _, _, _, _, rfl, zmo_19, rfl, rfl, zw3 228 rfl rfl⟩
theorem zq_4_30 : zcpOk 4 (30, 7, .null, [0, 2, 2, 1, 7]) := ⟨_, _, _, _, _, _, rfl, zmo_0, rfl, rfl, zw3 229 rfl rfl⟩
theorem zq_4_36 : zcpOk 4 (36, 9, .null, [5, 3, 3, 0, 0]) := ⟨_, _, _, _, _, _, rfl, zmo_5, rfl, rfl, zn3 230 rfl rfl⟩
theorem zq_4_40 : zcpOk 4 (40, 1, .null, [6, 2]) := ⟨_, _, _, rfl, by decide, zn1 44 rfl rfl⟩
theorem zq_4_44 : zcpOk 4 (44, 7, .null, [57, 3, 3, 1, 6]) := ⟨_, _, _, _, _, _, rfl, zmo_57, rfl, rfl, zw3 231 rfl rfl⟩
theorem zq_4_50 : zcpOk 4 (50, 7, .null, [63, 3, 6, 0, 6]) := ⟨_, _, _, _, _, _, rfl, zmo_63, rfl, rfl, zw3 232 rfl rfl⟩
theorem zq_4_54 : zcpOk 4 (54, 7, .null, [65, 1, 3, 1, 5]) := ⟨_, _, _, _, _, _, rfl, zmo_65, rfl, rfl, zw3 233 rfl rfl⟩
theorem zq_4_58 : zcpOk 4 (58, 8, .null, [38, 2, 2, 1, 0]) := ⟨_, _, _, _, _, _, rfl, zmo_38, rfl, rfl, zw4 2 rfl rfl⟩
theorem zq_4_64 : zcpOk 4 (64, 7, .null, [70, 5, 9, 0, 5]) := ⟨_, _, _, _, _, _, rfl, zmo_70, rfl, rfl, zw4 3 rfl rfl⟩
theorem zq_4_68 : zcpOk 4 (68, 7, .null, [71, 1, 3, 1, 5]) := ⟨_, _, _, _, _, _, rfl, zmo_71, rfl, rfl, zw4 17 rfl rfl⟩
theorem zq_4_71 : zcpOk 4 (71, 7, .null, [72, 2, 4, 1, 5]) := ⟨_, _, _, _, _, _, rfl, zmo_72, rfl, rfl, zw4 22 rfl rfl⟩
theorem zq_4_74 : zcpOk 4 (74, 1, .null, [5, 1]) := ⟨_, _, _, rfl, by decide, zn1 137 rfl rfl⟩
theorem zq_4_77 : zcpOk 4 (77, 9, .null, [4, 2, 2, 1, 0]) := ⟨_, _, _, _, _, _, rfl, zmo_4, rfl, rfl, zn4 1 rfl rfl⟩
theorem zq_4_81 : zcpOk 4 (81, 1, .null, [5, 2]) := ⟨_, _, _, rfl, by decide, zn1 140 rfl rfl⟩
theorem zq_4_84 : zcpOk 4 (84, 7, .null, [64, 2, 2, 1, 5]) := ⟨_, _, _, _, _, _, rfl, zmo_64, rfl, rfl, zw3 237 rfl rfl⟩
theorem zq_4_88 : zcpOk 4 (88, 8, .null, [13, 2, 2, 1, 0]) := ⟨_, _, _, _, _, _, rfl, zmo_13, rfl, rfl, zw4 21 rfl rfl⟩
theorem zq_4_91 : zcpOk 4 (91, 7, .null, [66, 2, 4, 1, 5]) := ⟨_, _, _, _, _, _, rfl, zmo_66, rfl, rfl, zw4 7 rfl rfl⟩
theorem zq_4_94 : zcpOk 4 (94, 7, .null, [69, 5, 11, 0, 5]) := ⟨_, _, _, _, _, _, rfl, zmo_69, rfl, rfl, zw4 11 rfl rfl⟩
theorem zq_4_98 : zcpOk 4 (98, 8, .null, [67, 1, 1, 1, 0]) := ⟨_, _, _, _, _, _, rfl, zmo_67, rfl, rfl, zw4 15 rfl rfl⟩
theorem zq_4_101 : zcpOk 4 (101, 8, .null, [68, 1, 1, 1, 0]) := ⟨_, _, _, _, _, _, rfl, zmo_68, rfl, rfl, zw4 16 rfl rfl⟩
set_option maxRecDepth 10000 in
theorem zqa_4 : ∀ q ∈ zcp_4, zcpOk 4 q := List.forall_mem_cons.mpr ⟨zq_4_11, List.forall_mem_cons.mpr ⟨zq_4_15, List.forall_mem_cons.mpr ⟨zq_4_19, List.forall_mem_cons.mpr ⟨zq_4_23, List.forall_mem_cons.mpr ⟨zq_4_24, List.forall_mem_cons.mpr ⟨zq_4_30, List.forall_mem_cons.mpr ⟨zq_4_36, List.forall_mem_cons.mpr ⟨zq_4_40, List.forall_mem_cons.mpr ⟨zq_4_44, List.forall_mem_cons.mpr ⟨zq_4_50, List.forall_mem_cons.mpr ⟨zq_4_54, List.forall_mem_cons.mpr ⟨zq_4_58, List.forall_mem_cons.mpr ⟨zq_4_64, List.forall_mem_cons.mpr ⟨zq_4_68, List.forall_mem_cons.mpr ⟨zq_4_71, List.forall_mem_cons.mpr ⟨zq_4_74, List.forall_mem_cons.mpr ⟨zq_4_77, List.forall_mem_cons.mpr ⟨zq_4_81, List.forall_mem_cons.mpr ⟨zq_4_84, List.forall_mem_cons.mpr ⟨zq_4_88, List.forall_mem_cons.mpr ⟨zq_4_91, List.forall_mem_cons.mpr ⟨zq_4_94, List.forall_mem_cons.mpr ⟨zq_4_98, List.forall_mem_cons.mpr ⟨zq_4_101, fun _ h => absurd h List.not_mem_nil⟩⟩⟩⟩⟩⟩⟩⟩⟩⟩⟩⟩⟩⟩⟩⟩⟩⟩⟩⟩⟩⟩⟩⟩
theorem zq_5_9 : zcpOk 5 (9, 0, .null, [5, 1]) := ⟨_, _, _, rfl, by decide, zw1 136 rfl rfl⟩
theorem zq_5_15 : zcpOk 5 (15, 0, .null, [5, 2]) := ⟨_, _, _, rfl, by decide, zw1 139 rfl rfl⟩
theorem zq_5_18 : zcpOk 5 (18, 0, .null, [5, 0]) := ⟨_, _, _, rfl, by decide, zw1 135 rfl rfl⟩
theorem zq_5_22 : zcpOk 5 (22, 1, .null, [6, 2]) := ⟨_, _, _, rfl, by decide, zn1 42 rfl rfl⟩
theorem zq_5_28 : zcpOk 5 (28, 7, .null, [58, 1, 1, 1, 7]) := ⟨_, _, _, _, _, _, rfl, zmo_58, rfl, rfl, zw3 117 rfl rfl⟩
theorem zq_5_32 : zcpOk 5 (32, 7, .null, [60, 5, 6, 1, 6]) := ⟨_, _, _, _, _, _, rfl, zmo_60, rfl, rfl, zw3 118 rfl rfl⟩
theorem zq_5_36 : zcpOk 5 (36, 7, .null, [61, 4, 5, 1, 6]) := ⟨_, _, _, _, _, _, rfl, zmo_61, rfl, rfl, zw3 119 rfl rfl⟩
theorem zq_5_40 : zcpOk 5 (40, 4, .int 1000000, []) := ⟨_, rfl, zw3 186 rfl rfl⟩
theorem zq_5_41 : zcpOk 5 (41, 9, .null, [5, 3, 3, 0, 0]) := ⟨_, _, _, _, _, _, rfl, zmo_5, rfl, rfl, zn3 108 rfl rfl⟩
theorem zq_5_45 : zcpOk 5 (45, 7, .null, [62, 4, 5, 1, 6]) := ⟨_, _, _, _, _, _, rfl, zmo_62, rfl, rfl, zw3 124 rfl rfl⟩
theorem zq_5_49 : zcpOk 5 (49, 2, .ref 68, [5]) := ⟨_, _, _, rfl, zw3 89 rfl rfl⟩
theorem zq_5_52 : zcpOk 5 (52, 9, .null, [4, 2, 2, 1, 0]) := ⟨_, _, _, _, _, _, rfl, zmo_4, rfl, rfl, zn3 71 rfl rfl⟩
theorem zq_5_56 : zcpOk 5 (56, 1, .null, [6, 0]) := ⟨_, _, _, rfl, by decide, zn1 35 rfl rfl⟩
theorem zq_5_59 : zcpOk 5 (59, 2, .ref 67, [4]) := ⟨_, _, _, rfl, zw3 72 rfl rfl⟩
theorem zq_5_62 : zcpOk 5 (62, 7, .null, [0, 2, 2, 1, 7]) := ⟨_, _, _, _, _, _, rfl, zmo_0, rfl, rfl, zw3 74 rfl rfl⟩
theorem zq_5_66 : zcpOk 5 (66, 9, .null, [59, 2, 2, 1, 0]) := ⟨_, _, _, _, _, _, rfl, zmo_59, rfl, rfl, zn3 75 rfl rfl⟩
theorem zq_5_70 : zcpOk 5 (70, 7, .null, [74, 2, 3, 1, 6]) := ⟨_, _, _, _, _, _, rfl, zmo_74, rfl, rfl, zw3 104 rfl rfl⟩
theorem zq_5_74 : zcpOk 5 (74, 7, .null, [76, 3, 7, 1, 6]) := ⟨_, _, _, _, _, _, rfl, zmo_76, rfl, rfl, zw3 109 rfl rfl⟩
theorem zq_5_78 : zcpOk 5 (78, 7, .null, [57, 3, 3, 1, 6]) := ⟨_, _, _, _, _, _, rfl, zmo_57, rfl, rfl, zw3 113 rfl rfl⟩
theorem zq_5_82 : zcpOk 5 (82, 8, .null, [67, 1, 1, 1, 0]) := ⟨_, _, _, _, _, _, rfl, zmo_67, rfl, rfl, zw3 120 rfl rfl⟩
theorem zq_5_85 : zcpOk 5 (85, 8, .null, [68, 1, 1, 1, 0]) := ⟨_, _, _, _, _, _, rfl, zmo_68, rfl, rfl, zw3 123 rfl rfl⟩
theorem zq_5_88 : zcpOk 5 (88, 7, .null, [75, 3, 4, 0, 6]) := ⟨_, _, _, _, _, _, rfl, zmo_75, rfl, rfl, zw3 125 rfl rfl⟩
set_option maxRecDepth 10000 in
theorem zqa_5 : ∀ q ∈ zcp_5, zcpOk 5 q := List.forall_mem_cons.mpr ⟨zq_5_9, List.forall_mem_cons.mpr ⟨zq_5_15, List.forall_mem_cons.mpr ⟨zq_5_18, List.forall_mem_cons.mpr ⟨zq_5_22, List.forall_mem_cons.mpr ⟨zq_5_28, List.forall_mem_cons.mpr ⟨zq_5_32, List.forall_mem_cons.mpr ⟨zq_5_36, List.forall_mem_cons.mpr ⟨zq_5_40, List.forall_mem_cons.mpr ⟨zq_5_41, List.forall_mem_cons.mpr ⟨zq_5_45, List.forall_mem_cons.mpr ⟨zq_5_49, List.forall_mem_cons.mpr ⟨zq_5_52, List.forall_mem_cons.mpr ⟨zq_5_56, List.forall_mem_cons.mpr ⟨zq_5_59, List.forall_mem_cons.mpr ⟨zq_5_62, List.forall_mem_cons.mpr ⟨zq_5_66, List.forall_mem_cons.mpr ⟨zq_5_70, List.forall_mem_cons.mpr ⟨zq_5_74, List.forall_mem_cons.mpr ⟨zq_5_78, List.forall_mem_cons.mpr ⟨zq_5_82, List.forall_mem_cons.mpr ⟨zq_5_85, List.forall_mem_cons.mpr ⟨zq_5_88, fun _ h => absurd h List.not_mem_nil⟩⟩⟩⟩⟩⟩⟩⟩⟩⟩⟩⟩⟩⟩⟩⟩⟩⟩⟩⟩⟩⟩
theorem zq_6_9 : zcpOk 6 (9, 0, .null, [6, 0]) := ⟨_, _, _, rfl, by decide, zw1 34 rfl rfl⟩
theorem zq_6_15 : zcpOk 6 (15, 0, .null, [6, 1]) := ⟨_, _, _, rfl, by decide, zw1 38 rfl rfl⟩
theorem zq_6_18 : zcpOk 6 (18, 0, .null, [6, 2]) := ⟨_, _, _, rfl, by decide, zw1 41 rfl rfl⟩
theorem zq_6_22 : zcpOk 6 (22, 0, .null, [6, 3]) := ⟨_, _, _, rfl, by decide, zw1 47 rfl rfl⟩
theorem zq_6_25 : zcpOk 6 (25, 0, .null, [6, 4]) := ⟨_, _, _, rfl, by decide, zw1 49 rfl rfl⟩
theorem zq_6_28 : zcpOk 6 (28, 0, .null, [6, 5]) := ⟨_, _, _, rfl, by decide, zw1 52 rfl rfl⟩
theorem zq_6_31 : zcpOk 6 (31, 0, .null, [6, 6]) := ⟨_, _, _, rfl, by decide, zw1 55 rfl rfl⟩
theorem zq_6_34 : zcpOk 6 (34, 0, .null, [6, 7]) := ⟨_, _, _, rfl, by decide, zw1 58 rfl rfl⟩
theorem zq_6_37 : zcpOk 6 (37, 0, .null, [6, 8]) := ⟨_, _, _, rfl, by decide, zw1 61 rfl rfl⟩
theorem zq_6_40 : zcpOk 6 (40, 0, .null, [6, 9]) := ⟨_, _, _, rfl, by decide, zw1 64 rfl rfl⟩
theorem zq_6_43 : zcpOk 6 (43, 0, .null, [6, 10]) := ⟨_, _, _, rfl, by decide, zw1 67 rfl rfl⟩
theorem zq_6_46 : zcpOk 6 (46, 0, .null, [6, 11]) := ⟨_, _, _, rfl, by decide, zw1 69 rfl rfl⟩
theorem zq_6_49 : zcpOk 6 (49, 0, .null, [6, 12]) := ⟨_, _, _, rfl, by decide, zw1 71 rfl rfl⟩
theorem zq_6_52 : zcpOk 6 (52, 0, .null, [6, 13]) := ⟨_, _, _, rfl, by decide, zw1 73 rfl rfl⟩
theorem zq_6_55 : zcpOk 6 (55, 0, .null, [6, 14]) := ⟨_, _, _, rfl, by decide, zw1 76 rfl rfl⟩
theorem zq_6_58 : zcpOk 6 (58, 8, .null, [19, 2, 4, 0, 0]) := ⟨_, _, _, _, _, _, rfl, zmo_19, rfl, rfl, zw2 10 rfl rfl⟩
theorem zq_6_64 : zcpOk 6 (64, 2, .ref 63, [0]) := ⟨_, _, _, rfl, zw2 13 rfl rfl⟩
theorem zq_6_67 : zcpOk 6 (67, 9, .null, [31, 2, 3, 0, 0]) := ⟨_, _, _, _, _, _, rfl, zmo_31, rfl, rfl, zn2 15 rfl rfl⟩
theorem zq_6_71 : zcpOk 6 (71, 7, .null, [0, 2, 2, 1, 7]) := ⟨_, _, _, _, _, _, rfl, zmo_0, rfl, rfl, zw3 43 rfl rfl⟩
theorem zq_6_75 : zcpOk 6 (75, 9, .null, [4, 2, 2, 1, 0]) := ⟨_, _, _, _, _, _, rfl, zmo_4, rfl, rfl, zn2 239 rfl rfl⟩
theorem zq_6_79 : zcpOk 6 (79, 7, .null, [47, 3, 3, 1, 7]) := ⟨_, _, _, _, _, _, rfl, zmo_47, rfl, rfl, zw3 0 rfl rfl⟩
theorem zq_6_83 : zcpOk 6 (83, 7, .null, [48, 4, 5, 1, 7]) := ⟨_, _, _, _, _, _, rfl, zmo_48, rfl, rfl, zw3 1 rfl rfl⟩
theorem zq_6_87 : zcpOk 6 (87, 7, .null, [49, 3, 3, 1, 7]) := ⟨_, _, _, _, _, _, rfl, zmo_49, rfl, rfl, zw3 5 rfl rfl⟩
theorem zq_6_90 : zcpOk 6 (90, 7, .null, [50, 3, 3, 1, 7]) := ⟨_, _, _, _, _, _, rfl, zmo_50, rfl, rfl, zw3 9 rfl rfl⟩
theorem zq_6_93 : zcpOk 6 (93, 7, .null, [51, 2, 2, 1, 7]) := ⟨_, _, _, _, _, _, rfl, zmo_51, rfl, rfl, zw3 13 rfl rfl⟩
theorem zq_6_97 : zcpOk 6 (97, 7, .null, [52, 4, 4, 1, 7]) := ⟨_, _, _, _, _, _, rfl, zmo_52, rfl, rfl, zw3 17 rfl rfl⟩
theorem zq_6_101 : zcpOk 6 (101, 7, .null, [53, 2, 2, 1, 7]) := ⟨_, _, _, _, _, _, rfl, zmo_53, rfl, rfl, zw3 21 rfl rfl⟩
theorem zq_6_104 : zcpOk 6 (104, 9, .null, [5, 3, 3, 0, 0]) := ⟨_, _, _, _, _, _, rfl, zmo_5, rfl, rfl, zn2 22 rfl rfl⟩
set_option maxRecDepth 10000 in
theorem zqa_6 : ∀ q ∈ zcp_6, zcpOk 6 q := List.forall_mem_cons.mpr ⟨zq_6_9, List.forall_mem_cons.mpr ⟨zq_6_15, List.forall_mem_cons.mpr ⟨zq_6_18, List.forall_mem_cons.mpr ⟨zq_6_22, List.forall_mem_cons.mpr ⟨zq_6_25, List.forall_mem_cons.mpr ⟨zq_6_28, List.forall_mem_cons.mpr ⟨zq_6_31, List.forall_mem_cons.mpr ⟨zq_6_34, List.forall_mem_cons.mpr ⟨zq_6_37, List.forall_mem_cons.mpr ⟨zq_6_40, List.forall_mem_cons.mpr ⟨zq_6_43, List.forall_mem_cons.mpr ⟨zq_6_46, List.forall_mem_cons.mpr ⟨zq_6_49, List.forall_mem_cons.mpr ⟨zq_6_52, List.forall_mem_cons.mpr ⟨zq_6_55, List.forall_mem_cons.mpr ⟨zq_6_58, List.forall_mem_cons.mpr ⟨zq_6_64, List.forall_mem_cons.mpr ⟨zq_6_67, List.forall_mem_cons.mpr ⟨zq_6_71, List.forall_mem_cons.mpr ⟨zq_6_75, List.forall_mem_cons.mpr ⟨zq_6_79, List.forall_mem_cons.mpr ⟨zq_6_83, List.forall_mem_cons.mpr ⟨zq_6_87, List.forall_mem_cons.mpr ⟨zq_6_90, List.forall_mem_cons.mpr ⟨zq_6_93, List.forall_mem_cons.mpr ⟨zq_6_97, List.forall_mem_cons.mpr ⟨zq_6_101, List.forall_mem_cons.mpr ⟨zq_6_104, fun _ h => absurd h List.not_mem_nil⟩⟩⟩⟩⟩⟩⟩⟩⟩⟩⟩⟩⟩⟩⟩⟩⟩⟩⟩⟩⟩⟩⟩⟩⟩⟩⟩⟩
theorem zq_7_9 : zcpOk 7 (9, 0, .null, [7, 0]) := ⟨_, _, _, rfl, by decide, zw1 193 rfl rfl⟩
theorem zq_7_15 : zcpOk 7 (15, 7, .null, [80, 3, 12, 1, 8]) := ⟨_, _, _, _, _, _, rfl, zmo_80, rfl, rfl, zw4 34 rfl rfl⟩
theorem zq_7_19 : zcpOk 7 (19, 8, .null, [38, 2, 2, 1, 0]) := ⟨_, _, _, _, _, _, rfl, zmo_38, rfl, rfl, zw4 46 rfl rfl⟩
theorem zq_7_25 : zcpOk 7 (25, 1, .null, [6, 6]) := ⟨_, _, _, rfl, by decide, zn1 56 rfl rfl⟩
theorem zq_7_31 : zcpOk 7 (31, 7, .null, [81, 2, 2, 1, 8]) := ⟨_, _, _, _, _, _, rfl, zmo_81, rfl, rfl, zw4 60 rfl rfl⟩
theorem zq_7_35 : zcpOk 7 (35, 1, .null, [6, 4]) := ⟨_, _, _, rfl, by decide, zn1 50 rfl rfl⟩
theorem zq_7_39 : zcpOk 7 (39, 9, .null, [4, 2, 2, 1, 0]) := ⟨_, _, _, _, _, _, rfl, zmo_4, rfl, rfl, zn4 38 rfl rfl⟩
theorem zq_7_43 : zcpOk 7 (43, 7, .null, [0, 2, 2, 1, 7]) := ⟨_, _, _, _, _, _, rfl, zmo_0, rfl, rfl, zw4 39 rfl rfl⟩
theorem zq_7_46 : zcpOk 7 (46, 7, .null, [58, 1, 1, 1, 7]) := ⟨_, _, _, _, _, _, rfl, zmo_58, rfl, rfl, zw4 40 rfl rfl⟩
theorem zq_7_50 : zcpOk 7 (50, 1, .null, [6, 2]) := ⟨_, _, _, rfl, by decide, zn1 46 rfl rfl⟩
theorem zq_7_53 : zcpOk 7 (53, 7, .null, [79, 3, 4, 1, 8]) := ⟨_, _, _, _, _, _, rfl, zmo_79, rfl, rfl, zw4 41 rfl rfl⟩
theorem zq_7_56 : zcpOk 7 (56, 9, .null, [59, 2, 2, 1, 0]) := ⟨_, _, _, _, _, _, rfl, zmo_59, rfl, rfl, zn4 45 rfl rfl⟩
theorem zq_7_59 : zcpOk 7 (59, 8, .null, [13, 2, 2, 1, 0]) := ⟨_, _, _, _, _, _, rfl, zmo_13, rfl, rfl, zw4 47 rfl rfl⟩
theorem zq_7_62 : zcpOk 7 (62, 1, .null, [6, 1]) := ⟨_, _, _, rfl, by decide, zn1 39 rfl rfl⟩
theorem zq_7_65 : zcpOk 7 (65, 1, .null, [6, 0]) := ⟨_, _, _, rfl, by decide, zn1 36 rfl rfl⟩
theorem zq_7_68 : zcpOk 7 (68, 1, .null, [6, 5]) := ⟨_, _, _, rfl, by decide, zn1 53 rfl rfl⟩
theorem zq_7_71 : zcpOk 7 (71, 8, .null, [84, 2, 4, 1, 0]) := ⟨_, _, _, _, _, _, rfl, zmo_84, rfl, rfl, zw4 70 rfl rfl⟩
set_option maxRecDepth 10000 in
theorem zqa_7 : ∀ q ∈ zcp_7, zcpOk 7 q := List.forall_mem_cons.mpr ⟨zq_7_9, List.forall_mem_cons.mpr ⟨zq_7_15, List.forall_mem_cons.mpr ⟨zq_7_19, List.forall_mem_cons.mpr ⟨zq_7_25, List.forall_mem_cons.mpr ⟨zq_7_31, List.forall_mem_cons.mpr ⟨zq_7_35, List.forall_mem_cons.mpr ⟨zq_7_39, List.forall_mem_cons.mpr ⟨zq_7_43, List.forall_mem_cons.mpr ⟨zq_7_46, List.forall_mem_cons.mpr ⟨zq_7_50, List.forall_mem_cons.mpr ⟨zq_7_53, List.forall_mem_cons.mpr ⟨zq_7_56, List.forall_mem_cons.mpr ⟨zq_7_59, List.forall_mem_cons.mpr ⟨zq_7_62, List.forall_mem_cons.mpr ⟨zq_7_65, List.forall_mem_cons.mpr ⟨zq_7_68, List.forall_mem_cons.mpr ⟨zq_7_71, fun _ h => absurd h List.not_mem_nil⟩⟩⟩⟩⟩⟩⟩⟩⟩⟩⟩⟩⟩⟩⟩⟩⟩
theorem zq_8_9 : zcpOk 8 (9, 0, .null, [8, 2]) := ⟨_, _, _, rfl, by decide, zw1 157 rfl rfl⟩
theorem zq_8_15 : zcpOk 8 (15, 0, .null, [8, 3]) := ⟨_, _, _, rfl, by decide, zw1 158 rfl rfl⟩
theorem zq_8_18 : zcpOk 8 (18, 0, .null, [8, 4]) := ⟨_, _, _, rfl, by decide, zw1 159 rfl rfl⟩
theorem zq_8_21 : zcpOk 8 (21, 0, .null, [8, 0]) := ⟨_, _, _, rfl, by decide, zw1 155 rfl rfl⟩
theorem zq_8_25 : zcpOk 8 (25, 0, .null, [8, 1]) := ⟨_, _, _, rfl, by decide, zw1 156 rfl rfl⟩
theorem zq_8_29 : zcpOk 8 (29, 7, .null, [0, 2, 2, 1, 7]) := ⟨_, _, _, _, _, _, rfl, zmo_0, rfl, rfl, zw3 175 rfl rfl⟩
theorem zq_8_35 : zcpOk 8 (35, 8, .null, [19, 2, 4, 0, 0]) := ⟨_, _, _, _, _, _, rfl, zmo_19, rfl, rfl, zw3 176 rfl rfl⟩
theorem zq_8_41 : zcpOk 8 (41, 1, .null, [6, 2]) := ⟨_, _, _, rfl, by decide, zn1 43 rfl rfl⟩
theorem zq_8_45 : zcpOk 8 (45, 7, .null, [87, 4, 5, 0, 9]) := ⟨_, _, _, _, _, _, rfl, zmo_87, rfl, rfl, zw3 177 rfl rfl⟩
theorem zq_8_49 : zcpOk 8 (49, 7, .null, [88, 2, 2, 1, 9]) := ⟨_, _, _, _, _, _, rfl, zmo_88, rfl, rfl, zw3 194 rfl rfl⟩
theorem zq_8_52 : zcpOk 8 (52, 7, .null, [91, 3, 5, 1, 9]) := ⟨_, _, _, _, _, _, rfl, zmo_91, rfl, rfl, zw3 198 rfl rfl⟩
theorem zq_8_56 : zcpOk 8 (56, 8, .null, [89, 3, 4, 1, 0]) := ⟨_, _, _, _, _, _, rfl, zmo_89, rfl, rfl, zw3 208 rfl rfl⟩
theorem zq_8_60 : zcpOk 8 (60, 8, .null, [38, 2, 2, 1, 0]) := ⟨_, _, _, _, _, _, rfl, zmo_38, rfl, rfl, zw3 212 rfl rfl⟩
theorem zq_8_65 : zcpOk 8 (65, 9, .null, [5, 3, 3, 0, 0]) := ⟨_, _, _, _, _, _, rfl, zmo_5, rfl, rfl, zn3 193 rfl rfl⟩
theorem zq_8_69 : zcpOk 8 (69, 9, .null, [31, 2, 3, 0, 0]) := ⟨_, _, _, _, _, _, rfl, zmo_31, rfl, rfl, zn3 213 rfl rfl⟩
theorem zq_8_73 : zcpOk 8 (73, 7, .null, [90, 4, 5, 1, 9]) := ⟨_, _, _, _, _, _, rfl, zmo_90, rfl, rfl, zw3 203 rfl rfl⟩
theorem zq_8_76 : zcpOk 8 (76, 4, .int 1000000, []) := ⟨_, rfl, zw3 202 rfl rfl⟩
theorem zq_8_77 : zcpOk 8 (77, 1, .null, [5, 1]) := ⟨_, _, _, rfl, by decide, zn1 138 rfl rfl⟩
theorem zq_8_82 : zcpOk 8 (82, 9, .null, [4, 2, 2, 1, 0]) := ⟨_, _, _, _, _, _, rfl, zmo_4, rfl, rfl, zn3 192 rfl rfl⟩
theorem zq_8_86 : zcpOk 8 (86, 8, .null, [67, 1, 1, 1, 0]) := ⟨_, _, _, _, _, _, rfl, zmo_67, rfl, rfl, zw3 207 rfl rfl⟩
theorem zq_8_89 : zcpOk 8 (89, 7, .null, [57, 3, 3, 1, 6]) := ⟨_, _, _, _, _, _, rfl, zmo_57, rfl, rfl, zw3 181 rfl rfl⟩
theorem zq_8_93 : zcpOk 8 (93, 7, .null, [63, 3, 6, 0, 6]) := ⟨_, _, _, _, _, _, rfl, zmo_63, rfl, rfl, zw3 182 rfl rfl⟩
theorem zq_8_97 : zcpOk 8 (97, 7, .null, [86, 3, 3, 1, 9]) := ⟨_, _, _, _, _, _, rfl, zmo_86, rfl, rfl, zw3 187 rfl rfl⟩
theorem zq_8_100 : zcpOk 8 (100, 8, .null, [68, 1, 1, 1, 0]) := ⟨_, _, _, _, _, _, rfl, zmo_68, rfl, rfl, zw3 191 rfl rfl⟩
theorem zq_8_103 : zcpOk 8 (103, 1, .null, [5, 2]) := ⟨_, _, _, rfl, by decide, zn1 141 rfl rfl⟩
theorem zq_8_106 : zcpOk 8 (106, 8, .null, [13, 2, 2, 1, 0]) := ⟨_, _, _, _, _, _, rfl, zmo_13, rfl, rfl, zw3 211 rfl rfl⟩
set_option maxRecDepth 10000 in
theorem zqa_8 : ∀ q ∈ zcp_8, zcpOk 8 q := List.forall_mem_cons.mpr ⟨zq_8_9, List.forall_mem_cons.mpr ⟨zq_8_15, List.forall_mem_cons.mpr ⟨zq_8_18, List.forall_mem_cons.mpr ⟨zq_8_21, List.forall_mem_cons.mpr ⟨zq_8_25, List.forall_mem_cons.mpr ⟨zq_8_29, List.forall_mem_cons.mpr ⟨zq_8_35, List.forall_mem_cons.mpr ⟨zq_8_41, List.forall_mem_cons.mpr ⟨zq_8_45, List.forall_mem_cons.mpr ⟨zq_8_49, List.forall_mem_cons.mpr ⟨zq_8_52, List.forall_mem_cons.mpr ⟨zq_8_56, List.forall_mem_cons.mpr ⟨zq_8_60, List.forall_mem_cons.mpr ⟨zq_8_65, List.forall_mem_cons.mpr ⟨zq_8_69, List.forall_mem_cons.mpr ⟨zq_8_73, List.forall_mem_cons.mpr ⟨zq_8_76, List.forall_mem_cons.mpr ⟨zq_8_77, List.forall_mem_cons.mpr ⟨zq_8_82, List.forall_mem_cons.mpr ⟨zq_8_86, List.forall_mem_cons.mpr ⟨zq_8_89, List.forall_mem_cons.mpr ⟨zq_8_93, List.forall_mem_cons.mpr ⟨zq_8_97, List.forall_mem_cons.mpr ⟨zq_8_100, List.forall_mem_cons.mpr ⟨zq_8_103, List.forall_mem_cons.mpr ⟨zq_8_106, fun _ h => absurd h List.not_mem_nil⟩⟩⟩⟩⟩⟩⟩⟩⟩⟩⟩⟩⟩⟩⟩⟩⟩⟩⟩⟩⟩⟩⟩⟩⟩⟩
theorem zq_9_10 : zcpOk 9 (10, 0, .null, [9, 0]) := ⟨_, _, _, rfl, by decide, zw2 43 rfl rfl⟩
theorem zq_9_16 : zcpOk 9 (16, 0, .null, [9, 1]) := ⟨_, _, _, rfl, by decide, zw2 44 rfl rfl⟩
theorem zq_9_22 : zcpOk 9 (22, 0, .null, [9, 2]) := ⟨_, _, _, rfl, by decide, zw2 45 rfl rfl⟩
theorem zq_9_31 : zcpOk 9 (31, 0, .null, [9, 3]) := ⟨_, _, _, rfl, by decide, zw2 46 rfl rfl⟩
theorem zq_9_40 : zcpOk 9 (40, 0, .null, [9, 4]) := ⟨_, _, _, rfl, by decide, zw2 47 rfl rfl⟩
theorem zq_9_47 : zcpOk 9 (47, 0, .null, [9, 5]) := ⟨_, _, _, rfl, by decide, zw2 48 rfl rfl⟩
theorem zq_9_54 : zcpOk 9 (54, 0, .null, [9, 6]) := ⟨_, _, _, rfl, by decide, zw2 49 rfl rfl⟩
theorem zq_9_61 : zcpOk 9 (61, 0, .null, [9, 7]) := ⟨_, _, _, rfl, by decide, zw2 50 rfl rfl⟩
theorem zq_9_68 : zcpOk 9 (68, 0, .null, [9, 8]) := ⟨_, _, _, rfl, by decide, zw2 51 rfl rfl⟩
theorem zq_9_72 : zcpOk 9 (72, 0, .null, [9, 9]) := ⟨_, _, _, rfl, by decide, zw2 52 rfl rfl⟩
theorem zq_9_76 : zcpOk 9 (76, 0, .null, [9, 10]) := ⟨_, _, _, rfl, by decide, zw2 53 rfl rfl⟩
theorem zq_9_79 : zcpOk 9 (79, 0, .null, [9, 11]) := ⟨_, _, _, rfl, by decide, zw2 54 rfl rfl⟩
theorem zq_9_87 : zcpOk 9 (87, 0, .null, [9, 12]) := ⟨_, _, _, rfl, by decide, zw2 55 rfl rfl⟩
theorem zq_9_91 : zcpOk 9 (91, 0, .null, [9, 13]) := ⟨_, _, _, rfl, by decide, zw2 56 rfl rfl⟩
theorem zq_9_94 : zcpOk 9 (94, 0, .null, [9, 14]) := ⟨_, _, _, rfl, by decide, zw2 57 rfl rfl⟩
theorem zq_9_97 : zcpOk 9 (97, 0, .null, [9, 15]) := ⟨_, _, _, rfl, by decide, zw2 58 rfl rfl⟩
theorem zq_9_101 : zcpOk 9 (101, 7, .null, [32, 1, 1, 0, 7]) := ⟨_, _, _, _, _, _, rfl, zmo_32, rfl, rfl, zw2 6 rfl rfl⟩
theorem zq_9_104 : zcpOk 9 (104, 7, .null, [47, 3, 3, 1, 7]) := ⟨_, _, _, _, _, _, rfl, zmo_47, rfl, rfl, zw2 18 rfl rfl⟩
theorem zq_9_108 : zcpOk 9 (108, 7, .null, [95, 2, 2, 0, 10]) := ⟨_, _, _, _, _, _, rfl, zmo_95, rfl, rfl, zw2 25 rfl rfl⟩
theorem zq_9_112 : zcpOk 9 (112, 8, .null, [46, 3, 3, 1, 0]) := ⟨_, _, _, _, _, _, rfl, zmo_46, rfl, rfl, zw2 96 rfl rfl⟩
theorem zq_9_116 : zcpOk 9 (116, 7, .null, [29, 2, 2, 1, 4]) := ⟨_, _, _, _, _, _, rfl, zmo_29, rfl, rfl, zw2 99 rfl rfl⟩
theorem zq_9_120 : zcpOk 9 (120, 7, .null, [30, 1, 2, 1, 4]) := ⟨_, _, _, _, _, _, rfl, zmo_30, rfl, rfl, zw2 107 rfl rfl⟩
theorem zq_9_124 : zcpOk 9 (124, 7, .null, [56, 2, 5, 1, 4]) := ⟨_, _, _, _, _, _, rfl, zmo_56, rfl, rfl, zw2 115 rfl rfl⟩
theorem zq_9_128 : zcpOk 9 (128, 1, .null, [6, 2]) := ⟨_, _, _, rfl, by decide, zn1 45 rfl rfl⟩
theorem zq_9_131 : zcpOk 9 (131, 7, .null, [14, 1, 1, 0, 2]) := ⟨_, _, _, _, _, _, rfl, zmo_14, rfl, rfl, zw2 39 rfl rfl⟩
theorem zq_9_132 : zcpOk 9 (132, 1, .null, [6, 0]) := ⟨_, _, _, rfl, by decide, zn1 37 rfl rfl⟩
theorem zq_9_135 : zcpOk 9 (135, 8, .null, [4, 2, 2, 1, 0]) := ⟨_, _, _, _, _, _, rfl, zmo_4, rfl, rfl, zw3 34 rfl rfl⟩
theorem zq_9_139 : zcpOk 9 (139, 1, .null, [6, 1]) := ⟨_, _, _, rfl, by decide, zn1 40 rfl rfl⟩
theorem zq_9_142 : zcpOk 9 (142, 7, .null, [58, 1, 1, 1, 7]) := ⟨_, _, _, _, _, _, rfl, zmo_58, rfl, rfl, zw3 39 rfl rfl⟩
theorem zq_9_145 : zcpOk 9 (145, 7, .null, [0, 2, 2, 1, 7]) := ⟨_, _, _, _, _, _, rfl, zmo_0, rfl, rfl, zw2 31 rfl rfl⟩
theorem zq_9_149 : zcpOk 9 (149, 1, .null, [6, 6]) := ⟨_, _, _, rfl, by decide, zn1 57 rfl rfl⟩
theorem zq_9_152 : zcpOk 9 (152, 1, .null, [6, 4]) := ⟨_, _, _, rfl, by decide, zn1 51 rfl rfl⟩
theorem zq_9_155 : zcpOk 9 (155, 1, .null, [6, 5]) := ⟨_, _, _, rfl, by decide, zn1 54 rfl rfl⟩
theorem zq_9_158 : zcpOk 9 (158, 1, .null, [6, 7]) := ⟨_, _, _, rfl, by decide, zn1 60 rfl rfl⟩
theorem zq_9_161 : zcpOk 9 (161, 1, .null, [6, 9]) := ⟨_, _, _, rfl, by decide, zn1 66 rfl rfl⟩
theorem zq_9_164 : zcpOk 9 (164, 1, .null, [6, 8]) := ⟨_, _, _, rfl, by decide, zn1 63 rfl rfl⟩
theorem zq_9_167 : zcpOk 9 (167, 1, .null, [6, 14]) := ⟨_, _, _, rfl, by decide, zn1 78 rfl rfl⟩
theorem zq_9_170 : zcpOk 9 (170, 8, .null, [18, 2, 2, 1, 0]) := ⟨_, _, _, _, _, _, rfl, zmo_18, rfl, rfl, zw3 56 rfl rfl⟩
theorem zq_9_173 : zcpOk 9 (173, 7, .null, [60, 5, 6, 1, 6]) := ⟨_, _, _, _, _, _, rfl, zmo_60, rfl, rfl, zw3 67 rfl rfl⟩
theorem zq_9_177 : zcpOk 9 (177, 7, .null, [61, 4, 5, 1, 6]) := ⟨_, _, _, _, _, _, rfl, zmo_61, rfl, rfl, zw3 78 rfl rfl⟩
theorem zq_9_180 : zcpOk 9 (180, 7, .null, [62, 4, 5, 1, 6]) := ⟨_, _, _, _, _, _, rfl, zmo_62, rfl, rfl, zw3 82 rfl rfl⟩
theorem zq_9_184 : zcpOk 9 (184, 8, .null, [68, 1, 1, 1, 0]) := ⟨_, _, _, _, _, _, rfl, zmo_68, rfl, rfl, zw3 86 rfl rfl⟩
theorem zq_9_187 : zcpOk 9 (187, 7, .null, [107, 2, 2, 1, 10]) := ⟨_, _, _, _, _, _, rfl, zmo_107, rfl, rfl, zw3 95 rfl rfl⟩
theorem zq_9_191 : zcpOk 9 (191, 7, .null, [17, 2, 3, 1, 2]) := ⟨_, _, _, _, _, _, rfl, zmo_17, rfl, rfl, zw3 147 rfl rfl⟩
theorem zq_9_195 : zcpOk 9 (195, 1, .null, [1, 3]) := ⟨_, _, _, rfl, by decide, zn1 236 rfl rfl⟩
theorem zq_9_198 : zcpOk 9 (198, 8, .null, [5, 3, 3, 0, 0]) := ⟨_, _, _, _, _, _, rfl, zmo_5, rfl, rfl, zw2 30 rfl rfl⟩
theorem zq_9_202 : zcpOk 9 (202, 8, .null, [31, 2, 3, 0, 0]) := ⟨_, _, _, _, _, _, rfl, zmo_31, rfl, rfl, zw3 99 rfl rfl⟩
theorem zq_9_206 : zcpOk 9 (206, 7, .null, [77, 3, 3, 1, 6]) := ⟨_, _, _, _, _, _, rfl, zmo_77, rfl, rfl, zw3 100 rfl rfl⟩
theorem zq_9_210 : zcpOk 9 (210, 7, .null, [92, 3, 7, 1, 9]) := ⟨_, _, _, _, _, _, rfl, zmo_92, rfl, rfl, zw3 171 rfl rfl⟩
theorem zq_9_214 : zcpOk 9 (214, 4, .int 1000000, []) := ⟨_, rfl, zw3 214 rfl rfl⟩
theorem zq_9_215 : zcpOk 9 (215, 7, .null, [93, 3, 4, 1, 9]) := ⟨_, _, _, _, _, _, rfl, zmo_93, rfl, rfl, zw3 215 rfl rfl⟩
theorem zq_9_219 : zcpOk 9 (219, 7, .null, [73, 2, 7, 1, 5]) := ⟨_, _, _, _, _, _, rfl, zmo_73, rfl, rfl, zw3 223 rfl rfl⟩
theorem zq_9_223 : zcpOk 9 (223, 7, .null, [81, 2, 2, 1, 8]) := ⟨_, _, _, _, _, _, rfl, zmo_81, rfl, rfl, zw4 30 rfl rfl⟩
theorem zq_9_226 : zcpOk 9 (226, 7, .null, [82, 2, 2, 1, 8]) := ⟨_, _, _, _, _, _, rfl, zmo_82, rfl, rfl, zw4 48 rfl rfl⟩
theorem zq_9_229 : zcpOk 9 (229, 7, .null, [83, 1, 5, 1, 8]) := ⟨_, _, _, _, _, _, rfl, zmo_83, rfl, rfl, zw4 56 rfl rfl⟩
theorem zq_9_232 : zcpOk 9 (232, 5, .long (-1), []) := ⟨_, rfl, zw4 65 rfl rfl⟩
theorem zq_9_234 : zcpOk 9 (234, 7, .null, [85, 3, 9, 2, 8]) := ⟨_, _, _, _, _, _, rfl, zmo_85, rfl, rfl, zw4 66 rfl rfl⟩
theorem zq_9_238 : zcpOk 9 (238, 7, .null, [2, 3, 4, 1, 1]) := ⟨_, _, _, _, _, _, rfl, zmo_2, rfl, rfl, zw4 77 rfl rfl⟩
theorem zq_9_241 : zcpOk 9 (241, 7, .null, [3, 1, 3, 1, 1]) := ⟨_, _, _, _, _, _, rfl, zmo_3, rfl, rfl, zw4 90 rfl rfl⟩
theorem zq_9_244 : zcpOk 9 (244, 7, .null, [8, 4, 6, 1, 1]) := ⟨_, _, _, _, _, _, rfl, zmo_8, rfl, rfl, zw4 98 rfl rfl⟩
theorem zq_9_247 : zcpOk 9 (247, 7, .null, [9, 2, 4, 1, 1]) := ⟨_, _, _, _, _, _, rfl, zmo_9, rfl, rfl, zw4 117 rfl rfl⟩
theorem zq_9_250 : zcpOk 9 (250, 7, .null, [10, 4, 6, 1, 1]) := ⟨_, _, _, _, _, _, rfl, zmo_10, rfl, rfl, zw4 125 rfl rfl⟩
theorem zq_9_253 : zcpOk 9 (253, 7, .null, [125, 2, 3, 1, 10]) := ⟨_, _, _, _, _, _, rfl, zmo_125, rfl, rfl, zw4 133 rfl rfl⟩
theorem zq_9_256 : zcpOk 9 (256, 7, .null, [126, 2, 3, 1, 10]) := ⟨_, _, _, _, _, _, rfl, zmo_126, rfl, rfl, zw4 138 rfl rfl⟩
theorem zq_9_259 : zcpOk 9 (259, 7, .null, [22, 1, 4, 0, 3]) := ⟨_, _, _, _, _, _, rfl, zmo_22, rfl, rfl, zw4 146 rfl rfl⟩
theorem zq_9_262 : zcpOk 9 (262, 7, .null, [20, 3, 3, 1, 3]) := ⟨_, _, _, _, _, _, rfl, zmo_20, rfl, rfl, zw4 162 rfl rfl⟩
theorem zq_9_265 : zcpOk 9 (265, 7, .null, [24, 4, 4, 1, 3]) := ⟨_, _, _, _, _, _, rfl, zmo_24, rfl, rfl, zw4 163 rfl rfl⟩
theorem zq_9_269 : zcpOk 9 (269, 7, .null, [25, 2, 5, 1, 3]) := ⟨_, _, _, _, _, _, rfl, zmo_25, rfl, rfl, zw4 176 rfl rfl⟩
theorem zq_9_272 : zcpOk 9 (272, 7, .null, [27, 2, 6, 1, 3]) := ⟨_, _, _, _, _, _, rfl, zmo_27, rfl, rfl, zw4 185 rfl rfl⟩
theorem zq_9_275 : zcpOk 9 (275, 7, .null, [28, 1, 5, 1, 3]) := ⟨_, _, _, _, _, _, rfl, zmo_28, rfl, rfl, zw4 200 rfl rfl⟩
theorem zq_9_278 : zcpOk 9 (278, 7, .null, [132, 2, 3, 1, 10]) := ⟨_, _, _, _, _, _, rfl, zmo_132, rfl, rfl, zw4 208 rfl rfl⟩
theorem zq_9_281 : zcpOk 9 (281, 1, .null, [6, 3]) := ⟨_, _, _, rfl, by decide, zn1 48 rfl rfl⟩
theorem zq_9_284 : zcpOk 9 (284, 8, .null, [26, 1, 1, 1, 0]) := ⟨_, _, _, _, _, _, rfl, zmo_26, rfl, rfl, zw4 224 rfl rfl⟩
theorem zq_9_289 : zcpOk 9 (289, 7, .null, [6, 2, 3, 0, 1]) := ⟨_, _, _, _, _, _, rfl, zmo_6, rfl, rfl, zw4 229 rfl rfl⟩
theorem zq_9_292 : zcpOk 9 (292, 7, .null, [12, 4, 5, 1, 1]) := ⟨_, _, _, _, _, _, rfl, zmo_12, rfl, rfl, zw4 230 rfl rfl⟩
theorem zq_9_295 : zcpOk 9 (295, 7, .null, [16, 2, 3, 0, 2]) := ⟨_, _, _, _, _, _, rfl, zmo_16, rfl, rfl, zw3 129 rfl rfl⟩
theorem zq_9_299 : zcpOk 9 (299, 7, .null, [94, 1, 1, 0, 10]) := ⟨_, _, _, _, _, _, rfl, zmo_94, rfl, rfl, zw2 35 rfl rfl⟩
theorem zq_9_302 : zcpOk 9 (302, 1, .null, [6, 13]) := ⟨_, _, _, rfl, by decide, zn1 75 rfl rfl⟩
theorem zq_9_305 : zcpOk 9 (305, 1, .null, [3, 1]) := ⟨_, _, _, rfl, by decide, zn1 119 rfl rfl⟩
theorem zq_9_308 : zcpOk 9 (308, 8, .null, [19, 2, 4, 0, 0]) := ⟨_, _, _, _, _, _, rfl, zmo_19, rfl, rfl, zw2 29 rfl rfl⟩
theorem zq_9_314 : zcpOk 9 (314, 8, .null, [59, 2, 2, 1, 0]) := ⟨_, _, _, _, _, _, rfl, zmo_59, rfl, rfl, zw4 137 rfl rfl⟩
theorem zq_9_317 : zcpOk 9 (317, 7, .null, [78, 3, 4, 1, 6]) := ⟨_, _, _, _, _, _, rfl, zmo_78, rfl, rfl, zw4 212 rfl rfl⟩
set_option maxRecDepth 10000 in
theorem zqa_9 : ∀ q ∈ zcp_9, zcpOk 9 q := List.forall_mem_cons.mpr ⟨zq_9_10, List.forall_mem_cons.mpr ⟨zq_9_16, List.forall_mem_cons.mpr ⟨zq_9_22, List.forall_mem_cons.mpr ⟨zq_9_31, List.forall_mem_cons.mpr ⟨zq_9_40, List.forall_mem_cons.mpr ⟨zq_9_47, List.forall_mem_cons.mpr ⟨zq_9_54, List.forall_mem_cons.mpr ⟨zq_9_61, List.forall_mem_cons.mpr ⟨zq_9_68, List.forall_mem_cons.mpr ⟨zq_9_72, List.forall_mem_cons.mpr ⟨zq_9_76, List.forall_mem_cons.mpr ⟨zq_9_79, List.forall_mem_cons.mpr ⟨zq_9_87, List.forall_mem_cons.mpr ⟨zq_9_91, List.forall_mem_cons.mpr ⟨zq_9_94, List.forall_mem_cons.mpr ⟨zq_9_97, List.forall_mem_cons.mpr ⟨zq_9_101, List.forall_mem_cons.mpr ⟨zq_9_104, List.forall_mem_cons.mpr ⟨zq_9_108, List.forall_mem_cons.mpr ⟨zq_9_112, List.forall_mem_cons.mpr ⟨zq_9_116, List.forall_mem_cons.mpr ⟨zq_9_120, List.forall_mem_cons.mpr ⟨zq_9_124, List.forall_mem_cons.mpr ⟨zq_9_128, List.forall_mem_cons.mpr ⟨zq_9_131, List.forall_mem_cons.mpr ⟨zq_9_132, List.forall_mem_cons.mpr ⟨zq_9_135, List.forall_mem_cons.mpr ⟨zq_9_139, List.forall_mem_cons.mpr ⟨zq_9_142, List.forall_mem_cons.mpr ⟨zq_9_145, List.forall_mem_cons.mpr ⟨zq_9_149, List.forall_mem_cons.mpr ⟨zq_9_152, List.forall_mem_cons.mpr ⟨zq_9_155, List.forall_mem_cons.mpr ⟨zq_9_158, List.forall_mem_cons.mpr ⟨zq_9_161, List.forall_mem_cons.mpr ⟨zq_9_164, List.forall_mem_cons.mpr ⟨zq_9_167, List.forall_mem_cons.mpr ⟨zq_9_170, List.forall_mem_cons.mpr ⟨zq_9_173, List.forall_mem_cons.mpr ⟨zq_9_177, List.forall_mem_cons.mpr ⟨zq_9_180, List.forall_mem_cons.mpr ⟨zq_9_184, List.forall_mem_cons.mpr ⟨zq_9_187, List.forall_mem_cons.mpr ⟨zq_9_191, List.forall_mem_cons.mpr ⟨zq_9_195, List.forall_mem_cons.mpr ⟨zq_9_198, List.forall_mem_cons.mpr ⟨zq_9_202, List.forall_mem_cons.mpr ⟨zq_9_206, List.forall_mem_cons.mpr ⟨zq_9_210, List.forall_mem_cons.mpr ⟨zq_9_214, List.forall_mem_cons.mpr ⟨zq_9_215, List.forall_mem_cons.mpr ⟨zq_9_219, List.forall_mem_cons.mpr ⟨zq_9_223, List.forall_mem_cons.mpr ⟨zq_9_226, List.forall_mem_cons.mpr ⟨zq_9_229, List.forall_mem_cons.mpr ⟨zq_9_232, List.forall_mem_cons.mpr ⟨zq_9_234, List.forall_mem_cons.mpr ⟨zq_9_238, List.forall_mem_cons.mpr ⟨zq_9_241, List.forall_mem_cons.mpr ⟨zq_9_244, List.forall_mem_cons.mpr ⟨zq_9_247, List.forall_mem_cons.mpr ⟨zq_9_250, List.forall_mem_cons.mpr ⟨zq_9_253, List.forall_mem_cons.mpr ⟨zq_9_256, List.forall_mem_cons.mpr ⟨zq_9_259, List.forall_mem_cons.mpr ⟨zq_9_262, List.forall_mem_cons.mpr ⟨zq_9_265, List.forall_mem_cons.mpr ⟨zq_9_269, List.forall_mem_cons.mpr ⟨zq_9_272, List.forall_mem_cons.mpr ⟨zq_9_275, List.forall_mem_cons.mpr ⟨zq_9_278, List.forall_mem_cons.mpr ⟨zq_9_281, List.forall_mem_cons.mpr ⟨zq_9_284, List.forall_mem_cons.mpr ⟨zq_9_289, List.forall_mem_cons.mpr ⟨zq_9_292, List.forall_mem_cons.mpr ⟨zq_9_295, List.forall_mem_cons.mpr ⟨zq_9_299, List.forall_mem_cons.mpr ⟨zq_9_302, List.forall_mem_cons.mpr ⟨zq_9_305, List.forall_mem_cons.mpr ⟨zq_9_308, List.forall_mem_cons.mpr ⟨zq_9_314, List.forall_mem_cons.mpr ⟨zq_9_317, fun _ h => absurd h List.not_mem_nil⟩⟩⟩⟩⟩⟩⟩⟩⟩⟩⟩⟩⟩⟩⟩⟩⟩⟩⟩⟩⟩⟩⟩⟩⟩⟩⟩⟩⟩⟩⟩⟩⟩⟩⟩⟩⟩⟩⟩⟩⟩⟩⟩⟩⟩⟩⟩⟩⟩⟩⟩⟩⟩⟩⟩⟩⟩⟩⟩⟩⟩⟩⟩⟩⟩⟩⟩⟩⟩⟩⟩⟩⟩⟩⟩⟩⟩⟩⟩⟩⟩⟩
theorem zq_10_7 : zcpOk 10 (7, 0, .null, [10, 0]) := ⟨_, _, _, rfl, by decide, zw5 31 rfl rfl⟩
theorem zq_10_13 : zcpOk 10 (13, 0, .null, [10, 1]) := ⟨_, _, _, rfl, by decide, zw5 32 rfl rfl⟩
theorem zq_10_16 : zcpOk 10 (16, 0, .null, [10, 2]) := ⟨_, _, _, rfl, by decide, zw5 33 rfl rfl⟩
theorem zq_10_19 : zcpOk 10 (19, 0, .null, [10, 4]) := ⟨_, _, _, rfl, by decide, zw5 35 rfl rfl⟩
theorem zq_10_22 : zcpOk 10 (22, 0, .null, [10, 5]) := ⟨_, _, _, rfl, by decide, zw5 36 rfl rfl⟩
theorem zq_10_25 : zcpOk 10 (25, 0, .null, [10, 7]) := ⟨_, _, _, rfl, by decide, zw5 38 rfl rfl⟩
theorem zq_10_28 : zcpOk 10 (28, 0, .null, [10, 9]) := ⟨_, _, _, rfl, by decide, zw5 40 rfl rfl⟩
theorem zq_10_31 : zcpOk 10 (31, 0, .null, [10, 12]) := ⟨_, _, _, rfl, by decide, zw5 43 rfl rfl⟩
theorem zq_10_34 : zcpOk 10 (34, 0, .null, [10, 13]) := ⟨_, _, _, rfl, by decide, zw5 44 rfl rfl⟩
theorem zq_10_37 : zcpOk 10 (37, 0, .null, [10, 14]) := ⟨_, _, _, rfl, by decide, zw5 45 rfl rfl⟩
theorem zq_10_40 : zcpOk 10 (40, 4, .int 72100, []) := ⟨_, rfl, zw5 23 rfl rfl⟩
theorem zq_10_41 : zcpOk 10 (41, 0, .null, [10, 15]) := ⟨_, _, _, rfl, by decide, zw5 46 rfl rfl⟩
theorem zq_10_44 : zcpOk 10 (44, 0, .null, [10, 16]) := ⟨_, _, _, rfl, by decide, zw5 47 rfl rfl⟩
theorem zq_10_47 : zcpOk 10 (47, 0, .null, [10, 17]) := ⟨_, _, _, rfl, by decide, zw5 48 rfl rfl⟩
theorem zq_10_50 : zcpOk 10 (50, 8, .null, [141, 1, 2, 0, 0]) := ⟨_, _, _, _, _, _, rfl, zmo_141, rfl, rfl, zw5 24 rfl rfl⟩
theorem zq_10_54 : zcpOk 10 (54, 7, .null, [142, 2, 3, 0, 11]) := ⟨_, _, _, _, _, _, rfl, zmo_142, rfl, rfl, zw5 27 rfl rfl⟩
theorem zq_10_58 : zcpOk 10 (58, 5, .long 32, []) := ⟨_, rfl, zw5 90 rfl rfl⟩
theorem zq_10_60 : zcpOk 10 (60, 5, .long 126, []) := ⟨_, rfl, zw5 91 rfl rfl⟩
theorem zq_10_62 : zcpOk 10 (62, 8, .null, [143, 3, 6, 1, 0]) := ⟨_, _, _, _, _, _, rfl, zmo_143, rfl, rfl, zw5 92 rfl rfl⟩
theorem zq_10_66 : zcpOk 10 (66, 0, .null, [10, 3]) := ⟨_, _, _, rfl, by decide, zw5 34 rfl rfl⟩
theorem zq_10_70 : zcpOk 10 (70, 0, .null, [10, 11]) := ⟨_, _, _, rfl, by decide, zw5 42 rfl rfl⟩
theorem zq_10_73 : zcpOk 10 (73, 5, .long 48, []) := ⟨_, rfl, zw5 119 rfl rfl⟩
theorem zq_10_75 : zcpOk 10 (75, 5, .long 57, []) := ⟨_, rfl, zw5 120 rfl rfl⟩
theorem zq_10_77 : zcpOk 10 (77, 5, .long 2, []) := ⟨_, rfl, zw5 121 rfl rfl⟩
theorem zq_10_79 : zcpOk 10 (79, 7, .null, [146, 2, 6, 1, 11]) := ⟨_, _, _, _, _, _, rfl, zmo_146, rfl, rfl, zw5 115 rfl rfl⟩
theorem zq_10_83 : zcpOk 10 (83, 7, .null, [147, 4, 4, 1, 11]) := ⟨_, _, _, _, _, _, rfl, zmo_147, rfl, rfl, zw5 122 rfl rfl⟩
theorem zq_10_87 : zcpOk 10 (87, 7, .null, [148, 2, 2, 1, 11]) := ⟨_, _, _, _, _, _, rfl, zmo_148, rfl, rfl, zw5 126 rfl rfl⟩
theorem zq_10_91 : zcpOk 10 (91, 7, .null, [150, 3, 4, 1, 11]) := ⟨_, _, _, _, _, _, rfl, zmo_150, rfl, rfl, zw5 130 rfl rfl⟩
theorem zq_10_95 : zcpOk 10 (95, 7, .null, [149, 1, 2, 1, 11]) := ⟨_, _, _, _, _, _, rfl, zmo_149, rfl, rfl, zw5 111 rfl rfl⟩
theorem zq_10_99 : zcpOk 10 (99, 7, .null, [151, 1, 2, 1, 11]) := ⟨_, _, _, _, _, _, rfl, zmo_151, rfl, rfl, zw5 134 rfl rfl⟩
theorem zq_10_102 : zcpOk 10 (102, 7, .null, [152, 1, 1, 1, 11]) := ⟨_, _, _, _, _, _, rfl, zmo_152, rfl, rfl, zw5 138 rfl rfl⟩
theorem zq_10_105 : zcpOk 10 (105, 7, .null, [153, 1, 1, 1, 11]) := ⟨_, _, _, _, _, _, rfl, zmo_153, rfl, rfl, zw5 142 rfl rfl⟩
theorem zq_10_108 : zcpOk 10 (108, 7, .null, [154, 1, 3, 1, 11]) := ⟨_, _, _, _, _, _, rfl, zmo_154, rfl, rfl, zw5 146 rfl rfl⟩
theorem zq_10_111 : zcpOk 10 (111, 7, .null, [155, 1, 1, 1, 11]) := ⟨_, _, _, _, _, _, rfl, zmo_155, rfl, rfl, zw5 150 rfl rfl⟩
theorem zq_10_114 : zcpOk 10 (114, 7, .null, [156, 1, 2, 1, 11]) := ⟨_, _, _, _, _, _, rfl, zmo_156, rfl, rfl, zw5 107 rfl rfl⟩
theorem zq_10_117 : zcpOk 10 (117, 7, .null, [157, 1, 2, 1, 11]) := ⟨_, _, _, _, _, _, rfl, zmo_157, rfl, rfl, zw5 103 rfl rfl⟩
theorem zq_10_121 : zcpOk 10 (121, 0, .null, [10, 6]) := ⟨_, _, _, rfl, by decide, zw5 37 rfl rfl⟩
theorem zq_10_124 : zcpOk 10 (124, 0, .null, [10, 8]) := ⟨_, _, _, rfl, by decide, zw5 39 rfl rfl⟩
theorem zq_10_127 : zcpOk 10 (127, 0, .null, [10, 10]) := ⟨_, _, _, rfl, by decide, zw5 41 rfl rfl⟩
theorem zq_10_130 : zcpOk 10 (130, 5, .long 23, []) := ⟨_, rfl, zw5 193 rfl rfl⟩
theorem zq_10_132 : zcpOk 10 (132, 7, .null, [160, 2, 2, 1, 11]) := ⟨_, _, _, _, _, _, rfl, zmo_160, rfl, rfl, zw5 162 rfl rfl⟩
theorem zq_10_135 : zcpOk 10 (135, 8, .null, [161, 1, 1, 1, 0]) := ⟨_, _, _, _, _, _, rfl, zmo_161, rfl, rfl, zw5 166 rfl rfl⟩
theorem zq_10_138 : zcpOk 10 (138, 5, .long 12, []) := ⟨_, rfl, zw5 173 rfl rfl⟩
theorem zq_10_140 : zcpOk 10 (140, 7, .null, [163, 1, 1, 1, 11]) := ⟨_, _, _, _, _, _, rfl, zmo_163, rfl, rfl, zw5 174 rfl rfl⟩
theorem zq_10_143 : zcpOk 10 (143, 7, .null, [165, 2, 2, 1, 11]) := ⟨_, _, _, _, _, _, rfl, zmo_165, rfl, rfl, zw5 182 rfl rfl⟩
theorem zq_10_146 : zcpOk 10 (146, 8, .null, [167, 1, 1, 1, 0]) := ⟨_, _, _, _, _, _, rfl, zmo_167, rfl, rfl, zw5 190 rfl rfl⟩
theorem zq_10_149 : zcpOk 10 (149, 7, .null, [169, 2, 2, 1, 11]) := ⟨_, _, _, _, _, _, rfl, zmo_169, rfl, rfl, zw5 198 rfl rfl⟩
theorem zq_10_152 : zcpOk 10 (152, 8, .null, [172, 2, 2, 1, 0]) := ⟨_, _, _, _, _, _, rfl, zmo_172, rfl, rfl, zw5 214 rfl rfl⟩
theorem zq_10_156 : zcpOk 10 (156, 7, .null, [173, 5, 8, 1, 11]) := ⟨_, _, _, _, _, _, rfl, zmo_173, rfl, rfl, zw5 210 rfl rfl⟩
theorem zq_10_160 : zcpOk 10 (160, 7, .null, [174, 4, 5, 1, 11]) := ⟨_, _, _, _, _, _, rfl, zmo_174, rfl, rfl, zw5 217 rfl rfl⟩
theorem zq_10_164 : zcpOk 10 (164, 8, .null, [175, 1, 1, 1, 0]) := ⟨_, _, _, _, _, _, rfl, zmo_175, rfl, rfl, zw5 221 rfl rfl⟩
theorem zq_10_167 : zcpOk 10 (167, 7, .null, [178, 3, 3, 1, 11]) := ⟨_, _, _, _, _, _, rfl, zmo_178, rfl, rfl, zw5 236 rfl rfl⟩
theorem zq_10_171 : zcpOk 10 (171, 7, .null, [177, 5, 6, 0, 11]) := ⟨_, _, _, _, _, _, rfl, zmo_177, rfl, rfl, zw5 228 rfl rfl⟩
theorem zq_10_175 : zcpOk 10 (175, 7, .null, [179, 3, 7, 1, 11]) := ⟨_, _, _, _, _, _, rfl, zmo_179, rfl, rfl, zw5 232 rfl rfl⟩
theorem zq_10_179 : zcpOk 10 (179, 7, .null, [180, 1, 2, 0, 11]) := ⟨_, _, _, _, _, _, rfl, zmo_180, rfl, rfl, zw6 0 rfl rfl⟩
theorem zq_10_182 : zcpOk 10 (182, 7, .null, [182, 2, 2, 1, 11]) := ⟨_, _, _, _, _, _, rfl, zmo_182, rfl, rfl, zw6 8 rfl rfl⟩
theorem zq_10_186 : zcpOk 10 (186, 5, .long 5, []) := ⟨_, rfl, zw6 20 rfl rfl⟩
theorem zq_10_188 : zcpOk 10 (188, 5, .long 3, []) := ⟨_, rfl, zw6 25 rfl rfl⟩
theorem zq_10_190 : zcpOk 10 (190, 4, .int 1000000, []) := ⟨_, rfl, zw6 46 rfl rfl⟩
theorem zq_10_191 : zcpOk 10 (191, 8, .null, [189, 3, 3, 1, 0]) := ⟨_, _, _, _, _, _, rfl, zmo_189, rfl, rfl, zw6 51 rfl rfl⟩
theorem zq_10_195 : zcpOk 10 (195, 7, .null, [190, 7, 11, 1, 11]) := ⟨_, _, _, _, _, _, rfl, zmo_190, rfl, rfl, zw6 47 rfl rfl⟩
theorem zq_10_199 : zcpOk 10 (199, 7, .null, [191, 6, 9, 1, 11]) := ⟨_, _, _, _, _, _, rfl, zmo_191, rfl, rfl, zw6 42 rfl rfl⟩
theorem zq_10_203 : zcpOk 10 (203, 7, .null, [192, 4, 11, 1, 11]) := ⟨_, _, _, _, _, _, rfl, zmo_192, rfl, rfl, zw6 38 rfl rfl⟩
theorem zq_10_207 : zcpOk 10 (207, 7, .null, [194, 4, 11, 0, 11]) := ⟨_, _, _, _, _, _, rfl, zmo_194, rfl, rfl, zw6 58 rfl rfl⟩
theorem zq_10_211 : zcpOk 10 (211, 7, .null, [196, 3, 10, 1, 11]) := ⟨_, _, _, _, _, _, rfl, zmo_196, rfl, rfl, zw6 70 rfl rfl⟩
theorem zq_10_214 : zcpOk 10 (214, 7, .null, [197, 2, 2, 1, 11]) := ⟨_, _, _, _, _, _, rfl, zmo_197, rfl, rfl, zw6 66 rfl rfl⟩
theorem zq_10_217 : zcpOk 10 (217, 5, .long (-1), []) := ⟨_, rfl, zw6 82 rfl rfl⟩
theorem zq_10_219 : zcpOk 10 (219, 5, .long 10, []) := ⟨_, rfl, zw6 83 rfl rfl⟩
theorem zq_10_221 : zcpOk 10 (221, 7, .null, [201, 2, 4, 1, 11]) := ⟨_, _, _, _, _, _, rfl, zmo_201, rfl, rfl, zw6 93 rfl rfl⟩
theorem zq_10_224 : zcpOk 10 (224, 5, .long 9, []) := ⟨_, rfl, zw6 88 rfl rfl⟩
theorem zq_10_226 : zcpOk 10 (226, 7, .null, [202, 3, 4, 1, 11]) := ⟨_, _, _, _, _, _, rfl, zmo_202, rfl, rfl, zw6 89 rfl rfl⟩
theorem zq_10_229 : zcpOk 10 (229, 7, .null, [205, 4, 4, 1, 11]) := ⟨_, _, _, _, _, _, rfl, zmo_205, rfl, rfl, zw6 110 rfl rfl⟩
theorem zq_10_232 : zcpOk 10 (232, 5, .long 300, []) := ⟨_, rfl, zw6 105 rfl rfl⟩
theorem zq_10_234 : zcpOk 10 (234, 7, .null, [206, 4, 6, 1, 11]) := ⟨_, _, _, _, _, _, rfl, zmo_206, rfl, rfl, zw6 106 rfl rfl⟩
theorem zq_10_237 : zcpOk 10 (237, 5, .long 1000, []) := ⟨_, rfl, zw6 122 rfl rfl⟩
theorem zq_10_239 : zcpOk 10 (239, 7, .null, [209, 4, 6, 1, 11]) := ⟨_, _, _, _, _, _, rfl, zmo_209, rfl, rfl, zw6 123 rfl rfl⟩
theorem zq_10_242 : zcpOk 10 (242, 7, .null, [199, 1, 5, 1, 11]) := ⟨_, _, _, _, _, _, rfl, zmo_199, rfl, rfl, zw6 131 rfl rfl⟩
theorem zq_10_245 : zcpOk 10 (245, 7, .null, [212, 1, 6, 0, 11]) := ⟨_, _, _, _, _, _, rfl, zmo_212, rfl, rfl, zw6 136 rfl rfl⟩
theorem zq_10_248 : zcpOk 10 (248, 7, .null, [213, 1, 3, 1, 11]) := ⟨_, _, _, _, _, _, rfl, zmo_213, rfl, rfl, zw6 140 rfl rfl⟩
theorem zq_10_251 : zcpOk 10 (251, 7, .null, [214, 3, 3, 1, 11]) := ⟨_, _, _, _, _, _, rfl, zmo_214, rfl, rfl, zw6 144 rfl rfl⟩
theorem zq_10_254 : zcpOk 10 (254, 7, .null, [216, 2, 5, 1, 11]) := ⟨_, _, _, _, _, _, rfl, zmo_216, rfl, rfl, zw6 152 rfl rfl⟩
theorem zq_10_257 : zcpOk 10 (257, 8, .null, [218, 1, 3, 1, 0]) := ⟨_, _, _, _, _, _, rfl, zmo_218, rfl, rfl, zw6 160 rfl rfl⟩
theorem zq_10_260 : zcpOk 10 (260, 7, .null, [221, 2, 4, 1, 11]) := ⟨_, _, _, _, _, _, rfl, zmo_221, rfl, rfl, zw6 171 rfl rfl⟩
theorem zq_10_264 : zcpOk 10 (264, 5, .long 40, []) := ⟨_, rfl, zw6 179 rfl rfl⟩
theorem zq_10_266 : zcpOk 10 (266, 5, .long 7919, []) := ⟨_, rfl, zw6 193 rfl rfl⟩
theorem zq_10_268 : zcpOk 10 (268, 5, .long 6151, []) := ⟨_, rfl, zw6 194 rfl rfl⟩
theorem zq_10_270 : zcpOk 10 (270, 5, .long 65521, []) := ⟨_, rfl, zw6 195 rfl rfl⟩
theorem zq_10_272 : zcpOk 10 (272, 5, .long 9999, []) := ⟨_, rfl, zw6 188 rfl rfl⟩
theorem zq_10_274 : zcpOk 10 (274, 7, .null, [225, 4, 9, 1, 11]) := ⟨_, _, _, _, _, _, rfl, zmo_225, rfl, rfl, zw6 189 rfl rfl⟩
theorem zq_10_277 : zcpOk 10 (277, 5, .long 60, []) := ⟨_, rfl, zw6 200 rfl rfl⟩
set_option maxRecDepth 10000 in
theorem zqa_10 : ∀ q ∈ zcp_10, zcpOk 10 q := List.forall_mem_cons.mpr ⟨zq_10_7, List.forall_mem_cons.mpr ⟨zq_10_13, List.forall_mem_cons.mpr ⟨zq_10_16, List.forall_mem_cons.mpr ⟨zq_10_19, List.forall_mem_cons.mpr ⟨zq_10_22, List.forall_mem_cons.mpr ⟨zq_10_25, List.forall_mem_cons.mpr ⟨zq_10_28, List.forall_mem_cons.mpr ⟨zq_10_31, List.forall_mem_cons.mpr ⟨zq_10_34, List.forall_mem_cons.mpr ⟨zq_10_37, List.forall_mem_cons.mpr ⟨zq_10_40, List.forall_mem_cons.mpr ⟨zq_10_41, List.forall_mem_cons.mpr ⟨zq_10_44, List.forall_mem_cons.mpr ⟨zq_10_47, List.forall_mem_cons.mpr ⟨zq_10_50, List.forall_mem_cons.mpr ⟨zq_10_54, List.forall_mem_cons.mpr ⟨zq_10_58, List.forall_mem_cons.mpr ⟨zq_10_60, List.forall_mem_cons.mpr ⟨zq_10_62, List.forall_mem_cons.mpr ⟨zq_10_66, List.forall_mem_cons.mpr ⟨zq_10_70, List.forall_mem_cons.mpr ⟨zq_10_73, List.forall_mem_cons.mpr ⟨zq_10_75, List.forall_mem_cons.mpr ⟨zq_10_77, List.forall_mem_cons.mpr ⟨zq_10_79, List.forall_mem_cons.mpr ⟨zq_10_83, List.forall_mem_cons.mpr ⟨zq_10_87, List.forall_mem_cons.mpr ⟨zq_10_91, List.forall_mem_cons.mpr ⟨zq_10_95, List.forall_mem_cons.mpr ⟨zq_10_99, List.forall_mem_cons.mpr ⟨zq_10_102, List.forall_mem_cons.mpr ⟨zq_10_105, List.forall_mem_cons.mpr ⟨zq_10_108, List.forall_mem_cons.mpr ⟨zq_10_111, List.forall_mem_cons.mpr ⟨zq_10_114, List.forall_mem_cons.mpr ⟨zq_10_117, List.forall_mem_cons.mpr ⟨zq_10_121, List.forall_mem_cons.mpr ⟨zq_10_124, List.forall_mem_cons.mpr ⟨zq_10_127, List.forall_mem_cons.mpr ⟨zq_10_130, List.forall_mem_cons.mpr ⟨zq_10_132, List.forall_mem_cons.mpr ⟨zq_10_135, List.forall_mem_cons.mpr ⟨zq_10_138, List.forall_mem_cons.mpr ⟨zq_10_140, List.forall_mem_cons.mpr ⟨zq_10_143, List.forall_mem_cons.mpr ⟨zq_10_146, List.forall_mem_cons.mpr ⟨zq_10_149, List.forall_mem_cons.mpr ⟨zq_10_152, List.forall_mem_cons.mpr ⟨zq_10_156, List.forall_mem_cons.mpr ⟨zq_10_160, List.forall_mem_cons.mpr ⟨zq_10_164, List.forall_mem_cons.mpr ⟨zq_10_167, List.forall_mem_cons.mpr ⟨zq_10_171, List.forall_mem_cons.mpr ⟨zq_10_175, List.forall_mem_cons.mpr ⟨zq_10_179, List.forall_mem_cons.mpr ⟨zq_10_182, List.forall_mem_cons.mpr ⟨zq_10_186, List.forall_mem_cons.mpr ⟨zq_10_188, List.forall_mem_cons.mpr ⟨zq_10_190, List.forall_mem_cons.mpr ⟨zq_10_191, List.forall_mem_cons.mpr ⟨zq_10_195, List.forall_mem_cons.mpr ⟨zq_10_199, List.forall_mem_cons.mpr ⟨zq_10_203, List.forall_mem_cons.mpr ⟨zq_10_207, List.forall_mem_cons.mpr ⟨zq_10_211, List.forall_mem_cons.mpr ⟨zq_10_214, List.forall_mem_cons.mpr ⟨zq_10_217, List.forall_mem_cons.mpr ⟨zq_10_219, List.forall_mem_cons.mpr ⟨zq_10_221, List.forall_mem_cons.mpr ⟨zq_10_224, List.forall_mem_cons.mpr ⟨zq_10_226, List.forall_mem_cons.mpr ⟨zq_10_229, List.forall_mem_cons.mpr ⟨zq_10_232, List.forall_mem_cons.mpr ⟨zq_10_234, List.forall_mem_cons.mpr ⟨zq_10_237, List.forall_mem_cons.mpr ⟨zq_10_239, List.forall_mem_cons.mpr ⟨zq_10_242, List.forall_mem_cons.mpr ⟨zq_10_245, List.forall_mem_cons.mpr ⟨zq_10_248, List.forall_mem_cons.mpr ⟨zq_10_251, List.forall_mem_cons.mpr ⟨zq_10_254, List.forall_mem_cons.mpr ⟨zq_10_257, List.forall_mem_cons.mpr ⟨zq_10_260, List.forall_mem_cons.mpr ⟨zq_10_264, List.forall_mem_cons.mpr ⟨zq_10_266, List.forall_mem_cons.mpr ⟨zq_10_268, List.forall_mem_cons.mpr ⟨zq_10_270, List.forall_mem_cons.mpr ⟨zq_10_272, List.forall_mem_cons.mpr ⟨zq_10_274, List.forall_mem_cons.mpr ⟨zq_10_277, fun _ h => absurd h List.not_mem_nil⟩⟩⟩⟩⟩⟩⟩⟩⟩⟩⟩⟩⟩⟩⟩⟩⟩⟩⟩⟩⟩⟩⟩⟩⟩⟩⟩⟩⟩⟩⟩⟩⟩⟩⟩⟩⟩⟩⟩⟩⟩⟩⟩⟩⟩⟩⟩⟩⟩⟩⟩⟩⟩⟩⟩⟩⟩⟩⟩⟩⟩⟩⟩⟩⟩⟩⟩⟩⟩⟩⟩⟩⟩⟩⟩⟩⟩⟩⟩⟩⟩⟩⟩⟩⟩⟩⟩⟩⟩⟩
theorem zq_11_9 : zcpOk 11 (9, 10, .null, [11, 0]) := ⟨rfl, Or.inl ⟨rfl, zw6 214 rfl rfl⟩⟩
theorem zq_11_15 : zcpOk 11 (15, 10, .null, [11, 1]) := ⟨rfl, Or.inr ⟨rfl, zw6 213 rfl rfl⟩⟩
theorem zq_11_38 : zcpOk 11 (38, 2, .int 1, [6]) := ⟨_, _, _, rfl, zw2 141 rfl rfl⟩
theorem zq_11_335 : zcpOk 11 (335, 7, .null, [35, 1, 1, 1, 12]) := ⟨_, _, _, _, _, _, rfl, zmo_35, rfl, rfl, zw2 147 rfl rfl⟩
theorem zq_11_492 : zcpOk 11 (492, 7, .null, [34, 1, 1, 1, 12]) := ⟨_, _, _, _, _, _, rfl, zmo_34, rfl, rfl, zw2 137 rfl rfl⟩
theorem zq_11_505 : zcpOk 11 (505, 7, .null, [36, 1, 1, 1, 12]) := ⟨_, _, _, _, _, _, rfl, zmo_36, rfl, rfl, zw2 143 rfl rfl⟩
theorem zq_11_633 : zcpOk 11 (633, 7, .null, [41, 3, 3, 1, 12]) := ⟨_, _, _, _, _, _, rfl, zmo_41, rfl, rfl, zw2 133 rfl rfl⟩
theorem zq_11_637 : zcpOk 11 (637, 8, .null, [40, 4, 4, 1, 0]) := ⟨_, _, _, _, _, _, rfl, zmo_40, rfl, rfl, zw2 151 rfl rfl⟩
set_option maxRecDepth 10000 in
theorem zqa_11 : ∀ q ∈ zcp_11, zcpOk 11 q := List.forall_mem_cons.mpr ⟨zq_11_9, List.forall_mem_cons.mpr ⟨zq_11_15, List.forall_mem_cons.mpr ⟨zq_11_38, List.forall_mem_cons.mpr ⟨zq_11_335, List.forall_mem_cons.mpr ⟨zq_11_492, List.forall_mem_cons.mpr ⟨zq_11_505, List.forall_mem_cons.mpr ⟨zq_11_633, List.forall_mem_cons.mpr ⟨zq_11_637, fun _ h => absurd h List.not_mem_nil⟩⟩⟩⟩⟩⟩⟩⟩
theorem zq_12_38 : zcpOk 12 (38, 8, .null, [38, 2, 2, 1, 0]) := ⟨_, _, _, _, _, _, rfl, zmo_38, rfl, rfl, zw2 158 rfl rfl⟩
theorem zq_12_88 : zcpOk 12 (88, 8, .null, [37, 1, 1, 1, 0]) := ⟨_, _, _, _, _, _, rfl, zmo_37, rfl, rfl, zw2 154 rfl rfl⟩
theorem zq_12_92 : zcpOk 12 (92, 8, .null, [13, 2, 2, 1, 0]) := ⟨_, _, _, _, _, _, rfl, zmo_13, rfl, rfl, zw2 157 rfl rfl⟩
theorem zq_12_95 : zcpOk 12 (95, 8, .null, [39, 4, 6, 1, 0]) := ⟨_, _, _, _, _, _, rfl, zmo_39, rfl, rfl, zw2 161 rfl rfl⟩
set_option maxRecDepth 10000 in
theorem zqa_12 : ∀ q ∈ zcp_12, zcpOk 12 q := List.forall_mem_cons.mpr ⟨zq_12_38, List.forall_mem_cons.mpr ⟨zq_12_88, List.forall_mem_cons.mpr ⟨zq_12_92, List.forall_mem_cons.mpr ⟨zq_12_95, fun _ h => absurd h List.not_mem_nil⟩⟩⟩⟩
set_option maxRecDepth 10000 in
theorem zqa_13 : ∀ q ∈ zcp_13, zcpOk 13 q := fun _ h => absurd h List.not_mem_nil
set_option maxRecDepth 10000 in
theorem zqa_14 : ∀ q ∈ zcp_14, zcpOk 14 q := fun _ h => absurd h List.not_mem_nil
theorem zq_15_265 : zcpOk 15 (265, 4, .int 1431655765, []) := ⟨_, rfl, zw4 192 rfl rfl⟩
theorem zq_15_266 : zcpOk 15 (266, 4, .int 858993459, []) := ⟨_, rfl, zw4 193 rfl rfl⟩
theorem zq_15_267 : zcpOk 15 (267, 4, .int 252645135, []) := ⟨_, rfl, zw4 194 rfl rfl⟩
set_option maxRecDepth 10000 in
theorem zqa_15 : ∀ q ∈ zcp_15, zcpOk 15 q := List.forall_mem_cons.mpr ⟨zq_15_265, List.forall_mem_cons.mpr ⟨zq_15_266, List.forall_mem_cons.mpr ⟨zq_15_267, fun _ h => absurd h List.not_mem_nil⟩⟩⟩
theorem zq_16_13 : zcpOk 16 (13, 7, .null, [96, 2, 2, 1, 10]) := ⟨_, _, _, _, _, _, rfl, zmo_96, rfl, rfl, zw2 92 rfl rfl⟩
theorem zq_16_17 : zcpOk 16 (17, 7, .null, [144, 2, 2, 1, 11]) := ⟨_, _, _, _, _, _, rfl, zmo_144, rfl, rfl, zw5 86 rfl rfl⟩
theorem zq_16_18 : zcpOk 16 (18, 7, .null, [97, 1, 1, 1, 10]) := ⟨_, _, _, _, _, _, rfl, zmo_97, rfl, rfl, zw2 103 rfl rfl⟩
theorem zq_16_22 : zcpOk 16 (22, 7, .null, [145, 1, 2, 1, 11]) := ⟨_, _, _, _, _, _, rfl, zmo_145, rfl, rfl, zw5 95 rfl rfl⟩
theorem zq_16_23 : zcpOk 16 (23, 7, .null, [98, 1, 1, 1, 10]) := ⟨_, _, _, _, _, _, rfl, zmo_98, rfl, rfl, zw2 111 rfl rfl⟩
theorem zq_16_26 : zcpOk 16 (26, 7, .null, [158, 1, 1, 1, 11]) := ⟨_, _, _, _, _, _, rfl, zmo_158, rfl, rfl, zw5 99 rfl rfl⟩
theorem zq_16_27 : zcpOk 16 (27, 7, .null, [99, 1, 1, 1, 10]) := ⟨_, _, _, _, _, _, rfl, zmo_99, rfl, rfl, zw3 26 rfl rfl⟩
theorem zq_16_30 : zcpOk 16 (30, 7, .null, [159, 1, 2, 1, 11]) := ⟨_, _, _, _, _, _, rfl, zmo_159, rfl, rfl, zw5 154 rfl rfl⟩
theorem zq_16_31 : zcpOk 16 (31, 7, .null, [100, 3, 3, 1, 10]) := ⟨_, _, _, _, _, _, rfl, zmo_100, rfl, rfl, zw3 30 rfl rfl⟩
theorem zq_16_35 : zcpOk 16 (35, 7, .null, [162, 3, 3, 1, 11]) := ⟨_, _, _, _, _, _, rfl, zmo_162, rfl, rfl, zw5 158 rfl rfl⟩
theorem zq_16_36 : zcpOk 16 (36, 7, .null, [101, 2, 2, 1, 10]) := ⟨_, _, _, _, _, _, rfl, zmo_101, rfl, rfl, zw3 35 rfl rfl⟩
theorem zq_16_39 : zcpOk 16 (39, 7, .null, [164, 2, 2, 1, 11]) := ⟨_, _, _, _, _, _, rfl, zmo_164, rfl, rfl, zw5 169 rfl rfl⟩
theorem zq_16_40 : zcpOk 16 (40, 7, .null, [102, 3, 3, 1, 10]) := ⟨_, _, _, _, _, _, rfl, zmo_102, rfl, rfl, zw3 44 rfl rfl⟩
theorem zq_16_43 : zcpOk 16 (43, 7, .null, [166, 3, 3, 1, 11]) := ⟨_, _, _, _, _, _, rfl, zmo_166, rfl, rfl, zw5 178 rfl rfl⟩
theorem zq_16_44 : zcpOk 16 (44, 7, .null, [103, 2, 2, 1, 10]) := ⟨_, _, _, _, _, _, rfl, zmo_103, rfl, rfl, zw3 48 rfl rfl⟩
theorem zq_16_47 : zcpOk 16 (47, 7, .null, [168, 2, 2, 1, 11]) := ⟨_, _, _, _, _, _, rfl, zmo_168, rfl, rfl, zw5 186 rfl rfl⟩
theorem zq_16_48 : zcpOk 16 (48, 7, .null, [104, 3, 3, 1, 10]) := ⟨_, _, _, _, _, _, rfl, zmo_104, rfl, rfl, zw3 52 rfl rfl⟩
theorem zq_16_51 : zcpOk 16 (51, 7, .null, [170, 3, 3, 1, 11]) := ⟨_, _, _, _, _, _, rfl, zmo_170, rfl, rfl, zw5 194 rfl rfl⟩
theorem zq_16_52 : zcpOk 16 (52, 7, .null, [105, 2, 2, 1, 10]) := ⟨_, _, _, _, _, _, rfl, zmo_105, rfl, rfl, zw3 59 rfl rfl⟩
theorem zq_16_56 : zcpOk 16 (56, 7, .null, [171, 2, 2, 1, 11]) := ⟨_, _, _, _, _, _, rfl, zmo_171, rfl, rfl, zw5 202 rfl rfl⟩
theorem zq_16_57 : zcpOk 16 (57, 7, .null, [106, 5, 6, 1, 10]) := ⟨_, _, _, _, _, _, rfl, zmo_106, rfl, rfl, zw3 63 rfl rfl⟩
theorem zq_16_61 : zcpOk 16 (61, 7, .null, [176, 5, 6, 1, 11]) := ⟨_, _, _, _, _, _, rfl, zmo_176, rfl, rfl, zw5 206 rfl rfl⟩
theorem zq_16_62 : zcpOk 16 (62, 7, .null, [108, 2, 2, 1, 10]) := ⟨_, _, _, _, _, _, rfl, zmo_108, rfl, rfl, zw3 91 rfl rfl⟩
theorem zq_16_65 : zcpOk 16 (65, 7, .null, [181, 2, 2, 1, 11]) := ⟨_, _, _, _, _, _, rfl, zmo_181, rfl, rfl, zw5 224 rfl rfl⟩
theorem zq_16_66 : zcpOk 16 (66, 7, .null, [109, 1, 1, 1, 10]) := ⟨_, _, _, _, _, _, rfl, zmo_109, rfl, rfl, zw3 139 rfl rfl⟩
theorem zq_16_69 : zcpOk 16 (69, 7, .null, [183, 1, 1, 1, 11]) := ⟨_, _, _, _, _, _, rfl, zmo_183, rfl, rfl, zw6 4 rfl rfl⟩
theorem zq_16_70 : zcpOk 16 (70, 7, .null, [110, 1, 1, 1, 10]) := ⟨_, _, _, _, _, _, rfl, zmo_110, rfl, rfl, zw3 143 rfl rfl⟩
theorem zq_16_73 : zcpOk 16 (73, 7, .null, [184, 1, 1, 1, 11]) := ⟨_, _, _, _, _, _, rfl, zmo_184, rfl, rfl, zw6 12 rfl rfl⟩
theorem zq_16_74 : zcpOk 16 (74, 7, .null, [111, 2, 2, 1, 10]) := ⟨_, _, _, _, _, _, rfl, zmo_111, rfl, rfl, zw3 151 rfl rfl⟩
theorem zq_16_77 : zcpOk 16 (77, 7, .null, [185, 2, 2, 1, 11]) := ⟨_, _, _, _, _, _, rfl, zmo_185, rfl, rfl, zw6 16 rfl rfl⟩
theorem zq_16_78 : zcpOk 16 (78, 7, .null, [112, 2, 2, 1, 10]) := ⟨_, _, _, _, _, _, rfl, zmo_112, rfl, rfl, zw3 155 rfl rfl⟩
theorem zq_16_81 : zcpOk 16 (81, 7, .null, [186, 2, 2, 1, 11]) := ⟨_, _, _, _, _, _, rfl, zmo_186, rfl, rfl, zw6 21 rfl rfl⟩
theorem zq_16_82 : zcpOk 16 (82, 7, .null, [113, 1, 2, 1, 10]) := ⟨_, _, _, _, _, _, rfl, zmo_113, rfl, rfl, zw3 159 rfl rfl⟩
theorem zq_16_85 : zcpOk 16 (85, 7, .null, [187, 1, 2, 1, 11]) := ⟨_, _, _, _, _, _, rfl, zmo_187, rfl, rfl, zw6 26 rfl rfl⟩
theorem zq_16_86 : zcpOk 16 (86, 7, .null, [114, 1, 2, 1, 10]) := ⟨_, _, _, _, _, _, rfl, zmo_114, rfl, rfl, zw3 163 rfl rfl⟩
theorem zq_16_89 : zcpOk 16 (89, 7, .null, [188, 1, 3, 1, 11]) := ⟨_, _, _, _, _, _, rfl, zmo_188, rfl, rfl, zw6 30 rfl rfl⟩
theorem zq_16_90 : zcpOk 16 (90, 7, .null, [115, 4, 5, 1, 10]) := ⟨_, _, _, _, _, _, rfl, zmo_115, rfl, rfl, zw3 167 rfl rfl⟩
theorem zq_16_94 : zcpOk 16 (94, 7, .null, [193, 4, 6, 1, 11]) := ⟨_, _, _, _, _, _, rfl, zmo_193, rfl, rfl, zw6 34 rfl rfl⟩
theorem zq_16_95 : zcpOk 16 (95, 7, .null, [116, 2, 3, 1, 10]) := ⟨_, _, _, _, _, _, rfl, zmo_116, rfl, rfl, zw3 219 rfl rfl⟩
theorem zq_16_98 : zcpOk 16 (98, 7, .null, [195, 2, 7, 1, 11]) := ⟨_, _, _, _, _, _, rfl, zmo_195, rfl, rfl, zw6 54 rfl rfl⟩
theorem zq_16_99 : zcpOk 16 (99, 7, .null, [117, 3, 4, 1, 10]) := ⟨_, _, _, _, _, _, rfl, zmo_117, rfl, rfl, zw4 26 rfl rfl⟩
theorem zq_16_102 : zcpOk 16 (102, 7, .null, [198, 3, 5, 1, 11]) := ⟨_, _, _, _, _, _, rfl, zmo_198, rfl, rfl, zw6 62 rfl rfl⟩
theorem zq_16_103 : zcpOk 16 (103, 7, .null, [118, 1, 1, 1, 10]) := ⟨_, _, _, _, _, _, rfl, zmo_118, rfl, rfl, zw4 52 rfl rfl⟩
theorem zq_16_106 : zcpOk 16 (106, 7, .null, [199, 1, 5, 1, 11]) := ⟨_, _, _, _, _, _, rfl, zmo_199, rfl, rfl, zw6 74 rfl rfl⟩
theorem zq_16_107 : zcpOk 16 (107, 7, .null, [119, 3, 3, 2, 10]) := ⟨_, _, _, _, _, _, rfl, zmo_119, rfl, rfl, zw4 61 rfl rfl⟩
theorem zq_16_111 : zcpOk 16 (111, 7, .null, [200, 3, 13, 2, 11]) := ⟨_, _, _, _, _, _, rfl, zmo_200, rfl, rfl, zw6 78 rfl rfl⟩
theorem zq_16_112 : zcpOk 16 (112, 7, .null, [120, 3, 3, 1, 10]) := ⟨_, _, _, _, _, _, rfl, zmo_120, rfl, rfl, zw4 73 rfl rfl⟩
theorem zq_16_116 : zcpOk 16 (116, 7, .null, [203, 3, 3, 1, 11]) := ⟨_, _, _, _, _, _, rfl, zmo_203, rfl, rfl, zw6 84 rfl rfl⟩
theorem zq_16_117 : zcpOk 16 (117, 7, .null, [121, 1, 1, 1, 10]) := ⟨_, _, _, _, _, _, rfl, zmo_121, rfl, rfl, zw4 86 rfl rfl⟩
theorem zq_16_120 : zcpOk 16 (120, 7, .null, [204, 1, 3, 1, 11]) := ⟨_, _, _, _, _, _, rfl, zmo_204, rfl, rfl, zw6 97 rfl rfl⟩
theorem zq_16_121 : zcpOk 16 (121, 7, .null, [122, 4, 4, 1, 10]) := ⟨_, _, _, _, _, _, rfl, zmo_122, rfl, rfl, zw4 94 rfl rfl⟩
theorem zq_16_125 : zcpOk 16 (125, 7, .null, [207, 4, 4, 1, 11]) := ⟨_, _, _, _, _, _, rfl, zmo_207, rfl, rfl, zw6 101 rfl rfl⟩
theorem zq_16_126 : zcpOk 16 (126, 7, .null, [123, 2, 2, 1, 10]) := ⟨_, _, _, _, _, _, rfl, zmo_123, rfl, rfl, zw4 113 rfl rfl⟩
theorem zq_16_129 : zcpOk 16 (129, 7, .null, [208, 2, 4, 1, 11]) := ⟨_, _, _, _, _, _, rfl, zmo_208, rfl, rfl, zw6 114 rfl rfl⟩
theorem zq_16_130 : zcpOk 16 (130, 7, .null, [124, 4, 4, 1, 10]) := ⟨_, _, _, _, _, _, rfl, zmo_124, rfl, rfl, zw4 121 rfl rfl⟩
theorem zq_16_133 : zcpOk 16 (133, 7, .null, [210, 4, 4, 1, 11]) := ⟨_, _, _, _, _, _, rfl, zmo_210, rfl, rfl, zw6 118 rfl rfl⟩
theorem zq_16_134 : zcpOk 16 (134, 7, .null, [127, 4, 7, 1, 10]) := ⟨_, _, _, _, _, _, rfl, zmo_127, rfl, rfl, zw4 129 rfl rfl⟩
theorem zq_16_137 : zcpOk 16 (137, 7, .null, [211, 4, 8, 1, 11]) := ⟨_, _, _, _, _, _, rfl, zmo_211, rfl, rfl, zw6 127 rfl rfl⟩
theorem zq_16_138 : zcpOk 16 (138, 7, .null, [128, 4, 5, 1, 10]) := ⟨_, _, _, _, _, _, rfl, zmo_128, rfl, rfl, zw4 142 rfl rfl⟩
theorem zq_16_142 : zcpOk 16 (142, 7, .null, [215, 4, 5, 1, 11]) := ⟨_, _, _, _, _, _, rfl, zmo_215, rfl, rfl, zw6 132 rfl rfl⟩
theorem zq_16_143 : zcpOk 16 (143, 7, .null, [129, 1, 1, 1, 10]) := ⟨_, _, _, _, _, _, rfl, zmo_129, rfl, rfl, zw4 172 rfl rfl⟩
theorem zq_16_146 : zcpOk 16 (146, 7, .null, [217, 1, 1, 1, 11]) := ⟨_, _, _, _, _, _, rfl, zmo_217, rfl, rfl, zw6 148 rfl rfl⟩
theorem zq_16_147 : zcpOk 16 (147, 7, .null, [130, 3, 4, 1, 10]) := ⟨_, _, _, _, _, _, rfl, zmo_130, rfl, rfl, zw4 181 rfl rfl⟩
theorem zq_16_150 : zcpOk 16 (150, 7, .null, [219, 3, 7, 1, 11]) := ⟨_, _, _, _, _, _, rfl, zmo_219, rfl, rfl, zw6 156 rfl rfl⟩
theorem zq_16_151 : zcpOk 16 (151, 7, .null, [131, 1, 1, 1, 10]) := ⟨_, _, _, _, _, _, rfl, zmo_131, rfl, rfl, zw4 196 rfl rfl⟩
theorem zq_16_154 : zcpOk 16 (154, 7, .null, [220, 1, 5, 1, 11]) := ⟨_, _, _, _, _, _, rfl, zmo_220, rfl, rfl, zw6 163 rfl rfl⟩
theorem zq_16_155 : zcpOk 16 (155, 7, .null, [133, 2, 2, 1, 10]) := ⟨_, _, _, _, _, _, rfl, zmo_133, rfl, rfl, zw4 204 rfl rfl⟩
theorem zq_16_158 : zcpOk 16 (158, 7, .null, [222, 2, 2, 1, 11]) := ⟨_, _, _, _, _, _, rfl, zmo_222, rfl, rfl, zw6 167 rfl rfl⟩
theorem zq_16_159 : zcpOk 16 (159, 7, .null, [134, 2, 3, 1, 10]) := ⟨_, _, _, _, _, _, rfl, zmo_134, rfl, rfl, zw4 216 rfl rfl⟩
theorem zq_16_162 : zcpOk 16 (162, 7, .null, [223, 2, 3, 1, 11]) := ⟨_, _, _, _, _, _, rfl, zmo_223, rfl, rfl, zw6 175 rfl rfl⟩
theorem zq_16_163 : zcpOk 16 (163, 7, .null, [135, 3, 4, 1, 10]) := ⟨_, _, _, _, _, _, rfl, zmo_135, rfl, rfl, zw4 220 rfl rfl⟩
theorem zq_16_166 : zcpOk 16 (166, 7, .null, [224, 3, 3, 1, 11]) := ⟨_, _, _, _, _, _, rfl, zmo_224, rfl, rfl, zw6 180 rfl rfl⟩
theorem zq_16_167 : zcpOk 16 (167, 7, .null, [136, 4, 4, 1, 10]) := ⟨_, _, _, _, _, _, rfl, zmo_136, rfl, rfl, zw4 225 rfl rfl⟩
theorem zq_16_170 : zcpOk 16 (170, 7, .null, [226, 4, 4, 1, 11]) := ⟨_, _, _, _, _, _, rfl, zmo_226, rfl, rfl, zw6 184 rfl rfl⟩
theorem zq_16_171 : zcpOk 16 (171, 7, .null, [137, 6, 8, 1, 10]) := ⟨_, _, _, _, _, _, rfl, zmo_137, rfl, rfl, zw5 1 rfl rfl⟩
theorem zq_16_175 : zcpOk 16 (175, 7, .null, [227, 6, 9, 1, 11]) := ⟨_, _, _, _, _, _, rfl, zmo_227, rfl, rfl, zw6 196 rfl rfl⟩
theorem zq_16_176 : zcpOk 16 (176, 7, .null, [138, 1, 1, 1, 10]) := ⟨_, _, _, _, _, _, rfl, zmo_138, rfl, rfl, zw5 5 rfl rfl⟩
theorem zq_16_179 : zcpOk 16 (179, 7, .null, [228, 1, 1, 1, 11]) := ⟨_, _, _, _, _, _, rfl, zmo_228, rfl, rfl, zw6 201 rfl rfl⟩
theorem zq_16_180 : zcpOk 16 (180, 7, .null, [139, 1, 1, 1, 10]) := ⟨_, _, _, _, _, _, rfl, zmo_139, rfl, rfl, zw5 9 rfl rfl⟩
theorem zq_16_183 : zcpOk 16 (183, 7, .null, [229, 1, 2, 1, 11]) := ⟨_, _, _, _, _, _, rfl, zmo_229, rfl, rfl, zw6 205 rfl rfl⟩
theorem zq_16_184 : zcpOk 16 (184, 7, .null, [140, 2, 2, 1, 10]) := ⟨_, _, _, _, _, _, rfl, zmo_140, rfl, rfl, zw5 13 rfl rfl⟩
theorem zq_16_187 : zcpOk 16 (187, 7, .null, [230, 2, 2, 1, 11]) := ⟨_, _, _, _, _, _, rfl, zmo_230, rfl, rfl, zw6 209 rfl rfl⟩
set_option maxRecDepth 10000 in
theorem zqa_16 : ∀ q ∈ zcp_16, zcpOk 16 q := List.forall_mem_cons.mpr ⟨zq_16_13, List.forall_mem_cons.mpr ⟨zq_16_17, List.forall_mem_cons.mpr ⟨zq_16_18, List.forall_mem_cons.mpr ⟨zq_16_22, List.forall_mem_cons.mpr ⟨zq_16_23, List.forall_mem_cons.mpr ⟨zq_16_26, List.forall_mem_cons.mpr ⟨zq_16_27, List.forall_mem_cons.mpr ⟨zq_16_30, List.forall_mem_cons.mpr ⟨zq_16_31, List.forall_mem_cons.mpr ⟨zq_16_35, List.forall_mem_cons.mpr ⟨zq_16_36, List.forall_mem_cons.mpr ⟨zq_16_39, List.forall_mem_cons.mpr ⟨zq_16_40, List.forall_mem_cons.mpr ⟨zq_16_43, List.forall_mem_cons.mpr ⟨zq_16_44, List.forall_mem_cons.mpr ⟨zq_16_47, List.forall_mem_cons.mpr ⟨zq_16_48, List.forall_mem_cons.mpr ⟨zq_16_51, List.forall_mem_cons.mpr ⟨zq_16_52, List.forall_mem_cons.mpr ⟨zq_16_56, List.forall_mem_cons.mpr ⟨zq_16_57, List.forall_mem_cons.mpr ⟨zq_16_61, List.forall_mem_cons.mpr ⟨zq_16_62, List.forall_mem_cons.mpr ⟨zq_16_65, List.forall_mem_cons.mpr ⟨zq_16_66, List.forall_mem_cons.mpr ⟨zq_16_69, List.forall_mem_cons.mpr ⟨zq_16_70, List.forall_mem_cons.mpr ⟨zq_16_73, List.forall_mem_cons.mpr ⟨zq_16_74, List.forall_mem_cons.mpr ⟨zq_16_77, List.forall_mem_cons.mpr ⟨zq_16_78, List.forall_mem_cons.mpr ⟨zq_16_81, List.forall_mem_cons.mpr ⟨zq_16_82, List.forall_mem_cons.mpr ⟨zq_16_85, List.forall_mem_cons.mpr ⟨zq_16_86, List.forall_mem_cons.mpr ⟨zq_16_89, List.forall_mem_cons.mpr ⟨zq_16_90, List.forall_mem_cons.mpr ⟨zq_16_94, List.forall_mem_cons.mpr ⟨zq_16_95, List.forall_mem_cons.mpr ⟨zq_16_98, List.forall_mem_cons.mpr ⟨zq_16_99, List.forall_mem_cons.mpr ⟨zq_16_102, List.forall_mem_cons.mpr ⟨zq_16_103, List.forall_mem_cons.mpr ⟨zq_16_106, List.forall_mem_cons.mpr ⟨zq_16_107, List.forall_mem_cons.mpr ⟨zq_16_111, List.forall_mem_cons.mpr ⟨zq_16_112, List.forall_mem_cons.mpr ⟨zq_16_116, List.forall_mem_cons.mpr ⟨zq_16_117, List.forall_mem_cons.mpr ⟨zq_16_120, List.forall_mem_cons.mpr ⟨zq_16_121, List.forall_mem_cons.mpr ⟨zq_16_125, List.forall_mem_cons.mpr ⟨zq_16_126, List.forall_mem_cons.mpr ⟨zq_16_129, List.forall_mem_cons.mpr ⟨zq_16_130, List.forall_mem_cons.mpr ⟨zq_16_133, List.forall_mem_cons.mpr ⟨zq_16_134, List.forall_mem_cons.mpr ⟨zq_16_137, List.forall_mem_cons.mpr ⟨zq_16_138, List.forall_mem_cons.mpr ⟨zq_16_142, List.forall_mem_cons.mpr ⟨zq_16_143, List.forall_mem_cons.mpr ⟨zq_16_146, List.forall_mem_cons.mpr ⟨zq_16_147, List.forall_mem_cons.mpr ⟨zq_16_150, List.forall_mem_cons.mpr ⟨zq_16_151, List.forall_mem_cons.mpr ⟨zq_16_154, List.forall_mem_cons.mpr ⟨zq_16_155, List.forall_mem_cons.mpr ⟨zq_16_158, List.forall_mem_cons.mpr ⟨zq_16_159, List.forall_mem_cons.mpr ⟨zq_16_162, List.forall_mem_cons.mpr ⟨zq_16_163, List.forall_mem_cons.mpr ⟨zq_16_166, List.forall_mem_cons.mpr ⟨zq_16_167, List.forall_mem_cons.mpr ⟨zq_16_170, List.forall_mem_cons.mpr ⟨zq_16_171, List.forall_mem_cons.mpr ⟨zq_16_175, List.forall_mem_cons.mpr ⟨zq_16_176, List.forall_mem_cons.mpr ⟨zq_16_179, List.forall_mem_cons.mpr ⟨zq_16_180, List.forall_mem_cons.mpr ⟨zq_16_183, List.forall_mem_cons.mpr ⟨zq_16_184, List.forall_mem_cons.mpr ⟨zq_16_187, fun _ h => absurd h List.not_mem_nil⟩⟩⟩⟩⟩⟩⟩⟩⟩⟩⟩⟩⟩⟩⟩⟩⟩⟩⟩⟩⟩⟩⟩⟩⟩⟩⟩⟩⟩⟩⟩⟩⟩⟩⟩⟩⟩⟩⟩⟩⟩⟩⟩⟩⟩⟩⟩⟩⟩⟩⟩⟩⟩⟩⟩⟩⟩⟩⟩⟩⟩⟩⟩⟩⟩⟩⟩⟩⟩⟩⟩⟩⟩⟩⟩⟩⟩⟩⟩⟩⟩⟩
theorem zcp_ok : ∀ (cn : Nat) (q : zCp), q ∈ zcp cn → zcpOk cn q
  | 0, q, h => zqa_0 q h
  | 1, q, h => zqa_1 q h
  | 2, q, h => zqa_2 q h
  | 3, q, h => zqa_3 q h
  | 4, q, h => zqa_4 q h
  | 5, q, h => zqa_5 q h
  | 6, q, h => zqa_6 q h
  | 7, q, h => zqa_7 q h
  | 8, q, h => zqa_8 q h
  | 9, q, h => zqa_9 q h
  | 10, q, h => zqa_10 q h
  | 11, q, h => zqa_11 q h
  | 12, q, h => zqa_12 q h
  | 13, q, h => zqa_13 q h
  | 14, q, h => zqa_14 q h
  | 15, q, h => zqa_15 q h
  | 16, q, h => zqa_16 q h
  | n + 17, q, h => by cases h
