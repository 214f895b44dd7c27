theorem zi_0 : ∀ w ∈ u_ws RX0 TX0 2, w ∈ zgood := by decide +kernel
theorem zi_1 : ∀ w ∈ u_ws RX1 TX1 4, w ∈ zgood := by decide +kernel
theorem zi_2 : ∀ w ∈ u_ws RX2 TX2 2, w ∈ zgood := by decide +kernel
theorem zi_3 : ∀ w ∈ u_ws RX3 TX3 3, w ∈ zgood := by decide +kernel
theorem zi_4 : ∀ w ∈ u_ws RX4 TX4 3, w ∈ zgood := by decide +kernel
theorem zi_5 : ∀ w ∈ u_ws RX5 TX5 3, w ∈ zgood := by decide +kernel
theorem zi_6 : ∀ w ∈ u_ws RX6 TX6 15, w ∈ zgood := by decide +kernel
theorem zi_7 : ∀ w ∈ u_ws RX7 TX7 1, w ∈ zgood := by decide +kernel
theorem zi_8 : ∀ w ∈ u_ws RX8 TX8 5, w ∈ zgood := by decide +kernel
theorem zi_9 : ∀ w ∈ u_ws RX9 TX9 16, w ∈ zgood := by decide +kernel
theorem zi_10 : ∀ w ∈ u_ws RX10 TX10 18, w ∈ zgood := by decide +kernel
theorem zcl_ok : ∀ (ci : Nat) (q : vw_C), vwCl[ci]? = some q → (∀ w ∈ u_ws q.1 q.2.1 q.2.2, w ∈ zgood) ∧ ∃ ty : Nat → FieldType, (∀ k, k < q.2.2 → parseFieldDescriptor (q.2.1 k).2.2.1 = some (ty k)) ∧ ∀ a, a < q.2.2 → ∀ b, b < q.2.2 → a ≠ b → (q.2.1 a).2.1 ≠ (q.2.1 b).2.1
  | 0, q, h => by cases h; exact ⟨zi_0, tyX0, tyX0_ok, nmX0⟩
  | 1, q, h => by cases h; exact ⟨zi_1, tyX1, tyX1_ok, nmX1⟩
  | 2, q, h => by cases h; exact ⟨zi_2, tyX2, tyX2_ok, nmX2⟩
  | 3, q, h => by cases h; exact ⟨zi_3, tyX3, tyX3_ok, nmX3⟩
  | 4, q, h => by cases h; exact ⟨zi_4, tyX4, tyX4_ok, nmX4⟩
  | 5, q, h => by cases h; exact ⟨zi_5, tyX5, tyX5_ok, nmX5⟩
  | 6, q, h => by cases h; exact ⟨zi_6, tyX6, tyX6_ok, nmX6⟩
  | 7, q, h => by cases h; exact ⟨zi_7, tyX7, tyX7_ok, nmX7⟩
  | 8, q, h => by cases h; exact ⟨zi_8, tyX8, tyX8_ok, nmX8⟩
  | 9, q, h => by cases h; exact ⟨zi_9, tyX9, tyX9_ok, nmX9⟩
  | 10, q, h => by cases h; exact ⟨zi_10, tyX10, tyX10_ok, nmX10⟩
  | n + 11, q, h => by simp [vwCl] at h
section ZS
variable {p : Program} {l : Launch} {e : Env} {R : Room} {s : State} {m : MethodId} {args : Array Value} {below : List Frame} {meth : Method} {c : Code} {H : Heap} {locs : List Loc} {cells slots : Nat} {Q : State → Prop}
variable {L : Nat} {ad : Nat → Nat} {D : va_G} {cA : FieldType → ClassId} {A : Nat → Prop} {M0 M M' : zM} {bb : ByteArray} {cn mx pc : Nat} {ls : Array Slot} {lc lc' : zLo} {st st' : List Value}
set_option maxHeartbeats 4000000 in
theorem zld_W {ty : FieldType} (hG : zG L ad D cA A M0 s) (hP : va_P D vwCl (zws L ad cA M) H) (hS : va_S A s.heap H locs) (hM : ∀ i, zNW ≤ i → M i = M0 i) {a : Nat} {j : Int32} (hs : zld L ty lc st M a j = some (lc', st', M')) {nx : Nat}
    (hcase : ty = .int ∨ ty = .char ∨ ty = .byte) (hb1 : ty = .byte → zNW ≤ a)
    (row : ∀ {cell : Cell} {v : Value}, H[ad a]? = some cell → s.isArrayOf cell ty → cell.vm ≠ .unknown → ¬ (j < 0 ∨ cell.slots.size ≤ j.toNatClampNeg) → cell.slots[j.toNatClampNeg]? = some v → W p l e R s m args below meth c H locs cells slots Q (F0 m nx ls (v :: st.map (zv ad))) → W p l e R s m args below meth c H locs cells slots Q (F0 m pc ls (.int j :: .ref (ad a) :: st.map (zv ad))))
    (kk : W p l e R s m args below meth c H locs cells slots Q (F0 m nx ls (st'.map (zv ad)))) : W p l e R s m args below meth c H locs cells slots Q (F0 m pc ls (.int j :: .ref (ad a) :: st.map (zv ad))) := by
  unfold zld at hs
  split at hs
  case h_2 => cases hs
  case h_1 n hn =>
  split at hs
  case isFalse => cases hs
  case isTrue hin =>
  cases hs
  have hvp := zin_vp hin
  have hlt : j.toNatClampNeg < n := Nat.not_le.mp fun q => hvp (Or.inr q)
  unfold zar at hn
  split at hn
  case h_2 => cases hn
  case h_1 t n' hsh =>
  split at hn
  case isFalse => cases hn
  case isTrue ht =>
  cases hn
  subst ht
  by_cases ha : a < zN L
  · have hget := zws_get (L := L) (ad := ad) (cA := cA) (M := M) ha
    have hc : zcell L ad cA M a = .inl (cA t, n, .inl (M a)) := by unfold zcell; rw [hsh]
    rw [hc] at hget
    have hcell := hP a _ hget
    have harr : ArrOfT s (cA t) t := by
      rcases hcase with rfl | rfl | rfl
      · exact (hG.1.2 0 _ rfl).1
      · exact (hG.1.2 1 _ rfl).1
      · exact absurd (hb1 rfl) (by have := zN_le L; omega)
    refine row (v := .int (M a j.toNatClampNeg)) hcell (harr n (fun k => .int (M a k))) (fun q => by cases q) (by show ¬ (j < 0 ∨ (arrV _ _ _).slots.size ≤ _); rw [arrV_size]; exact hvp) (by show (arrV _ _ _).slots[_]? = _; rw [arrV_read _ _ hlt]) kk
  · have hw : zNW ≤ a := by
      rcases zsh_arr hsh with ⟨h, -⟩ | h
      · exact absurd h ha
      · exact h
    obtain ⟨cell, h1, h2, h3, h4, h5, h6, h7⟩ := hG.2.2.2.1 a t n hw hsh
    refine row (v := .int (M a j.toNatClampNeg)) (by rw [hS.2.1 _ (Array.getElem?_eq_some_iff.mp h1).1 h7]; exact h1) h2 h3 (by
      intro q
      rcases q with q | q
      · exact hvp (Or.inl q)
      · omega) (by rw [h6 _ hlt, hM a hw]) kk
set_option maxHeartbeats 4000000 in
theorem zsto_W {ty : FieldType} (hG : zG L ad D cA A M0 s) (hinj : ∀ i j, i < zN L → j < zN L → ad i = ad j → i = j) (hAd : ∀ i, i < zN L → A (ad i)) (hP : va_P D vwCl (zws L ad cA M) H) (hS : va_S A s.heap H locs) (hM : ∀ i, zNW ≤ i → M i = M0 i) {a : Nat} {j x y : Int32} (hs : zsto L ty lc st M a j y = some (lc', st', M')) {nx : Nat}
    (hcase : ty = .int ∨ ty = .char)
    (row : ∀ {cell : Cell}, H[ad a]? = some cell → s.isArrayOf cell ty → cell.vm ≠ .unknown → ¬ (j < 0 ∨ cell.slots.size ≤ j.toNatClampNeg) → (∀ H1 : Heap, H1[ad a]? = some (cell.setSlot j.toNatClampNeg (.int y)) → H1.size = H.size → (∀ q : Nat, q ≠ ad a → H1[q]? = H[q]?) → W p l e R s m args below meth c H1 (locs ++ [⟨ad a, j.toNatClampNeg⟩]) cells slots Q (F0 m nx ls (st.map (zv ad)))) → W p l e R s m args below meth c H locs cells slots Q (F0 m pc ls (.int x :: .int j :: .ref (ad a) :: st.map (zv ad))))
    (kk : ∀ (H1 : Heap) (locs1 : List Loc), va_P D vwCl (zws L ad cA M') H1 → va_S A s.heap H1 locs1 → (∀ i, zNW ≤ i → M' i = M0 i) → W p l e R s m args below meth c H1 locs1 cells slots Q (F0 m nx ls (st'.map (zv ad)))) : W p l e R s m args below meth c H locs cells slots Q (F0 m pc ls (.int x :: .int j :: .ref (ad a) :: st.map (zv ad))) := by
  unfold zsto at hs
  split at hs
  case h_2 => cases hs
  case h_1 n hn =>
  split at hs
  case isFalse => cases hs
  case isTrue ha0 =>
  split at hs
  case isFalse => cases hs
  case isTrue hin =>
  cases hs
  have ha1 : a < zNW := by simpa using ha0
  have hvp := zin_vp hin
  have hlt : j.toNatClampNeg < n := Nat.not_le.mp fun q => hvp (Or.inr q)
  unfold zar at hn
  split at hn
  case h_2 => cases hn
  case h_1 t n' hsh =>
  split at hn
  case isFalse => cases hn
  case isTrue ht =>
  cases hn
  subst ht
  have ha : a < zN L := by
    rcases zsh_arr hsh with ⟨h, -⟩ | h
    · exact h
    · omega
  have hget := zws_get (L := L) (ad := ad) (cA := cA) (M := M) ha
  have hc : zcell L ad cA M a = .inl (cA t, n, .inl (M a)) := by unfold zcell; rw [hsh]
  rw [hc] at hget
  have hcell := hP a _ hget
  have harr : ArrOfT s (cA t) t := by
    rcases hcase with rfl | rfl
    · exact (hG.1.2 0 _ rfl).1
    · exact (hG.1.2 1 _ rfl).1
  have hD := zD (L := L) (cA := cA) hinj hAd M
  refine row hcell (harr n (fun k => .int (M a k))) (fun q => by cases q) (by show ¬ (j < 0 ∨ (arrV _ _ _).slots.size ≤ _); rw [arrV_size]; exact hvp) fun H1 e1 e2 e3 => ?_
  have hc' : zcell L ad cA (zput M a j.toNatClampNeg y) a = .inl (cA t, n, .inl (upd (M a) j.toNatClampNeg y)) := by unfold zcell; rw [hsh, zput_self]
  have hset := zws_set (L := L) (ad := ad) (cA := cA) (M := M) (M' := zput M a j.toNatClampNeg y) ha (fun k hk => zput_ne hk) hc'
  refine kk H1 _ ?_ (hS.put e2 e3 (hAd a ha)) (fun i hi => by rw [zput_ne (by omega)]; exact hM i hi)
  rw [← hset]
  refine hP.set hD hget ?_ e3
  show H1[ad a]? = some (vp_cell _ _)
  rw [e1]
  show some ((vp_cell (cA t) (n, .inl (M a))).setSlot _ _) = some (vp_cell (cA t) (n, .inl (upd (M a) j.toNatClampNeg y)))
  rw [vp_cell_i, vp_cell_i, arrV_store]
  congr 2
  funext q
  by_cases hq : q = j.toNatClampNeg
  · subst hq
    simp [updV, upd]
  · simp [updV, upd, hq]
end ZS
