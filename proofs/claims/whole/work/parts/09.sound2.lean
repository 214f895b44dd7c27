def zfval (ad : Nat → Nat) (x : Int32) (f : Option Nat) : Value := match f with
  | some r => .ref (ad r)
  | none => .int x
section ZS
variable {p : Program} {l : Launch} {e : Env} {R : Room} {s : State} {m : MethodId} {args : Array Value} {below : List Frame} {meth : Method} {c : Code} {H : Heap} {locs : List Loc} {cells slots : Nat} {Q : State → Prop}
variable {L : Nat} {ad : Nat → Nat} {D : va_G} {cA : FieldType → ClassId} {A : Nat → Prop} {M0 M M' : zM} {bb : ByteArray} {cn mx pc : Nat} {ls : Array Slot} {lc lc' : zLo} {st st' : List Value}
theorem zgetf_W (hx : p.tables.exec = Jvm.exec) (hb : c.code = bb) (hown : s.vm.findClass (zon cn) = some m.cls) (hts : ∀ w ∈ zgood, w.before args s = true) (hG : zG L ad D cA A M0 s) (hP : va_P D vwCl (zws L ad cA M) H) (hS : va_S A s.heap H locs) (hM : ∀ i, zNW ≤ i → M i = M0 i)
    {i o ci k : Nat} {v : Value} {f : Option Nat} (hf : zfld L o ci k = some f) (hcp : (i, 0, v, [ci, k]) ∈ zcp cn ∨ (i, 1, v, [ci, k]) ∈ zcp cn ∨ (i, 10, v, [ci, k]) ∈ zcp cn) (hdg : decode bb pc = .ok (.getfield i, 3))
    (kk : W p l e R s m args below meth c H locs cells slots Q (F0 m (pc + 3) ls (zfval ad (M o k) f :: st.map (zv ad)))) : W p l e R s m args below meth c H locs cells slots Q (F0 m pc ls (.ref (ad o) :: st.map (zv ad))) := by
  unfold zfld at hf
  split at hf
  case h_2 => cases hf
  case h_1 c0 fs hsh =>
  split at hf
  case isFalse => cases hf
  case isTrue hc0 =>
  subst hc0
  have hobj := zsh_obj hsh
  have low : o < zN L → (zws L ad cA M)[o]? = some (ad o, .inr (c0, zfv ad (M o) 0 fs)) := fun ho => by
    rw [zws_get ho]
    unfold zcell
    rw [hsh]
  have hval : (zfv ad (M o) 0 fs)[k]? = some (zfval ad (M o k) f) := by
    rcases f with _ | r
    · simpa [zfval] using zfv_int ad (M o) fs 0 k hf
    · exact zfv_ref ad (M o) fs 0 k r hf
  rcases hcp with hcp | hcp | hcp
  · obtain ⟨C, T, N, h1, h2, h3⟩ := zcp_ok cn _ hcp
    rcases hobj with ⟨ho, -⟩ | ⟨-, hc, -⟩ | hc
    · exact va_get (D := D) hx hb hts (zcl_ok c0 _ h1).1 hown hG.1 hP o (low ho) h1 k h2 (hts _ h3) (fun _ h => h) hval hdg kk
    · subst hc; simp [vwCl] at h1
    · subst hc; simp [vwCl] at h1
  · obtain ⟨C, T, N, h1, h2, h3⟩ := zcp_ok cn _ hcp
    rcases hobj with ⟨ho, -⟩ | ⟨-, hc, -⟩ | hc
    · exact va_getN (D := D) hx hb hts (zcl_ok c0 _ h1).1 hown hG.1 hP o (low ho) h1 k h2 (va_Nw.use rfl (hG.2.1 _ h3)) (fun _ h => h) hval hdg kk
    · subst hc; simp [vwCl] at h1
    · subst hc; simp [vwCl] at h1
  · obtain ⟨hc, h3⟩ := zcp_ok cn _ hcp
    subst hc
    rcases hobj with ⟨-, hc⟩ | ⟨ho, -, hfs⟩ | hc
    rotate_left 2
    · omega
    · omega
    · subst ho; subst hfs
      rcases h3 with ⟨rfl, h3⟩ | ⟨rfl, h3⟩
      · simp only [znth, Option.some.injEq] at hf
        subst hf
        exact vk_getf hx hb hG.2.2.2.2.2.1 hS hown (hts _ h3) (fun _ h => h) hdg kk
      · simp only [znth, Option.some.injEq] at hf
        subst hf
        have e : M 69 1 = M0 69 1 := by rw [hM 69 (by decide)]
        simp only [zfval, e] at kk
        exact vk_getf hx hb hG.2.2.2.2.2.2.1 hS hown (hts _ h3) (fun _ h => h) hdg kk
set_option maxHeartbeats 4000000 in
theorem zputf_W (hx : p.tables.exec = Jvm.exec) (hb : c.code = bb) (hown : s.vm.findClass (zon cn) = some m.cls) (hts : ∀ w ∈ zgood, w.before args s = true) (hG : zG L ad D cA A M0 s) (hinj : ∀ i j, i < zN L → j < zN L → ad i = ad j → i = j) (hAd : ∀ i, i < zN L → A (ad i)) (hP : va_P D vwCl (zws L ad cA M) H) (hS : va_S A s.heap H locs) (hM : ∀ i, zNW ≤ i → M i = M0 i)
    {i o ci k : Nat} {v : Value} {x : Int32} (hf : zfld L o ci k = some none) (ho1 : o < zNW) (hcp : (i, 0, v, [ci, k]) ∈ zcp cn ∨ (i, 1, v, [ci, k]) ∈ zcp cn) (hfin : ∀ C T N, vwCl[ci]? = some (C, T, N) → (T k).2.2.2 = false ∧ parseFieldDescriptor (T k).2.2.1 = some .int) (hdg : decode bb pc = .ok (.putfield i, 3))
    (kk : ∀ (H1 : Heap) (locs1 : List Loc), va_P D vwCl (zws L ad cA (zput M o k x)) H1 → va_S A s.heap H1 locs1 → (∀ i, zNW ≤ i → zput M o k x i = M0 i) → W p l e R s m args below meth c H1 locs1 cells slots Q (F0 m (pc + 3) ls (st.map (zv ad)))) : W p l e R s m args below meth c H locs cells slots Q (F0 m pc ls (.int x :: .ref (ad o) :: st.map (zv ad))) := by
  unfold zfld at hf
  split at hf
  case h_2 => cases hf
  case h_1 c0 fs hsh =>
  split at hf
  case isFalse => cases hf
  case isTrue hc0 =>
  subst hc0
  have hc9 : c0 < 11 := by
    have : ∃ C T N, vwCl[c0]? = some (C, T, N) := by
      rcases hcp with hcp | hcp
      · obtain ⟨C, T, N, h1, -⟩ := zcp_ok cn _ hcp; exact ⟨C, T, N, h1⟩
      · obtain ⟨C, T, N, h1, -⟩ := zcp_ok cn _ hcp; exact ⟨C, T, N, h1⟩
    obtain ⟨C, T, N, h1⟩ := this
    exact (List.getElem?_eq_some_iff.mp h1).1
  have ho : o < zN L := by
    rcases zsh_obj hsh with ⟨h, -⟩ | ⟨-, h, -⟩ | h
    · exact h
    · omega
    · omega
  have hget : (zws L ad cA M)[o]? = some (ad o, .inr (c0, zfv ad (M o) 0 fs)) := by
    rw [zws_get ho]
    unfold zcell
    rw [hsh]
  have hD := zD (L := L) (cA := cA) hinj hAd M
  have hkl : k < (zfv ad (M o) 0 fs).length := by
    rw [zfv_len]
    rw [znth_eq] at hf
    exact (List.getElem?_eq_some_iff.mp hf).1
  have hc' : zcell L ad cA (zput M o k x) o = .inr (c0, (zfv ad (M o) 0 fs).set k (.int x)) := by
    unfold zcell
    rw [hsh, zput_self]
    have := zfv_set ad (M o) x fs 0 k hf
    rw [this]
    simp only [Nat.zero_add]
    rfl
  have hset := zws_set (L := L) (ad := ad) (cA := cA) (M := M) (M' := zput M o k x) ho (fun q hq => zput_ne hq) hc'
  have fin : ∀ (H1 : Heap) (locs1 : List Loc), va_P D vwCl ((zws L ad cA M).set o (ad o, .inr (c0, (zfv ad (M o) 0 fs).set k (.int x)))) H1 → va_D A ((zws L ad cA M).set o (ad o, .inr (c0, (zfv ad (M o) 0 fs).set k (.int x)))) → va_S A s.heap H1 locs1 → W p l e R s m args below meth c H1 locs1 cells slots Q (F0 m (pc + 3) ls (st.map (zv ad))) := by
    intro H1 locs1 q1 _ q3
    rw [hset] at q1
    exact kk H1 locs1 q1 q3 (fun i hi => by rw [zput_ne (by omega)]; exact hM i hi)
  rcases hcp with hcp | hcp
  · obtain ⟨C, T, N, h1, h2, h3⟩ := zcp_ok cn _ hcp
    obtain ⟨hin, ty, hty, hnm⟩ := zcl_ok c0 _ h1
    obtain ⟨g1, g2⟩ := hfin C T N h1
    exact va_put (D := D) hx hb hts hin ty hty hnm hown hG.1 hP hD hS o hget h1 k h2 (hts _ h3) (fun _ h => h) g1 g2 rfl rfl hkl hdg fin
  · obtain ⟨C, T, N, h1, h2, h3⟩ := zcp_ok cn _ hcp
    obtain ⟨hin, ty, hty, hnm⟩ := zcl_ok c0 _ h1
    obtain ⟨g1, g2⟩ := hfin C T N h1
    exact va_putN (D := D) hx hb hts hin ty hty hnm hown hG.1 hP hD hS o hget h1 k h2 (va_Nw.use rfl (hG.2.1 _ h3)) (fun _ h => h) g1 g2 rfl rfl hkl hdg fin
theorem zalen_W (hx : p.tables.exec = Jvm.exec) (hb : c.code = bb) (hG : zG L ad D cA A M0 s) (hP : va_P D vwCl (zws L ad cA M) H) (hS : va_S A s.heap H locs) {a n : Nat} (hn : zalen L a = some n) (hdg : decode bb pc = .ok (.arraylength, 1))
    (kk : W p l e R s m args below meth c H locs cells slots Q (F0 m (pc + 1) ls (.int (Int32.ofNat n) :: st.map (zv ad)))) : W p l e R s m args below meth c H locs cells slots Q (F0 m pc ls (.ref (ad a) :: st.map (zv ad))) := by
  unfold zalen at hn
  split at hn
  case h_2 => cases hn
  case h_1 t k hsh =>
  cases hn
  rcases zsh_arr hsh with ⟨ha, hty⟩ | ha
  · have hget := zws_get (L := L) (ad := ad) (cA := cA) (M := M) ha
    have hc : zcell L ad cA M a = .inl (cA t, n, .inl (M a)) := by unfold zcell; rw [hsh]
    rw [hc] at hget
    rcases hty with rfl | rfl
    · exact va_alen hx hb hG.1 hP a 0 hget rfl rfl hdg kk
    · exact va_alen hx hb hG.1 hP a 1 hget rfl rfl hdg kk
  · exact va_tlen hx hb (hG.2.2.2.1 a t n ha hsh) hS rfl hdg kk
theorem zar_byte {L a n : Nat} (h : zar L .byte a = some n) : zNW ≤ a := by
  unfold zar at h
  split at h
  case h_2 => cases h
  case h_1 t k hsh =>
  split at h
  case isFalse => cases h
  case isTrue ht =>
  subst ht
  rcases zsh_arr hsh with ⟨-, q | q⟩ | h
  · cases q
  · cases q
  · exact h
theorem zld_byte {L a : Nat} {j : Int32} {q : zLo × List Value × zM} (h : zld L .byte lc st M a j = some q) : zNW ≤ a := by
  unfold zld at h
  split at h
  case h_2 => cases h
  case h_1 n hn => exact zar_byte hn
end ZS
