theorem zfv_ad {ad ad' : Nat → Nat} {f : Nat → Int32} : ∀ (fs : List (Option Nat)) (k : Nat), (∀ r, some r ∈ fs → ad' r = ad r) → zfv ad' f k fs = zfv ad f k fs
  | [], _, _ => rfl
  | some r :: fs, k, h => by
    simp only [zfv]
    rw [h r List.mem_cons_self, zfv_ad fs (k + 1) (fun r hr => h r (List.mem_cons_of_mem _ hr))]
  | none :: fs, k, h => by
    simp only [zfv]
    rw [zfv_ad fs (k + 1) (fun r hr => h r (List.mem_cons_of_mem _ hr))]
theorem zshA0_refs : zshA0.all (fun s => match s with
    | .inr (_, fs) => fs.all (fun o => match o with
      | some r => decide (r < 48)
      | none => true)
    | .inl _ => true) = true := by decide
theorem zshA_take : zshA = zshA0 ++ zshA.drop 48 := rfl
/-- the component's cells are the same in both worlds -/
theorem zcell_old {L : Nat} {ad ad' : Nat → Nat} {cA : FieldType → ClassId} {M M' : zM} {i : Nat} (hi : i < 48) (hm : M' i = M i) (ha : ∀ r, r < 48 → ad' r = ad r) : zcell (L + 1) ad' cA M' i = zcell 0 ad cA M i := by
  have l0 : zshA0.length = 48 := rfl
  have e1 : znth (zsh (L + 1)) i = zshA0[i]? := by
    rw [znth_eq, zsh_eq, zshA_take, List.append_assoc, List.getElem?_append_left (by omega)]
  have e2 : znth (zsh 0) i = zshA0[i]? := by
    rw [znth_eq, zsh_eq0, List.getElem?_append_left (by omega)]
  unfold zcell
  rw [e1, e2, hm]
  cases h : zshA0[i]? with
  | none => rfl
  | some q =>
    have hq := List.all_eq_true.mp zshA0_refs _ (List.mem_of_getElem? h)
    rcases q with ⟨ty, n⟩ | ⟨c, fs⟩
    · rfl
    · dsimp only at hq ⊢
      rw [zfv_ad fs 0 (fun r hr => ha r ?_)]
      have := List.all_eq_true.mp hq _ hr
      simpa using this
/-- the cells as the reference's making leaves them before its body -/
def zP10 (C M0 : zM) : zM := fun i => if i < 48 then C i else if 62 ≤ i then M0 i else fun _ => 0
set_option maxHeartbeats 16000000 in
set_option maxRecDepth 100000 in
theorem zcX10 (hcode : zCode) (l : Launch) (L : Nat) (D : va_G) (cA : FieldType → ClassId) (ad0 : Nat → Nat) (Af : Nat → Prop) (M0 C : zM) (h0 sz : Nat) (hAz : ∀ q : Nat, sz ≤ q → Af q) (hAh : Af h0) (hAd0 : ∀ i, i < 48 → Af (ad0 i)) (hdis : ∀ i, i < 48 → ad0 i ≠ h0) (hinj0 : ∀ i j, i < 48 → j < 48 → ad0 i = ad0 j → i = j) :
    Met l yX10_init (.code yX10_init prog_12_method_1_code 2 none :: zgood) ({ frames := 1, cells := 13, slots := 146080, locals := 22 }) (va_Pc [.ref h0] (fun U => U.heap.size = sz ∧ va_P D vwCl [(h0, .inr (10, [.null, .null, .null, .int 0, .null, .null, .int 0, .null, .int 0, .null, .int 0, .int 0, .null, .null, .null, .null, .null, .null]))] U.heap ∧ va_P D vwCl (zws 0 ad0 cA C) U.heap ∧ zG (L + 1) ad0 D cA Af M0 U)) (va_Qv (fun u : (Nat → Nat) × zM × zM => (∀ i, (i < 48 ∨ 62 ≤ i) → u.1 i = ad0 i) ∧ (∀ i j, i < 62 → j < 62 → u.1 i = u.1 j → i = j) ∧ (∀ i, i < 62 → Af (u.1 i)) ∧ u.2.2 = zbegM u.2.1 0 ∧ (∀ i, i ≠ 49 → u.2.1 i = zP10 C M0 i) ∧ zTm u.2.1 49 wT0 ∧ u.1 48 = h0 ∧ ∀ i, 62 ≤ i → u.2.2 i = M0 i) (fun u t => va_P D vwCl (zws (L + 1) u.1 cA u.2.2) t.heap) Af) 13 146080 Af := by
  refine Met.ofW (cc := prog_12_method_1_code) (maxL := 2) (ret := none) (by decide) rfl ?_
  intro p e s m args below meth c s₁ B hml hv
  obtain ⟨rfl, hsz, hP, hP0, hG⟩ := hv
  have hx := B.exec
  have hb := B.bytes
  have hr := B.returns
  have hts := atoms_spec (ws := .code yX10_init prog_12_method_1_code 2 none :: zgood) B.pre
  have hz : ∀ w ∈ zgood, w.before _ s = true := fun w h => hts w (List.mem_cons_of_mem _ h)
  have hown : s.vm.findClass RX10 = some m.cls := findClass_of_methodNamed B.named
  have hlocks := B.notSynchronized
  have hin : meth.name = "<init>" := (name_of_methodNamed B.named B.method).1
  subst hsz
  have h0lt : ∀ i, i < 48 → ad0 i < s.heap.size := fun i hi => (hP0 i _ (zws_get hi)).lt
  obtain ⟨A, hAe⟩ : ∃ A : Nat → Prop, A = fun q => q = h0 ∨ s.heap.size ≤ q := ⟨_, rfl⟩
  have hA : ∀ q : Nat, s.heap.size ≤ q → A q := fun q h => by rw [hAe]; exact Or.inr h
  have hK := hG.1
  have hD : va_D A [(h0, .inr (10, [.null, .null, .null, .int 0, .null, .null, .int 0, .null, .int 0, .null, .int 0, .int 0, .null, .null, .null, .null, .null, .null]))] := ⟨fun i j x y hi hj _ => by
    have h1 := (List.getElem?_eq_some_iff.mp hi).1
    have h2 := (List.getElem?_eq_some_iff.mp hj).1
    simp only [List.length_cons, List.length_nil] at h1 h2
    omega, fun k q hk => by
    have h1 := (List.getElem?_eq_some_iff.mp hk).1
    simp only [List.length_cons, List.length_nil] at h1
    obtain rfl : k = 0 := by omega
    cases hk
    rw [hAe]
    exact Or.inl rfl⟩
  have hS : va_S A s.heap s.heap [] := va_S.rf
  have hl := lv_entry ([.ref h0]) (n := 2) (Nat.le_of_ble_eq_true rfl)
  rw [lg_entry_eq]
  generalize (lg_sl ([.ref h0]) ++ List.replicate (2 - (lg_sl ([.ref h0])).length) Slot.unset).toArray = ls at hl ⊢
  have hl : lv_has ls 2 [(0, .ref h0)] := hl
  refine lv_aload_n hx hb (show decode prog_12_method_1_code 0 = .ok (.aload_n 0, 1) by decide +kernel) rfl (lv_at hl 0 rfl) ?_
  refine W.objInit hx hb hown (hz (.methodLink RX10 1 Lib.objectInit) (zw5 22 rfl rfl)) (hz (.instanceMethod Lib.objectInit) (zw1 26 rfl rfl)) (hz (.code Lib.objectInit ⟨#[0xb1]⟩ 1 none) (zw1 27 rfl rfl)) rfl (by rw [hml]; exact hl.1) rfl (show decode prog_12_method_1_code 1 = .ok (.invokespecial 1, 3) by decide +kernel) (Nat.le_of_ble_eq_true rfl) (Nat.le_of_ble_eq_true rfl) ?_
  refine W.eq (g2 := F0 m 4 ls []) rfl ?_
  refine lv_aload_n hx hb (show decode prog_12_method_1_code 4 = .ok (.aload_n 0, 1) by decide +kernel) rfl (lv_at hl 0 rfl) ?_
  refine lv_bipush (v := 116) hx hb (show decode prog_12_method_1_code 5 = .ok (.bipush 116, 2) by decide +kernel) (by decide) ?_
  refine zna (N' := 116) hx hb (hz (.arrayClass .int) (zw1 110 rfl rfl)) (show newarray.typeOf .int = .int from rfl) (by decide) hK hP hD hS hA (by decide) (by decide) (Nat.le_of_ble_eq_true rfl) (Nat.le_of_ble_eq_true rfl) (Nat.le_of_ble_eq_true rfl) (show decode prog_12_method_1_code 7 = .ok (.newarray .int, 2) by decide +kernel) (fun q1 H hP hD hS => ?_)
  have hP : va_P D vwCl [(h0, .inr (10, [.null, .null, .null, .int 0, .null, .null, .int 0, .null, .int 0, .null, .int 0, .int 0, .null, .null, .null, .null, .null, .null])), (q1, .inl (cA .int, 116, .inl (fun _ => 0)))] H := hP
  have hD : va_D A [(h0, .inr (10, [.null, .null, .null, .int 0, .null, .null, .int 0, .null, .int 0, .null, .int 0, .int 0, .null, .null, .null, .null, .null, .null])), (q1, .inl (cA .int, 116, .inl (fun _ => 0)))] := hD
  refine W.widen (k := 1) (n := 116) (Nat.le_of_ble_eq_true rfl) (Nat.le_of_ble_eq_true rfl) ?_
  refine va_putF hx hb hz zi_10 tyX10 tyX10_ok nmX10 hown hK hP hD hS 0 rfl rfl 0 (by decide) (hz (.fieldLink RX10 7 (TX10 0).1 (TX10 0).2.1 (TX10 0).2.2.1) (zw5 31 rfl rfl)) (fun x h => h) rfl hin rfl (tyX10_ok 0 (by decide)) rfl rfl (Nat.le_of_ble_eq_true rfl) (show decode prog_12_method_1_code 9 = .ok (.putfield 7, 3) by decide +kernel) (fun H locs hP hD hS => ?_)
  have hP : va_P D vwCl [(h0, .inr (10, [.ref q1, .null, .null, .int 0, .null, .null, .int 0, .null, .int 0, .null, .int 0, .int 0, .null, .null, .null, .null, .null, .null])), (q1, .inl (cA .int, 116, .inl (fun _ => 0)))] H := hP
  have hD : va_D A [(h0, .inr (10, [.ref q1, .null, .null, .int 0, .null, .null, .int 0, .null, .int 0, .null, .int 0, .int 0, .null, .null, .null, .null, .null, .null])), (q1, .inl (cA .int, 116, .inl (fun _ => 0)))] := hD
  refine lv_aload_n hx hb (show decode prog_12_method_1_code 12 = .ok (.aload_n 0, 1) by decide +kernel) rfl (lv_at hl 0 rfl) ?_
  refine lv_bipush (v := 116) hx hb (show decode prog_12_method_1_code 13 = .ok (.bipush 116, 2) by decide +kernel) (by decide) ?_
  refine zna (N' := 116) hx hb (hz (.arrayClass .int) (zw1 110 rfl rfl)) (show newarray.typeOf .int = .int from rfl) (by decide) hK hP hD hS hA (by decide) (by decide) (Nat.le_of_ble_eq_true rfl) (Nat.le_of_ble_eq_true rfl) (Nat.le_of_ble_eq_true rfl) (show decode prog_12_method_1_code 15 = .ok (.newarray .int, 2) by decide +kernel) (fun q2 H hP hD hS => ?_)
  have hP : va_P D vwCl [(h0, .inr (10, [.ref q1, .null, .null, .int 0, .null, .null, .int 0, .null, .int 0, .null, .int 0, .int 0, .null, .null, .null, .null, .null, .null])), (q1, .inl (cA .int, 116, .inl (fun _ => 0))), (q2, .inl (cA .int, 116, .inl (fun _ => 0)))] H := hP
  have hD : va_D A [(h0, .inr (10, [.ref q1, .null, .null, .int 0, .null, .null, .int 0, .null, .int 0, .null, .int 0, .int 0, .null, .null, .null, .null, .null, .null])), (q1, .inl (cA .int, 116, .inl (fun _ => 0))), (q2, .inl (cA .int, 116, .inl (fun _ => 0)))] := hD
  refine W.widen (k := 2) (n := 232) (Nat.le_of_ble_eq_true rfl) (Nat.le_of_ble_eq_true rfl) ?_
  refine va_putF hx hb hz zi_10 tyX10 tyX10_ok nmX10 hown hK hP hD hS 0 rfl rfl 1 (by decide) (hz (.fieldLink RX10 13 (TX10 1).1 (TX10 1).2.1 (TX10 1).2.2.1) (zw5 32 rfl rfl)) (fun x h => h) rfl hin rfl (tyX10_ok 1 (by decide)) rfl rfl (Nat.le_of_ble_eq_true rfl) (show decode prog_12_method_1_code 17 = .ok (.putfield 13, 3) by decide +kernel) (fun H locs hP hD hS => ?_)
  have hP : va_P D vwCl [(h0, .inr (10, [.ref q1, .ref q2, .null, .int 0, .null, .null, .int 0, .null, .int 0, .null, .int 0, .int 0, .null, .null, .null, .null, .null, .null])), (q1, .inl (cA .int, 116, .inl (fun _ => 0))), (q2, .inl (cA .int, 116, .inl (fun _ => 0)))] H := hP
  have hD : va_D A [(h0, .inr (10, [.ref q1, .ref q2, .null, .int 0, .null, .null, .int 0, .null, .int 0, .null, .int 0, .int 0, .null, .null, .null, .null, .null, .null])), (q1, .inl (cA .int, 116, .inl (fun _ => 0))), (q2, .inl (cA .int, 116, .inl (fun _ => 0)))] := hD
  refine lv_aload_n hx hb (show decode prog_12_method_1_code 20 = .ok (.aload_n 0, 1) by decide +kernel) rfl (lv_at hl 0 rfl) ?_
  refine lv_sipush (v := 200) hx hb (show decode prog_12_method_1_code 21 = .ok (.sipush 200, 3) by decide +kernel) (by decide) ?_
  refine zna (N' := 200) hx hb (hz (.arrayClass .int) (zw1 110 rfl rfl)) (show newarray.typeOf .int = .int from rfl) (by decide) hK hP hD hS hA (by decide) (by decide) (Nat.le_of_ble_eq_true rfl) (Nat.le_of_ble_eq_true rfl) (Nat.le_of_ble_eq_true rfl) (show decode prog_12_method_1_code 24 = .ok (.newarray .int, 2) by decide +kernel) (fun q3 H hP hD hS => ?_)
  have hP : va_P D vwCl [(h0, .inr (10, [.ref q1, .ref q2, .null, .int 0, .null, .null, .int 0, .null, .int 0, .null, .int 0, .int 0, .null, .null, .null, .null, .null, .null])), (q1, .inl (cA .int, 116, .inl (fun _ => 0))), (q2, .inl (cA .int, 116, .inl (fun _ => 0))), (q3, .inl (cA .int, 200, .inl (fun _ => 0)))] H := hP
  have hD : va_D A [(h0, .inr (10, [.ref q1, .ref q2, .null, .int 0, .null, .null, .int 0, .null, .int 0, .null, .int 0, .int 0, .null, .null, .null, .null, .null, .null])), (q1, .inl (cA .int, 116, .inl (fun _ => 0))), (q2, .inl (cA .int, 116, .inl (fun _ => 0))), (q3, .inl (cA .int, 200, .inl (fun _ => 0)))] := hD
  refine W.widen (k := 3) (n := 432) (Nat.le_of_ble_eq_true rfl) (Nat.le_of_ble_eq_true rfl) ?_
  refine va_putF hx hb hz zi_10 tyX10 tyX10_ok nmX10 hown hK hP hD hS 0 rfl rfl 2 (by decide) (hz (.fieldLink RX10 16 (TX10 2).1 (TX10 2).2.1 (TX10 2).2.2.1) (zw5 33 rfl rfl)) (fun x h => h) rfl hin rfl (tyX10_ok 2 (by decide)) rfl rfl (Nat.le_of_ble_eq_true rfl) (show decode prog_12_method_1_code 26 = .ok (.putfield 16, 3) by decide +kernel) (fun H locs hP hD hS => ?_)
  have hP : va_P D vwCl [(h0, .inr (10, [.ref q1, .ref q2, .ref q3, .int 0, .null, .null, .int 0, .null, .int 0, .null, .int 0, .int 0, .null, .null, .null, .null, .null, .null])), (q1, .inl (cA .int, 116, .inl (fun _ => 0))), (q2, .inl (cA .int, 116, .inl (fun _ => 0))), (q3, .inl (cA .int, 200, .inl (fun _ => 0)))] H := hP
  have hD : va_D A [(h0, .inr (10, [.ref q1, .ref q2, .ref q3, .int 0, .null, .null, .int 0, .null, .int 0, .null, .int 0, .int 0, .null, .null, .null, .null, .null, .null])), (q1, .inl (cA .int, 116, .inl (fun _ => 0))), (q2, .inl (cA .int, 116, .inl (fun _ => 0))), (q3, .inl (cA .int, 200, .inl (fun _ => 0)))] := hD
  refine lv_aload_n hx hb (show decode prog_12_method_1_code 29 = .ok (.aload_n 0, 1) by decide +kernel) rfl (lv_at hl 0 rfl) ?_
  refine lv_bipush (v := 6) hx hb (show decode prog_12_method_1_code 30 = .ok (.bipush 6, 2) by decide +kernel) (by decide) ?_
  refine zna (N' := 6) hx hb (hz (.arrayClass .int) (zw1 110 rfl rfl)) (show newarray.typeOf .int = .int from rfl) (by decide) hK hP hD hS hA (by decide) (by decide) (Nat.le_of_ble_eq_true rfl) (Nat.le_of_ble_eq_true rfl) (Nat.le_of_ble_eq_true rfl) (show decode prog_12_method_1_code 32 = .ok (.newarray .int, 2) by decide +kernel) (fun q4 H hP hD hS => ?_)
  have hP : va_P D vwCl [(h0, .inr (10, [.ref q1, .ref q2, .ref q3, .int 0, .null, .null, .int 0, .null, .int 0, .null, .int 0, .int 0, .null, .null, .null, .null, .null, .null])), (q1, .inl (cA .int, 116, .inl (fun _ => 0))), (q2, .inl (cA .int, 116, .inl (fun _ => 0))), (q3, .inl (cA .int, 200, .inl (fun _ => 0))), (q4, .inl (cA .int, 6, .inl (fun _ => 0)))] H := hP
  have hD : va_D A [(h0, .inr (10, [.ref q1, .ref q2, .ref q3, .int 0, .null, .null, .int 0, .null, .int 0, .null, .int 0, .int 0, .null, .null, .null, .null, .null, .null])), (q1, .inl (cA .int, 116, .inl (fun _ => 0))), (q2, .inl (cA .int, 116, .inl (fun _ => 0))), (q3, .inl (cA .int, 200, .inl (fun _ => 0))), (q4, .inl (cA .int, 6, .inl (fun _ => 0)))] := hD
  refine W.widen (k := 4) (n := 438) (Nat.le_of_ble_eq_true rfl) (Nat.le_of_ble_eq_true rfl) ?_
  refine va_putF hx hb hz zi_10 tyX10 tyX10_ok nmX10 hown hK hP hD hS 0 rfl rfl 4 (by decide) (hz (.fieldLink RX10 19 (TX10 4).1 (TX10 4).2.1 (TX10 4).2.2.1) (zw5 35 rfl rfl)) (fun x h => h) rfl hin rfl (tyX10_ok 4 (by decide)) rfl rfl (Nat.le_of_ble_eq_true rfl) (show decode prog_12_method_1_code 34 = .ok (.putfield 19, 3) by decide +kernel) (fun H locs hP hD hS => ?_)
  have hP : va_P D vwCl [(h0, .inr (10, [.ref q1, .ref q2, .ref q3, .int 0, .ref q4, .null, .int 0, .null, .int 0, .null, .int 0, .int 0, .null, .null, .null, .null, .null, .null])), (q1, .inl (cA .int, 116, .inl (fun _ => 0))), (q2, .inl (cA .int, 116, .inl (fun _ => 0))), (q3, .inl (cA .int, 200, .inl (fun _ => 0))), (q4, .inl (cA .int, 6, .inl (fun _ => 0)))] H := hP
  have hD : va_D A [(h0, .inr (10, [.ref q1, .ref q2, .ref q3, .int 0, .ref q4, .null, .int 0, .null, .int 0, .null, .int 0, .int 0, .null, .null, .null, .null, .null, .null])), (q1, .inl (cA .int, 116, .inl (fun _ => 0))), (q2, .inl (cA .int, 116, .inl (fun _ => 0))), (q3, .inl (cA .int, 200, .inl (fun _ => 0))), (q4, .inl (cA .int, 6, .inl (fun _ => 0)))] := hD
  refine lv_aload_n hx hb (show decode prog_12_method_1_code 37 = .ok (.aload_n 0, 1) by decide +kernel) rfl (lv_at hl 0 rfl) ?_
  refine lv_bipush (v := 48) hx hb (show decode prog_12_method_1_code 38 = .ok (.bipush 48, 2) by decide +kernel) (by decide) ?_
  refine zna (N' := 48) hx hb (hz (.arrayClass .int) (zw1 110 rfl rfl)) (show newarray.typeOf .int = .int from rfl) (by decide) hK hP hD hS hA (by decide) (by decide) (Nat.le_of_ble_eq_true rfl) (Nat.le_of_ble_eq_true rfl) (Nat.le_of_ble_eq_true rfl) (show decode prog_12_method_1_code 40 = .ok (.newarray .int, 2) by decide +kernel) (fun q5 H hP hD hS => ?_)
  have hP : va_P D vwCl [(h0, .inr (10, [.ref q1, .ref q2, .ref q3, .int 0, .ref q4, .null, .int 0, .null, .int 0, .null, .int 0, .int 0, .null, .null, .null, .null, .null, .null])), (q1, .inl (cA .int, 116, .inl (fun _ => 0))), (q2, .inl (cA .int, 116, .inl (fun _ => 0))), (q3, .inl (cA .int, 200, .inl (fun _ => 0))), (q4, .inl (cA .int, 6, .inl (fun _ => 0))), (q5, .inl (cA .int, 48, .inl (fun _ => 0)))] H := hP
  have hD : va_D A [(h0, .inr (10, [.ref q1, .ref q2, .ref q3, .int 0, .ref q4, .null, .int 0, .null, .int 0, .null, .int 0, .int 0, .null, .null, .null, .null, .null, .null])), (q1, .inl (cA .int, 116, .inl (fun _ => 0))), (q2, .inl (cA .int, 116, .inl (fun _ => 0))), (q3, .inl (cA .int, 200, .inl (fun _ => 0))), (q4, .inl (cA .int, 6, .inl (fun _ => 0))), (q5, .inl (cA .int, 48, .inl (fun _ => 0)))] := hD
  refine W.widen (k := 5) (n := 486) (Nat.le_of_ble_eq_true rfl) (Nat.le_of_ble_eq_true rfl) ?_
  refine va_putF hx hb hz zi_10 tyX10 tyX10_ok nmX10 hown hK hP hD hS 0 rfl rfl 5 (by decide) (hz (.fieldLink RX10 22 (TX10 5).1 (TX10 5).2.1 (TX10 5).2.2.1) (zw5 36 rfl rfl)) (fun x h => h) rfl hin rfl (tyX10_ok 5 (by decide)) rfl rfl (Nat.le_of_ble_eq_true rfl) (show decode prog_12_method_1_code 42 = .ok (.putfield 22, 3) by decide +kernel) (fun H locs hP hD hS => ?_)
  have hP : va_P D vwCl [(h0, .inr (10, [.ref q1, .ref q2, .ref q3, .int 0, .ref q4, .ref q5, .int 0, .null, .int 0, .null, .int 0, .int 0, .null, .null, .null, .null, .null, .null])), (q1, .inl (cA .int, 116, .inl (fun _ => 0))), (q2, .inl (cA .int, 116, .inl (fun _ => 0))), (q3, .inl (cA .int, 200, .inl (fun _ => 0))), (q4, .inl (cA .int, 6, .inl (fun _ => 0))), (q5, .inl (cA .int, 48, .inl (fun _ => 0)))] H := hP
  have hD : va_D A [(h0, .inr (10, [.ref q1, .ref q2, .ref q3, .int 0, .ref q4, .ref q5, .int 0, .null, .int 0, .null, .int 0, .int 0, .null, .null, .null, .null, .null, .null])), (q1, .inl (cA .int, 116, .inl (fun _ => 0))), (q2, .inl (cA .int, 116, .inl (fun _ => 0))), (q3, .inl (cA .int, 200, .inl (fun _ => 0))), (q4, .inl (cA .int, 6, .inl (fun _ => 0))), (q5, .inl (cA .int, 48, .inl (fun _ => 0)))] := hD
  refine lv_aload_n hx hb (show decode prog_12_method_1_code 45 = .ok (.aload_n 0, 1) by decide +kernel) rfl (lv_at hl 0 rfl) ?_
  refine lv_bipush (v := 20) hx hb (show decode prog_12_method_1_code 46 = .ok (.bipush 20, 2) by decide +kernel) (by decide) ?_
  refine zna (N' := 20) hx hb (hz (.arrayClass .int) (zw1 110 rfl rfl)) (show newarray.typeOf .int = .int from rfl) (by decide) hK hP hD hS hA (by decide) (by decide) (Nat.le_of_ble_eq_true rfl) (Nat.le_of_ble_eq_true rfl) (Nat.le_of_ble_eq_true rfl) (show decode prog_12_method_1_code 48 = .ok (.newarray .int, 2) by decide +kernel) (fun q6 H hP hD hS => ?_)
  have hP : va_P D vwCl [(h0, .inr (10, [.ref q1, .ref q2, .ref q3, .int 0, .ref q4, .ref q5, .int 0, .null, .int 0, .null, .int 0, .int 0, .null, .null, .null, .null, .null, .null])), (q1, .inl (cA .int, 116, .inl (fun _ => 0))), (q2, .inl (cA .int, 116, .inl (fun _ => 0))), (q3, .inl (cA .int, 200, .inl (fun _ => 0))), (q4, .inl (cA .int, 6, .inl (fun _ => 0))), (q5, .inl (cA .int, 48, .inl (fun _ => 0))), (q6, .inl (cA .int, 20, .inl (fun _ => 0)))] H := hP
  have hD : va_D A [(h0, .inr (10, [.ref q1, .ref q2, .ref q3, .int 0, .ref q4, .ref q5, .int 0, .null, .int 0, .null, .int 0, .int 0, .null, .null, .null, .null, .null, .null])), (q1, .inl (cA .int, 116, .inl (fun _ => 0))), (q2, .inl (cA .int, 116, .inl (fun _ => 0))), (q3, .inl (cA .int, 200, .inl (fun _ => 0))), (q4, .inl (cA .int, 6, .inl (fun _ => 0))), (q5, .inl (cA .int, 48, .inl (fun _ => 0))), (q6, .inl (cA .int, 20, .inl (fun _ => 0)))] := hD
  refine W.widen (k := 6) (n := 506) (Nat.le_of_ble_eq_true rfl) (Nat.le_of_ble_eq_true rfl) ?_
  refine va_putF hx hb hz zi_10 tyX10 tyX10_ok nmX10 hown hK hP hD hS 0 rfl rfl 7 (by decide) (hz (.fieldLink RX10 25 (TX10 7).1 (TX10 7).2.1 (TX10 7).2.2.1) (zw5 38 rfl rfl)) (fun x h => h) rfl hin rfl (tyX10_ok 7 (by decide)) rfl rfl (Nat.le_of_ble_eq_true rfl) (show decode prog_12_method_1_code 50 = .ok (.putfield 25, 3) by decide +kernel) (fun H locs hP hD hS => ?_)
  have hP : va_P D vwCl [(h0, .inr (10, [.ref q1, .ref q2, .ref q3, .int 0, .ref q4, .ref q5, .int 0, .ref q6, .int 0, .null, .int 0, .int 0, .null, .null, .null, .null, .null, .null])), (q1, .inl (cA .int, 116, .inl (fun _ => 0))), (q2, .inl (cA .int, 116, .inl (fun _ => 0))), (q3, .inl (cA .int, 200, .inl (fun _ => 0))), (q4, .inl (cA .int, 6, .inl (fun _ => 0))), (q5, .inl (cA .int, 48, .inl (fun _ => 0))), (q6, .inl (cA .int, 20, .inl (fun _ => 0)))] H := hP
  have hD : va_D A [(h0, .inr (10, [.ref q1, .ref q2, .ref q3, .int 0, .ref q4, .ref q5, .int 0, .ref q6, .int 0, .null, .int 0, .int 0, .null, .null, .null, .null, .null, .null])), (q1, .inl (cA .int, 116, .inl (fun _ => 0))), (q2, .inl (cA .int, 116, .inl (fun _ => 0))), (q3, .inl (cA .int, 200, .inl (fun _ => 0))), (q4, .inl (cA .int, 6, .inl (fun _ => 0))), (q5, .inl (cA .int, 48, .inl (fun _ => 0))), (q6, .inl (cA .int, 20, .inl (fun _ => 0)))] := hD
  refine lv_aload_n hx hb (show decode prog_12_method_1_code 53 = .ok (.aload_n 0, 1) by decide +kernel) rfl (lv_at hl 0 rfl) ?_
  refine lv_bipush (v := 16) hx hb (show decode prog_12_method_1_code 54 = .ok (.bipush 16, 2) by decide +kernel) (by decide) ?_
  refine zna (N' := 16) hx hb (hz (.arrayClass .int) (zw1 110 rfl rfl)) (show newarray.typeOf .int = .int from rfl) (by decide) hK hP hD hS hA (by decide) (by decide) (Nat.le_of_ble_eq_true rfl) (Nat.le_of_ble_eq_true rfl) (Nat.le_of_ble_eq_true rfl) (show decode prog_12_method_1_code 56 = .ok (.newarray .int, 2) by decide +kernel) (fun q7 H hP hD hS => ?_)
  have hP : va_P D vwCl [(h0, .inr (10, [.ref q1, .ref q2, .ref q3, .int 0, .ref q4, .ref q5, .int 0, .ref q6, .int 0, .null, .int 0, .int 0, .null, .null, .null, .null, .null, .null])), (q1, .inl (cA .int, 116, .inl (fun _ => 0))), (q2, .inl (cA .int, 116, .inl (fun _ => 0))), (q3, .inl (cA .int, 200, .inl (fun _ => 0))), (q4, .inl (cA .int, 6, .inl (fun _ => 0))), (q5, .inl (cA .int, 48, .inl (fun _ => 0))), (q6, .inl (cA .int, 20, .inl (fun _ => 0))), (q7, .inl (cA .int, 16, .inl (fun _ => 0)))] H := hP
  have hD : va_D A [(h0, .inr (10, [.ref q1, .ref q2, .ref q3, .int 0, .ref q4, .ref q5, .int 0, .ref q6, .int 0, .null, .int 0, .int 0, .null, .null, .null, .null, .null, .null])), (q1, .inl (cA .int, 116, .inl (fun _ => 0))), (q2, .inl (cA .int, 116, .inl (fun _ => 0))), (q3, .inl (cA .int, 200, .inl (fun _ => 0))), (q4, .inl (cA .int, 6, .inl (fun _ => 0))), (q5, .inl (cA .int, 48, .inl (fun _ => 0))), (q6, .inl (cA .int, 20, .inl (fun _ => 0))), (q7, .inl (cA .int, 16, .inl (fun _ => 0)))] := hD
  refine W.widen (k := 7) (n := 522) (Nat.le_of_ble_eq_true rfl) (Nat.le_of_ble_eq_true rfl) ?_
  refine va_putF hx hb hz zi_10 tyX10 tyX10_ok nmX10 hown hK hP hD hS 0 rfl rfl 9 (by decide) (hz (.fieldLink RX10 28 (TX10 9).1 (TX10 9).2.1 (TX10 9).2.2.1) (zw5 40 rfl rfl)) (fun x h => h) rfl hin rfl (tyX10_ok 9 (by decide)) rfl rfl (Nat.le_of_ble_eq_true rfl) (show decode prog_12_method_1_code 58 = .ok (.putfield 28, 3) by decide +kernel) (fun H locs hP hD hS => ?_)
  have hP : va_P D vwCl [(h0, .inr (10, [.ref q1, .ref q2, .ref q3, .int 0, .ref q4, .ref q5, .int 0, .ref q6, .int 0, .ref q7, .int 0, .int 0, .null, .null, .null, .null, .null, .null])), (q1, .inl (cA .int, 116, .inl (fun _ => 0))), (q2, .inl (cA .int, 116, .inl (fun _ => 0))), (q3, .inl (cA .int, 200, .inl (fun _ => 0))), (q4, .inl (cA .int, 6, .inl (fun _ => 0))), (q5, .inl (cA .int, 48, .inl (fun _ => 0))), (q6, .inl (cA .int, 20, .inl (fun _ => 0))), (q7, .inl (cA .int, 16, .inl (fun _ => 0)))] H := hP
  have hD : va_D A [(h0, .inr (10, [.ref q1, .ref q2, .ref q3, .int 0, .ref q4, .ref q5, .int 0, .ref q6, .int 0, .ref q7, .int 0, .int 0, .null, .null, .null, .null, .null, .null])), (q1, .inl (cA .int, 116, .inl (fun _ => 0))), (q2, .inl (cA .int, 116, .inl (fun _ => 0))), (q3, .inl (cA .int, 200, .inl (fun _ => 0))), (q4, .inl (cA .int, 6, .inl (fun _ => 0))), (q5, .inl (cA .int, 48, .inl (fun _ => 0))), (q6, .inl (cA .int, 20, .inl (fun _ => 0))), (q7, .inl (cA .int, 16, .inl (fun _ => 0)))] := hD
  refine lv_aload_n hx hb (show decode prog_12_method_1_code 61 = .ok (.aload_n 0, 1) by decide +kernel) rfl (lv_at hl 0 rfl) ?_
  refine lv_iconst (v := 3) hx hb (show decode prog_12_method_1_code 62 = .ok (.iconst 3, 1) by decide +kernel) (by decide) ?_
  refine zna (N' := 3) hx hb (hz (.arrayClass .int) (zw1 110 rfl rfl)) (show newarray.typeOf .int = .int from rfl) (by decide) hK hP hD hS hA (by decide) (by decide) (Nat.le_of_ble_eq_true rfl) (Nat.le_of_ble_eq_true rfl) (Nat.le_of_ble_eq_true rfl) (show decode prog_12_method_1_code 63 = .ok (.newarray .int, 2) by decide +kernel) (fun q8 H hP hD hS => ?_)
  have hP : va_P D vwCl [(h0, .inr (10, [.ref q1, .ref q2, .ref q3, .int 0, .ref q4, .ref q5, .int 0, .ref q6, .int 0, .ref q7, .int 0, .int 0, .null, .null, .null, .null, .null, .null])), (q1, .inl (cA .int, 116, .inl (fun _ => 0))), (q2, .inl (cA .int, 116, .inl (fun _ => 0))), (q3, .inl (cA .int, 200, .inl (fun _ => 0))), (q4, .inl (cA .int, 6, .inl (fun _ => 0))), (q5, .inl (cA .int, 48, .inl (fun _ => 0))), (q6, .inl (cA .int, 20, .inl (fun _ => 0))), (q7, .inl (cA .int, 16, .inl (fun _ => 0))), (q8, .inl (cA .int, 3, .inl (fun _ => 0)))] H := hP
  have hD : va_D A [(h0, .inr (10, [.ref q1, .ref q2, .ref q3, .int 0, .ref q4, .ref q5, .int 0, .ref q6, .int 0, .ref q7, .int 0, .int 0, .null, .null, .null, .null, .null, .null])), (q1, .inl (cA .int, 116, .inl (fun _ => 0))), (q2, .inl (cA .int, 116, .inl (fun _ => 0))), (q3, .inl (cA .int, 200, .inl (fun _ => 0))), (q4, .inl (cA .int, 6, .inl (fun _ => 0))), (q5, .inl (cA .int, 48, .inl (fun _ => 0))), (q6, .inl (cA .int, 20, .inl (fun _ => 0))), (q7, .inl (cA .int, 16, .inl (fun _ => 0))), (q8, .inl (cA .int, 3, .inl (fun _ => 0)))] := hD
  refine W.widen (k := 8) (n := 525) (Nat.le_of_ble_eq_true rfl) (Nat.le_of_ble_eq_true rfl) ?_
  refine va_putF hx hb hz zi_10 tyX10 tyX10_ok nmX10 hown hK hP hD hS 0 rfl rfl 12 (by decide) (hz (.fieldLink RX10 31 (TX10 12).1 (TX10 12).2.1 (TX10 12).2.2.1) (zw5 43 rfl rfl)) (fun x h => h) rfl hin rfl (tyX10_ok 12 (by decide)) rfl rfl (Nat.le_of_ble_eq_true rfl) (show decode prog_12_method_1_code 65 = .ok (.putfield 31, 3) by decide +kernel) (fun H locs hP hD hS => ?_)
  have hP : va_P D vwCl [(h0, .inr (10, [.ref q1, .ref q2, .ref q3, .int 0, .ref q4, .ref q5, .int 0, .ref q6, .int 0, .ref q7, .int 0, .int 0, .ref q8, .null, .null, .null, .null, .null])), (q1, .inl (cA .int, 116, .inl (fun _ => 0))), (q2, .inl (cA .int, 116, .inl (fun _ => 0))), (q3, .inl (cA .int, 200, .inl (fun _ => 0))), (q4, .inl (cA .int, 6, .inl (fun _ => 0))), (q5, .inl (cA .int, 48, .inl (fun _ => 0))), (q6, .inl (cA .int, 20, .inl (fun _ => 0))), (q7, .inl (cA .int, 16, .inl (fun _ => 0))), (q8, .inl (cA .int, 3, .inl (fun _ => 0)))] H := hP
  have hD : va_D A [(h0, .inr (10, [.ref q1, .ref q2, .ref q3, .int 0, .ref q4, .ref q5, .int 0, .ref q6, .int 0, .ref q7, .int 0, .int 0, .ref q8, .null, .null, .null, .null, .null])), (q1, .inl (cA .int, 116, .inl (fun _ => 0))), (q2, .inl (cA .int, 116, .inl (fun _ => 0))), (q3, .inl (cA .int, 200, .inl (fun _ => 0))), (q4, .inl (cA .int, 6, .inl (fun _ => 0))), (q5, .inl (cA .int, 48, .inl (fun _ => 0))), (q6, .inl (cA .int, 20, .inl (fun _ => 0))), (q7, .inl (cA .int, 16, .inl (fun _ => 0))), (q8, .inl (cA .int, 3, .inl (fun _ => 0)))] := hD
  refine lv_aload_n hx hb (show decode prog_12_method_1_code 68 = .ok (.aload_n 0, 1) by decide +kernel) rfl (lv_at hl 0 rfl) ?_
  refine lv_bipush (v := 6) hx hb (show decode prog_12_method_1_code 69 = .ok (.bipush 6, 2) by decide +kernel) (by decide) ?_
  refine zna (N' := 6) hx hb (hz (.arrayClass .int) (zw1 110 rfl rfl)) (show newarray.typeOf .int = .int from rfl) (by decide) hK hP hD hS hA (by decide) (by decide) (Nat.le_of_ble_eq_true rfl) (Nat.le_of_ble_eq_true rfl) (Nat.le_of_ble_eq_true rfl) (show decode prog_12_method_1_code 71 = .ok (.newarray .int, 2) by decide +kernel) (fun q9 H hP hD hS => ?_)
  have hP : va_P D vwCl [(h0, .inr (10, [.ref q1, .ref q2, .ref q3, .int 0, .ref q4, .ref q5, .int 0, .ref q6, .int 0, .ref q7, .int 0, .int 0, .ref q8, .null, .null, .null, .null, .null])), (q1, .inl (cA .int, 116, .inl (fun _ => 0))), (q2, .inl (cA .int, 116, .inl (fun _ => 0))), (q3, .inl (cA .int, 200, .inl (fun _ => 0))), (q4, .inl (cA .int, 6, .inl (fun _ => 0))), (q5, .inl (cA .int, 48, .inl (fun _ => 0))), (q6, .inl (cA .int, 20, .inl (fun _ => 0))), (q7, .inl (cA .int, 16, .inl (fun _ => 0))), (q8, .inl (cA .int, 3, .inl (fun _ => 0))), (q9, .inl (cA .int, 6, .inl (fun _ => 0)))] H := hP
  have hD : va_D A [(h0, .inr (10, [.ref q1, .ref q2, .ref q3, .int 0, .ref q4, .ref q5, .int 0, .ref q6, .int 0, .ref q7, .int 0, .int 0, .ref q8, .null, .null, .null, .null, .null])), (q1, .inl (cA .int, 116, .inl (fun _ => 0))), (q2, .inl (cA .int, 116, .inl (fun _ => 0))), (q3, .inl (cA .int, 200, .inl (fun _ => 0))), (q4, .inl (cA .int, 6, .inl (fun _ => 0))), (q5, .inl (cA .int, 48, .inl (fun _ => 0))), (q6, .inl (cA .int, 20, .inl (fun _ => 0))), (q7, .inl (cA .int, 16, .inl (fun _ => 0))), (q8, .inl (cA .int, 3, .inl (fun _ => 0))), (q9, .inl (cA .int, 6, .inl (fun _ => 0)))] := hD
  refine W.widen (k := 9) (n := 531) (Nat.le_of_ble_eq_true rfl) (Nat.le_of_ble_eq_true rfl) ?_
  refine va_putF hx hb hz zi_10 tyX10 tyX10_ok nmX10 hown hK hP hD hS 0 rfl rfl 13 (by decide) (hz (.fieldLink RX10 34 (TX10 13).1 (TX10 13).2.1 (TX10 13).2.2.1) (zw5 44 rfl rfl)) (fun x h => h) rfl hin rfl (tyX10_ok 13 (by decide)) rfl rfl (Nat.le_of_ble_eq_true rfl) (show decode prog_12_method_1_code 73 = .ok (.putfield 34, 3) by decide +kernel) (fun H locs hP hD hS => ?_)
  have hP : va_P D vwCl [(h0, .inr (10, [.ref q1, .ref q2, .ref q3, .int 0, .ref q4, .ref q5, .int 0, .ref q6, .int 0, .ref q7, .int 0, .int 0, .ref q8, .ref q9, .null, .null, .null, .null])), (q1, .inl (cA .int, 116, .inl (fun _ => 0))), (q2, .inl (cA .int, 116, .inl (fun _ => 0))), (q3, .inl (cA .int, 200, .inl (fun _ => 0))), (q4, .inl (cA .int, 6, .inl (fun _ => 0))), (q5, .inl (cA .int, 48, .inl (fun _ => 0))), (q6, .inl (cA .int, 20, .inl (fun _ => 0))), (q7, .inl (cA .int, 16, .inl (fun _ => 0))), (q8, .inl (cA .int, 3, .inl (fun _ => 0))), (q9, .inl (cA .int, 6, .inl (fun _ => 0)))] H := hP
  have hD : va_D A [(h0, .inr (10, [.ref q1, .ref q2, .ref q3, .int 0, .ref q4, .ref q5, .int 0, .ref q6, .int 0, .ref q7, .int 0, .int 0, .ref q8, .ref q9, .null, .null, .null, .null])), (q1, .inl (cA .int, 116, .inl (fun _ => 0))), (q2, .inl (cA .int, 116, .inl (fun _ => 0))), (q3, .inl (cA .int, 200, .inl (fun _ => 0))), (q4, .inl (cA .int, 6, .inl (fun _ => 0))), (q5, .inl (cA .int, 48, .inl (fun _ => 0))), (q6, .inl (cA .int, 20, .inl (fun _ => 0))), (q7, .inl (cA .int, 16, .inl (fun _ => 0))), (q8, .inl (cA .int, 3, .inl (fun _ => 0))), (q9, .inl (cA .int, 6, .inl (fun _ => 0)))] := hD
  refine lv_aload_n hx hb (show decode prog_12_method_1_code 76 = .ok (.aload_n 0, 1) by decide +kernel) rfl (lv_at hl 0 rfl) ?_
  refine lv_sipush (v := 1300) hx hb (show decode prog_12_method_1_code 77 = .ok (.sipush 1300, 3) by decide +kernel) (by decide) ?_
  refine zna (N' := 1300) hx hb (hz (.arrayClass .int) (zw1 110 rfl rfl)) (show newarray.typeOf .int = .int from rfl) (by decide) hK hP hD hS hA (by decide) (by decide) (Nat.le_of_ble_eq_true rfl) (Nat.le_of_ble_eq_true rfl) (Nat.le_of_ble_eq_true rfl) (show decode prog_12_method_1_code 80 = .ok (.newarray .int, 2) by decide +kernel) (fun q10 H hP hD hS => ?_)
  have hP : va_P D vwCl [(h0, .inr (10, [.ref q1, .ref q2, .ref q3, .int 0, .ref q4, .ref q5, .int 0, .ref q6, .int 0, .ref q7, .int 0, .int 0, .ref q8, .ref q9, .null, .null, .null, .null])), (q1, .inl (cA .int, 116, .inl (fun _ => 0))), (q2, .inl (cA .int, 116, .inl (fun _ => 0))), (q3, .inl (cA .int, 200, .inl (fun _ => 0))), (q4, .inl (cA .int, 6, .inl (fun _ => 0))), (q5, .inl (cA .int, 48, .inl (fun _ => 0))), (q6, .inl (cA .int, 20, .inl (fun _ => 0))), (q7, .inl (cA .int, 16, .inl (fun _ => 0))), (q8, .inl (cA .int, 3, .inl (fun _ => 0))), (q9, .inl (cA .int, 6, .inl (fun _ => 0))), (q10, .inl (cA .int, 1300, .inl (fun _ => 0)))] H := hP
  have hD : va_D A [(h0, .inr (10, [.ref q1, .ref q2, .ref q3, .int 0, .ref q4, .ref q5, .int 0, .ref q6, .int 0, .ref q7, .int 0, .int 0, .ref q8, .ref q9, .null, .null, .null, .null])), (q1, .inl (cA .int, 116, .inl (fun _ => 0))), (q2, .inl (cA .int, 116, .inl (fun _ => 0))), (q3, .inl (cA .int, 200, .inl (fun _ => 0))), (q4, .inl (cA .int, 6, .inl (fun _ => 0))), (q5, .inl (cA .int, 48, .inl (fun _ => 0))), (q6, .inl (cA .int, 20, .inl (fun _ => 0))), (q7, .inl (cA .int, 16, .inl (fun _ => 0))), (q8, .inl (cA .int, 3, .inl (fun _ => 0))), (q9, .inl (cA .int, 6, .inl (fun _ => 0))), (q10, .inl (cA .int, 1300, .inl (fun _ => 0)))] := hD
  refine W.widen (k := 10) (n := 1831) (Nat.le_of_ble_eq_true rfl) (Nat.le_of_ble_eq_true rfl) ?_
  refine va_putF hx hb hz zi_10 tyX10 tyX10_ok nmX10 hown hK hP hD hS 0 rfl rfl 14 (by decide) (hz (.fieldLink RX10 37 (TX10 14).1 (TX10 14).2.1 (TX10 14).2.2.1) (zw5 45 rfl rfl)) (fun x h => h) rfl hin rfl (tyX10_ok 14 (by decide)) rfl rfl (Nat.le_of_ble_eq_true rfl) (show decode prog_12_method_1_code 82 = .ok (.putfield 37, 3) by decide +kernel) (fun H locs hP hD hS => ?_)
  have hP : va_P D vwCl [(h0, .inr (10, [.ref q1, .ref q2, .ref q3, .int 0, .ref q4, .ref q5, .int 0, .ref q6, .int 0, .ref q7, .int 0, .int 0, .ref q8, .ref q9, .ref q10, .null, .null, .null])), (q1, .inl (cA .int, 116, .inl (fun _ => 0))), (q2, .inl (cA .int, 116, .inl (fun _ => 0))), (q3, .inl (cA .int, 200, .inl (fun _ => 0))), (q4, .inl (cA .int, 6, .inl (fun _ => 0))), (q5, .inl (cA .int, 48, .inl (fun _ => 0))), (q6, .inl (cA .int, 20, .inl (fun _ => 0))), (q7, .inl (cA .int, 16, .inl (fun _ => 0))), (q8, .inl (cA .int, 3, .inl (fun _ => 0))), (q9, .inl (cA .int, 6, .inl (fun _ => 0))), (q10, .inl (cA .int, 1300, .inl (fun _ => 0)))] H := hP
  have hD : va_D A [(h0, .inr (10, [.ref q1, .ref q2, .ref q3, .int 0, .ref q4, .ref q5, .int 0, .ref q6, .int 0, .ref q7, .int 0, .int 0, .ref q8, .ref q9, .ref q10, .null, .null, .null])), (q1, .inl (cA .int, 116, .inl (fun _ => 0))), (q2, .inl (cA .int, 116, .inl (fun _ => 0))), (q3, .inl (cA .int, 200, .inl (fun _ => 0))), (q4, .inl (cA .int, 6, .inl (fun _ => 0))), (q5, .inl (cA .int, 48, .inl (fun _ => 0))), (q6, .inl (cA .int, 20, .inl (fun _ => 0))), (q7, .inl (cA .int, 16, .inl (fun _ => 0))), (q8, .inl (cA .int, 3, .inl (fun _ => 0))), (q9, .inl (cA .int, 6, .inl (fun _ => 0))), (q10, .inl (cA .int, 1300, .inl (fun _ => 0)))] := hD
  refine lv_aload_n hx hb (show decode prog_12_method_1_code 85 = .ok (.aload_n 0, 1) by decide +kernel) rfl (lv_at hl 0 rfl) ?_
  refine lv_ldc (v := 72100) hx hb hown (hz (.constant RX10 40 72100) (zw5 23 rfl rfl)) (show decode prog_12_method_1_code 86 = .ok (.ldc 40, 2) by decide +kernel) ?_
  refine zna (N' := 72100) hx hb (hz (.arrayClass .int) (zw1 110 rfl rfl)) (show newarray.typeOf .int = .int from rfl) (by decide) hK hP hD hS hA (by decide) (by decide) (Nat.le_of_ble_eq_true rfl) (Nat.le_of_ble_eq_true rfl) (Nat.le_of_ble_eq_true rfl) (show decode prog_12_method_1_code 88 = .ok (.newarray .int, 2) by decide +kernel) (fun q11 H hP hD hS => ?_)
  have hP : va_P D vwCl [(h0, .inr (10, [.ref q1, .ref q2, .ref q3, .int 0, .ref q4, .ref q5, .int 0, .ref q6, .int 0, .ref q7, .int 0, .int 0, .ref q8, .ref q9, .ref q10, .null, .null, .null])), (q1, .inl (cA .int, 116, .inl (fun _ => 0))), (q2, .inl (cA .int, 116, .inl (fun _ => 0))), (q3, .inl (cA .int, 200, .inl (fun _ => 0))), (q4, .inl (cA .int, 6, .inl (fun _ => 0))), (q5, .inl (cA .int, 48, .inl (fun _ => 0))), (q6, .inl (cA .int, 20, .inl (fun _ => 0))), (q7, .inl (cA .int, 16, .inl (fun _ => 0))), (q8, .inl (cA .int, 3, .inl (fun _ => 0))), (q9, .inl (cA .int, 6, .inl (fun _ => 0))), (q10, .inl (cA .int, 1300, .inl (fun _ => 0))), (q11, .inl (cA .int, 72100, .inl (fun _ => 0)))] H := hP
  have hD : va_D A [(h0, .inr (10, [.ref q1, .ref q2, .ref q3, .int 0, .ref q4, .ref q5, .int 0, .ref q6, .int 0, .ref q7, .int 0, .int 0, .ref q8, .ref q9, .ref q10, .null, .null, .null])), (q1, .inl (cA .int, 116, .inl (fun _ => 0))), (q2, .inl (cA .int, 116, .inl (fun _ => 0))), (q3, .inl (cA .int, 200, .inl (fun _ => 0))), (q4, .inl (cA .int, 6, .inl (fun _ => 0))), (q5, .inl (cA .int, 48, .inl (fun _ => 0))), (q6, .inl (cA .int, 20, .inl (fun _ => 0))), (q7, .inl (cA .int, 16, .inl (fun _ => 0))), (q8, .inl (cA .int, 3, .inl (fun _ => 0))), (q9, .inl (cA .int, 6, .inl (fun _ => 0))), (q10, .inl (cA .int, 1300, .inl (fun _ => 0))), (q11, .inl (cA .int, 72100, .inl (fun _ => 0)))] := hD
  refine W.widen (k := 11) (n := 73931) (Nat.le_of_ble_eq_true rfl) (Nat.le_of_ble_eq_true rfl) ?_
  refine va_putF hx hb hz zi_10 tyX10 tyX10_ok nmX10 hown hK hP hD hS 0 rfl rfl 15 (by decide) (hz (.fieldLink RX10 41 (TX10 15).1 (TX10 15).2.1 (TX10 15).2.2.1) (zw5 46 rfl rfl)) (fun x h => h) rfl hin rfl (tyX10_ok 15 (by decide)) rfl rfl (Nat.le_of_ble_eq_true rfl) (show decode prog_12_method_1_code 90 = .ok (.putfield 41, 3) by decide +kernel) (fun H locs hP hD hS => ?_)
  have hP : va_P D vwCl [(h0, .inr (10, [.ref q1, .ref q2, .ref q3, .int 0, .ref q4, .ref q5, .int 0, .ref q6, .int 0, .ref q7, .int 0, .int 0, .ref q8, .ref q9, .ref q10, .ref q11, .null, .null])), (q1, .inl (cA .int, 116, .inl (fun _ => 0))), (q2, .inl (cA .int, 116, .inl (fun _ => 0))), (q3, .inl (cA .int, 200, .inl (fun _ => 0))), (q4, .inl (cA .int, 6, .inl (fun _ => 0))), (q5, .inl (cA .int, 48, .inl (fun _ => 0))), (q6, .inl (cA .int, 20, .inl (fun _ => 0))), (q7, .inl (cA .int, 16, .inl (fun _ => 0))), (q8, .inl (cA .int, 3, .inl (fun _ => 0))), (q9, .inl (cA .int, 6, .inl (fun _ => 0))), (q10, .inl (cA .int, 1300, .inl (fun _ => 0))), (q11, .inl (cA .int, 72100, .inl (fun _ => 0)))] H := hP
  have hD : va_D A [(h0, .inr (10, [.ref q1, .ref q2, .ref q3, .int 0, .ref q4, .ref q5, .int 0, .ref q6, .int 0, .ref q7, .int 0, .int 0, .ref q8, .ref q9, .ref q10, .ref q11, .null, .null])), (q1, .inl (cA .int, 116, .inl (fun _ => 0))), (q2, .inl (cA .int, 116, .inl (fun _ => 0))), (q3, .inl (cA .int, 200, .inl (fun _ => 0))), (q4, .inl (cA .int, 6, .inl (fun _ => 0))), (q5, .inl (cA .int, 48, .inl (fun _ => 0))), (q6, .inl (cA .int, 20, .inl (fun _ => 0))), (q7, .inl (cA .int, 16, .inl (fun _ => 0))), (q8, .inl (cA .int, 3, .inl (fun _ => 0))), (q9, .inl (cA .int, 6, .inl (fun _ => 0))), (q10, .inl (cA .int, 1300, .inl (fun _ => 0))), (q11, .inl (cA .int, 72100, .inl (fun _ => 0)))] := hD
  refine lv_aload_n hx hb (show decode prog_12_method_1_code 93 = .ok (.aload_n 0, 1) by decide +kernel) rfl (lv_at hl 0 rfl) ?_
  refine lv_ldc (v := 72100) hx hb hown (hz (.constant RX10 40 72100) (zw5 23 rfl rfl)) (show decode prog_12_method_1_code 94 = .ok (.ldc 40, 2) by decide +kernel) ?_
  refine zna (N' := 72100) hx hb (hz (.arrayClass .int) (zw1 110 rfl rfl)) (show newarray.typeOf .int = .int from rfl) (by decide) hK hP hD hS hA (by decide) (by decide) (Nat.le_of_ble_eq_true rfl) (Nat.le_of_ble_eq_true rfl) (Nat.le_of_ble_eq_true rfl) (show decode prog_12_method_1_code 96 = .ok (.newarray .int, 2) by decide +kernel) (fun q12 H hP hD hS => ?_)
  have hP : va_P D vwCl [(h0, .inr (10, [.ref q1, .ref q2, .ref q3, .int 0, .ref q4, .ref q5, .int 0, .ref q6, .int 0, .ref q7, .int 0, .int 0, .ref q8, .ref q9, .ref q10, .ref q11, .null, .null])), (q1, .inl (cA .int, 116, .inl (fun _ => 0))), (q2, .inl (cA .int, 116, .inl (fun _ => 0))), (q3, .inl (cA .int, 200, .inl (fun _ => 0))), (q4, .inl (cA .int, 6, .inl (fun _ => 0))), (q5, .inl (cA .int, 48, .inl (fun _ => 0))), (q6, .inl (cA .int, 20, .inl (fun _ => 0))), (q7, .inl (cA .int, 16, .inl (fun _ => 0))), (q8, .inl (cA .int, 3, .inl (fun _ => 0))), (q9, .inl (cA .int, 6, .inl (fun _ => 0))), (q10, .inl (cA .int, 1300, .inl (fun _ => 0))), (q11, .inl (cA .int, 72100, .inl (fun _ => 0))), (q12, .inl (cA .int, 72100, .inl (fun _ => 0)))] H := hP
  have hD : va_D A [(h0, .inr (10, [.ref q1, .ref q2, .ref q3, .int 0, .ref q4, .ref q5, .int 0, .ref q6, .int 0, .ref q7, .int 0, .int 0, .ref q8, .ref q9, .ref q10, .ref q11, .null, .null])), (q1, .inl (cA .int, 116, .inl (fun _ => 0))), (q2, .inl (cA .int, 116, .inl (fun _ => 0))), (q3, .inl (cA .int, 200, .inl (fun _ => 0))), (q4, .inl (cA .int, 6, .inl (fun _ => 0))), (q5, .inl (cA .int, 48, .inl (fun _ => 0))), (q6, .inl (cA .int, 20, .inl (fun _ => 0))), (q7, .inl (cA .int, 16, .inl (fun _ => 0))), (q8, .inl (cA .int, 3, .inl (fun _ => 0))), (q9, .inl (cA .int, 6, .inl (fun _ => 0))), (q10, .inl (cA .int, 1300, .inl (fun _ => 0))), (q11, .inl (cA .int, 72100, .inl (fun _ => 0))), (q12, .inl (cA .int, 72100, .inl (fun _ => 0)))] := hD
  refine W.widen (k := 12) (n := 146031) (Nat.le_of_ble_eq_true rfl) (Nat.le_of_ble_eq_true rfl) ?_
  refine va_putF hx hb hz zi_10 tyX10 tyX10_ok nmX10 hown hK hP hD hS 0 rfl rfl 16 (by decide) (hz (.fieldLink RX10 44 (TX10 16).1 (TX10 16).2.1 (TX10 16).2.2.1) (zw5 47 rfl rfl)) (fun x h => h) rfl hin rfl (tyX10_ok 16 (by decide)) rfl rfl (Nat.le_of_ble_eq_true rfl) (show decode prog_12_method_1_code 98 = .ok (.putfield 44, 3) by decide +kernel) (fun H locs hP hD hS => ?_)
  have hP : va_P D vwCl [(h0, .inr (10, [.ref q1, .ref q2, .ref q3, .int 0, .ref q4, .ref q5, .int 0, .ref q6, .int 0, .ref q7, .int 0, .int 0, .ref q8, .ref q9, .ref q10, .ref q11, .ref q12, .null])), (q1, .inl (cA .int, 116, .inl (fun _ => 0))), (q2, .inl (cA .int, 116, .inl (fun _ => 0))), (q3, .inl (cA .int, 200, .inl (fun _ => 0))), (q4, .inl (cA .int, 6, .inl (fun _ => 0))), (q5, .inl (cA .int, 48, .inl (fun _ => 0))), (q6, .inl (cA .int, 20, .inl (fun _ => 0))), (q7, .inl (cA .int, 16, .inl (fun _ => 0))), (q8, .inl (cA .int, 3, .inl (fun _ => 0))), (q9, .inl (cA .int, 6, .inl (fun _ => 0))), (q10, .inl (cA .int, 1300, .inl (fun _ => 0))), (q11, .inl (cA .int, 72100, .inl (fun _ => 0))), (q12, .inl (cA .int, 72100, .inl (fun _ => 0)))] H := hP
  have hD : va_D A [(h0, .inr (10, [.ref q1, .ref q2, .ref q3, .int 0, .ref q4, .ref q5, .int 0, .ref q6, .int 0, .ref q7, .int 0, .int 0, .ref q8, .ref q9, .ref q10, .ref q11, .ref q12, .null])), (q1, .inl (cA .int, 116, .inl (fun _ => 0))), (q2, .inl (cA .int, 116, .inl (fun _ => 0))), (q3, .inl (cA .int, 200, .inl (fun _ => 0))), (q4, .inl (cA .int, 6, .inl (fun _ => 0))), (q5, .inl (cA .int, 48, .inl (fun _ => 0))), (q6, .inl (cA .int, 20, .inl (fun _ => 0))), (q7, .inl (cA .int, 16, .inl (fun _ => 0))), (q8, .inl (cA .int, 3, .inl (fun _ => 0))), (q9, .inl (cA .int, 6, .inl (fun _ => 0))), (q10, .inl (cA .int, 1300, .inl (fun _ => 0))), (q11, .inl (cA .int, 72100, .inl (fun _ => 0))), (q12, .inl (cA .int, 72100, .inl (fun _ => 0)))] := hD
  refine lv_aload_n hx hb (show decode prog_12_method_1_code 101 = .ok (.aload_n 0, 1) by decide +kernel) rfl (lv_at hl 0 rfl) ?_
  refine lv_bipush (v := 49) hx hb (show decode prog_12_method_1_code 102 = .ok (.bipush 49, 2) by decide +kernel) (by decide) ?_
  refine zna (N' := 49) hx hb (hz (.arrayClass .int) (zw1 110 rfl rfl)) (show newarray.typeOf .int = .int from rfl) (by decide) hK hP hD hS hA (by decide) (by decide) (Nat.le_of_ble_eq_true rfl) (Nat.le_of_ble_eq_true rfl) (Nat.le_of_ble_eq_true rfl) (show decode prog_12_method_1_code 104 = .ok (.newarray .int, 2) by decide +kernel) (fun q13 H hP hD hS => ?_)
  have hP : va_P D vwCl [(h0, .inr (10, [.ref q1, .ref q2, .ref q3, .int 0, .ref q4, .ref q5, .int 0, .ref q6, .int 0, .ref q7, .int 0, .int 0, .ref q8, .ref q9, .ref q10, .ref q11, .ref q12, .null])), (q1, .inl (cA .int, 116, .inl (fun _ => 0))), (q2, .inl (cA .int, 116, .inl (fun _ => 0))), (q3, .inl (cA .int, 200, .inl (fun _ => 0))), (q4, .inl (cA .int, 6, .inl (fun _ => 0))), (q5, .inl (cA .int, 48, .inl (fun _ => 0))), (q6, .inl (cA .int, 20, .inl (fun _ => 0))), (q7, .inl (cA .int, 16, .inl (fun _ => 0))), (q8, .inl (cA .int, 3, .inl (fun _ => 0))), (q9, .inl (cA .int, 6, .inl (fun _ => 0))), (q10, .inl (cA .int, 1300, .inl (fun _ => 0))), (q11, .inl (cA .int, 72100, .inl (fun _ => 0))), (q12, .inl (cA .int, 72100, .inl (fun _ => 0))), (q13, .inl (cA .int, 49, .inl (fun _ => 0)))] H := hP
  have hD : va_D A [(h0, .inr (10, [.ref q1, .ref q2, .ref q3, .int 0, .ref q4, .ref q5, .int 0, .ref q6, .int 0, .ref q7, .int 0, .int 0, .ref q8, .ref q9, .ref q10, .ref q11, .ref q12, .null])), (q1, .inl (cA .int, 116, .inl (fun _ => 0))), (q2, .inl (cA .int, 116, .inl (fun _ => 0))), (q3, .inl (cA .int, 200, .inl (fun _ => 0))), (q4, .inl (cA .int, 6, .inl (fun _ => 0))), (q5, .inl (cA .int, 48, .inl (fun _ => 0))), (q6, .inl (cA .int, 20, .inl (fun _ => 0))), (q7, .inl (cA .int, 16, .inl (fun _ => 0))), (q8, .inl (cA .int, 3, .inl (fun _ => 0))), (q9, .inl (cA .int, 6, .inl (fun _ => 0))), (q10, .inl (cA .int, 1300, .inl (fun _ => 0))), (q11, .inl (cA .int, 72100, .inl (fun _ => 0))), (q12, .inl (cA .int, 72100, .inl (fun _ => 0))), (q13, .inl (cA .int, 49, .inl (fun _ => 0)))] := hD
  refine W.widen (k := 13) (n := 146080) (Nat.le_of_ble_eq_true rfl) (Nat.le_of_ble_eq_true rfl) ?_
  refine va_putF hx hb hz zi_10 tyX10 tyX10_ok nmX10 hown hK hP hD hS 0 rfl rfl 17 (by decide) (hz (.fieldLink RX10 47 (TX10 17).1 (TX10 17).2.1 (TX10 17).2.2.1) (zw5 48 rfl rfl)) (fun x h => h) rfl hin rfl (tyX10_ok 17 (by decide)) rfl rfl (Nat.le_of_ble_eq_true rfl) (show decode prog_12_method_1_code 106 = .ok (.putfield 47, 3) by decide +kernel) (fun H locs hP hD hS => ?_)
  have hP : va_P D vwCl [(h0, .inr (10, [.ref q1, .ref q2, .ref q3, .int 0, .ref q4, .ref q5, .int 0, .ref q6, .int 0, .ref q7, .int 0, .int 0, .ref q8, .ref q9, .ref q10, .ref q11, .ref q12, .ref q13])), (q1, .inl (cA .int, 116, .inl (fun _ => 0))), (q2, .inl (cA .int, 116, .inl (fun _ => 0))), (q3, .inl (cA .int, 200, .inl (fun _ => 0))), (q4, .inl (cA .int, 6, .inl (fun _ => 0))), (q5, .inl (cA .int, 48, .inl (fun _ => 0))), (q6, .inl (cA .int, 20, .inl (fun _ => 0))), (q7, .inl (cA .int, 16, .inl (fun _ => 0))), (q8, .inl (cA .int, 3, .inl (fun _ => 0))), (q9, .inl (cA .int, 6, .inl (fun _ => 0))), (q10, .inl (cA .int, 1300, .inl (fun _ => 0))), (q11, .inl (cA .int, 72100, .inl (fun _ => 0))), (q12, .inl (cA .int, 72100, .inl (fun _ => 0))), (q13, .inl (cA .int, 49, .inl (fun _ => 0)))] H := hP
  have hD : va_D A [(h0, .inr (10, [.ref q1, .ref q2, .ref q3, .int 0, .ref q4, .ref q5, .int 0, .ref q6, .int 0, .ref q7, .int 0, .int 0, .ref q8, .ref q9, .ref q10, .ref q11, .ref q12, .ref q13])), (q1, .inl (cA .int, 116, .inl (fun _ => 0))), (q2, .inl (cA .int, 116, .inl (fun _ => 0))), (q3, .inl (cA .int, 200, .inl (fun _ => 0))), (q4, .inl (cA .int, 6, .inl (fun _ => 0))), (q5, .inl (cA .int, 48, .inl (fun _ => 0))), (q6, .inl (cA .int, 20, .inl (fun _ => 0))), (q7, .inl (cA .int, 16, .inl (fun _ => 0))), (q8, .inl (cA .int, 3, .inl (fun _ => 0))), (q9, .inl (cA .int, 6, .inl (fun _ => 0))), (q10, .inl (cA .int, 1300, .inl (fun _ => 0))), (q11, .inl (cA .int, 72100, .inl (fun _ => 0))), (q12, .inl (cA .int, 72100, .inl (fun _ => 0))), (q13, .inl (cA .int, 49, .inl (fun _ => 0)))] := hD
  obtain ⟨ad, had⟩ : ∃ ad : Nat → Nat, ad = fun i => if i < 48 then ad0 i else ([h0, q1, q2, q3, q4, q5, q6, q7, q8, q9, q10, q11, q12, q13] : List Nat).getD (i - 48) (ad0 i) := ⟨_, rfl⟩
  have hlo : ∀ i, i < 48 → ad i = ad0 i := fun i hi => by subst had; show (if i < 48 then _ else _) = _; rw [if_pos hi]
  have hhi : ∀ i, 62 ≤ i → ad i = ad0 i := fun i hi => by
    subst had
    show (if i < 48 then _ else _) = _
    rw [if_neg (by omega)]
    exact zgetD [h0, q1, q2, q3, q4, q5, q6, q7, q8, q9, q10, q11, q12, q13] (i - 48) (ad0 i) (show 14 ≤ i - 48 by omega)
  have hc : ∀ d, d < 14 → ([(h0, .inr (10, [.ref q1, .ref q2, .ref q3, .int 0, .ref q4, .ref q5, .int 0, .ref q6, .int 0, .ref q7, .int 0, .int 0, .ref q8, .ref q9, .ref q10, .ref q11, .ref q12, .ref q13])), (q1, .inl (cA .int, 116, .inl (fun _ => 0))), (q2, .inl (cA .int, 116, .inl (fun _ => 0))), (q3, .inl (cA .int, 200, .inl (fun _ => 0))), (q4, .inl (cA .int, 6, .inl (fun _ => 0))), (q5, .inl (cA .int, 48, .inl (fun _ => 0))), (q6, .inl (cA .int, 20, .inl (fun _ => 0))), (q7, .inl (cA .int, 16, .inl (fun _ => 0))), (q8, .inl (cA .int, 3, .inl (fun _ => 0))), (q9, .inl (cA .int, 6, .inl (fun _ => 0))), (q10, .inl (cA .int, 1300, .inl (fun _ => 0))), (q11, .inl (cA .int, 72100, .inl (fun _ => 0))), (q12, .inl (cA .int, 72100, .inl (fun _ => 0))), (q13, .inl (cA .int, 49, .inl (fun _ => 0)))] : va_W)[d]? = some (ad (48 + d), zcell (L + 1) ad cA (zP10 C M0) (48 + d)) := fun d hd => by
    subst had
    rcases (show d = 0 ∨ d = 1 ∨ d = 2 ∨ d = 3 ∨ d = 4 ∨ d = 5 ∨ d = 6 ∨ d = 7 ∨ d = 8 ∨ d = 9 ∨ d = 10 ∨ d = 11 ∨ d = 12 ∨ d = 13 by omega) with rfl | rfl | rfl | rfl | rfl | rfl | rfl | rfl | rfl | rfl | rfl | rfl | rfl | rfl <;> rfl
  have had48 : ad 48 = h0 := by subst had; rfl
  clear had
  have hnA : ∀ i, i < 48 → ¬ A (ad0 i) := fun i hi h => by
    rw [hAe] at h
    rcases h with h | h
    · exact hdis i hi h
    · exact absurd (h0lt i hi) (Nat.not_lt.mpr h)
  have hPn : va_P D vwCl (zws (L + 1) ad cA (zP10 C M0)) H := by
    intro k q hk
    have hk62 : k < 62 := by
      have := (List.getElem?_eq_some_iff.mp hk).1
      rwa [zws_len] at this
    rw [zws_get (show k < zN (L + 1) from hk62)] at hk
    cases hk
    by_cases h48 : k < 48
    · rw [zcell_old (ad := ad0) (M := C) h48 (by unfold zP10; rw [if_pos h48]) hlo, hlo k h48]
      exact (hP0 k _ (zws_get h48)).kept (hS.2.1 _ (h0lt k h48) (hnA k h48))
    · obtain ⟨d, rfl⟩ : ∃ d, k = 48 + d := ⟨k - 48, by omega⟩
      exact hP d _ (hc d (by omega))
  have hAn : ∀ d, d < 14 → A (ad (48 + d)) := fun d hd => hD.2 d _ (hc d hd)
  have hsub : ∀ q, A q → Af q := fun q h => by
    rw [hAe] at h
    rcases h with h | h
    · rw [h]; exact hAh
    · exact hAz q h
  have hinj : ∀ i j, i < zN (L + 1) → j < zN (L + 1) → ad i = ad j → i = j := fun i j hi hj h => by
    have hi : i < 62 := hi
    have hj : j < 62 := hj
    by_cases h1 : i < 48
    · by_cases h2 : j < 48
      · rw [hlo i h1, hlo j h2] at h
        exact hinj0 i j h1 h2 h
      · exfalso
        obtain ⟨d, rfl⟩ : ∃ d, j = 48 + d := ⟨j - 48, by omega⟩
        have := hAn d (by omega)
        rw [← h, hlo i h1] at this
        exact hnA i h1 this
    · obtain ⟨b, rfl⟩ : ∃ b, i = 48 + b := ⟨i - 48, by omega⟩
      by_cases h2 : j < 48
      · exfalso
        have := hAn b (by omega)
        rw [h, hlo j h2] at this
        exact hnA j h2 this
      · obtain ⟨d, rfl⟩ : ∃ d, j = 48 + d := ⟨j - 48, by omega⟩
        have := hD.1 b d _ _ (hc b (by omega)) (hc d (by omega)) h
        omega
  have hAd : ∀ i, i < zN (L + 1) → Af (ad i) := fun i hi => by
    have hi : i < 62 := hi
    by_cases h1 : i < 48
    · rw [hlo i h1]; exact hAd0 i h1
    · obtain ⟨b, rfl⟩ : ∃ b, i = 48 + b := ⟨i - 48, by omega⟩
      exact hsub _ (hAn b (by omega))
  have hS' : va_S Af s.heap H _ := ⟨hS.1, fun q h1 h2 => hS.2.1 q h1 (fun h => h2 (hsub q h)), fun x hx => hsub _ (hS.2.2 x hx)⟩
  obtain ⟨P, F, z1, z2, z3, z4⟩ := z_new2 (L := L) (M := zP10 C M0) none
  obtain ⟨n, hn⟩ := zden_iff.mp z1
  have hM : ∀ i, zNW ≤ i → zP10 C M0 i = M0 i := fun i hi => by
    have : 62 ≤ i := hi
    unfold zP10
    rw [if_neg (by omega), if_pos this]
  refine zgoal (cA := cA) (D := D) (A := Af) (M0 := M0) hcode hinj hAd l n 233 zm_233 109 [some (.ref 48), none] [] (zP10 C M0) none F rfl hn ⟨hx, hb, hml, hown, hz, zG_ad hhi hG, Nat.le_of_ble_eq_true rfl, Nat.le_of_ble_eq_true rfl, Nat.le_of_ble_eq_true rfl, Nat.le_of_ble_eq_true rfl⟩ ⟨hl.1, hl.2.1, fun i v h => ?_⟩ hPn hS' hM (fun pc' ls' H' locs' hret hP hS hM => ?_)
  · rcases i with _ | i
    · cases h
      show ls[0]? = some (.val (.ref (ad 48)))
      rw [had48]
      exact lv_at hl 0 rfl
    · rcases i with _ | i <;> simp at h
  · exact W.vret hx hb hr (fun t ht hW => ⟨⟨(ad, P, F), rfl, ⟨fun i hi => hi.elim (hlo i) (hhi i), hinj, hAd, z2, z3, z4, had48, hM⟩, by show va_P D vwCl (zws (L + 1) ad cA F) t.heap; rw [ht]; exact hP⟩, hS.F ht⟩) hS.2.2 hret.1
