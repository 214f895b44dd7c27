section ZK
variable {L : Nat} {M M' : zM} {lc lc' : zLo} {st st' : List Value}
theorem zld_keep {ty : FieldType} {a : Nat} {j : Int32} (h : zld L ty lc st M a j = some (lc', st', M')) : lc' = lc ∧ M' = M := by
  unfold zld at h
  split at h
  case h_2 => cases h
  case h_1 n hn =>
  split at h
  · cases h; exact ⟨rfl, rfl⟩
  · cases h
theorem zsto_keep {ty : FieldType} {a : Nat} {j x : Int32} (h : zsto L ty lc st M a j x = some (lc', st', M')) : lc' = lc := by
  unfold zsto at h
  split at h
  case h_2 => cases h
  case h_1 n hn =>
  split at h
  · split at h
    · cases h; rfl
    · cases h
  · cases h
theorem zor3 {a b c : Prop} (h : (a ∨ b) ∨ c) : a ∨ b ∨ c := by
  rcases h with (h | h) | h
  · exact Or.inl h
  · exact Or.inr (Or.inl h)
  · exact Or.inr (Or.inr h)
end ZK
section ZS
variable {p : Program} {l : Launch} {e : Env} {R : Room} {s : State} {m : MethodId} {args : Array Value} {below : List Frame} {meth : Method} {c : Code} {H : Heap} {locs : List Loc} {cells slots : Nat} {Q : State → Prop}
variable {L : Nat} {ad : Nat → Nat} {D : va_G} {cA : FieldType → ClassId} {A : Nat → Prop} {M0 M M' : zM} {bb : ByteArray} {cn mx pc : Nat} {ls : Array Slot} {lc lc' : zLo} {st st' : List Value}
theorem zbq {a b : Nat} (h : Nat.beq a b = true) : a = b := Nat.eq_of_beq_eq_true h
theorem zdk {ins : Instr} {nx k : Nat} (h : Nat.beq nx (pc + k) = true) (hd : decode bb pc = .ok (ins, nx - pc)) : decode bb pc = .ok (ins, k) ∧ nx = pc + k := by
  have e := zbq h
  subst e
  rw [Nat.add_sub_cancel_left] at hd
  exact ⟨hd, rfl⟩
theorem zd1 {ins : Instr} {nx : Nat} (h : (true && Nat.beq nx (pc + 1)) = true) (hd : decode bb pc = .ok (ins, nx - pc)) : decode bb pc = .ok (ins, 1) ∧ nx = pc + 1 := zdk (k := 1) (by simpa using h) hd
theorem zW_iconst (hx : p.tables.exec = Jvm.exec) (hb : c.code = bb) {n : Int} {nx : Nat} {v : Value} {ax : List Nat} {rest : List Value} (hd : decode bb pc = .ok (.iconst n, nx - pc)) (hok : zlenOk cn pc (.iconst n, nx, v, ax) = true) (k : W p l e R s m args below meth c H locs cells slots Q (F0 m nx ls (zv ad v :: rest))) : W p l e R s m args below meth c H locs cells slots Q (F0 m pc ls rest) := by
  cases v
  case int w =>
    simp only [zlenOk, Bool.and_eq_true, decide_eq_true_eq] at hok
    obtain ⟨h1, h2⟩ := hok
    obtain ⟨hd9, rfl⟩ := zdk h1 hd
    exact lv_iconst hx hb hd9 h2 k
  all_goals (simp [zlenOk, zone] at hok)
theorem zW_bipush (hx : p.tables.exec = Jvm.exec) (hb : c.code = bb) {n : Int} {nx : Nat} {v : Value} {ax : List Nat} {rest : List Value} (hd : decode bb pc = .ok (.bipush n, nx - pc)) (hok : zlenOk cn pc (.bipush n, nx, v, ax) = true) (k : W p l e R s m args below meth c H locs cells slots Q (F0 m nx ls (zv ad v :: rest))) : W p l e R s m args below meth c H locs cells slots Q (F0 m pc ls rest) := by
  cases v
  case int w =>
    simp only [zlenOk, Bool.and_eq_true, decide_eq_true_eq] at hok
    obtain ⟨h1, h2⟩ := hok
    obtain ⟨hd9, rfl⟩ := zdk h1 hd
    exact lv_bipush hx hb hd9 h2 k
  all_goals (simp [zlenOk, zone] at hok)
theorem zW_sipush (hx : p.tables.exec = Jvm.exec) (hb : c.code = bb) {n : Int} {nx : Nat} {v : Value} {ax : List Nat} {rest : List Value} (hd : decode bb pc = .ok (.sipush n, nx - pc)) (hok : zlenOk cn pc (.sipush n, nx, v, ax) = true) (k : W p l e R s m args below meth c H locs cells slots Q (F0 m nx ls (zv ad v :: rest))) : W p l e R s m args below meth c H locs cells slots Q (F0 m pc ls rest) := by
  cases v
  case int w =>
    simp only [zlenOk, Bool.and_eq_true, decide_eq_true_eq] at hok
    obtain ⟨h1, h2⟩ := hok
    obtain ⟨hd9, rfl⟩ := zdk h1 hd
    exact lv_sipush hx hb hd9 h2 k
  all_goals (simp [zlenOk, zone] at hok)
theorem zW_lconst (hx : p.tables.exec = Jvm.exec) (hb : c.code = bb) {n : Fin 2} {nx : Nat} {v : Value} {ax : List Nat} {rest : List Value} (hd : decode bb pc = .ok (.lconst n, nx - pc)) (hok : zlenOk cn pc (.lconst n, nx, v, ax) = true) (k : W p l e R s m args below meth c H locs cells slots Q (F0 m nx ls (zv ad v :: rest))) : W p l e R s m args below meth c H locs cells slots Q (F0 m pc ls rest) := by
  cases v
  case long w =>
    simp only [zlenOk, Bool.and_eq_true, decide_eq_true_eq] at hok
    obtain ⟨h1, h2⟩ := hok
    obtain ⟨hd9, rfl⟩ := zdk h1 hd
    exact lv_lconst hx hb hd9 h2 k
  all_goals (simp [zlenOk, zone] at hok)
theorem zW_ldc (hx : p.tables.exec = Jvm.exec) (hb : c.code = bb) (hown : s.vm.findClass (zon cn) = some m.cls) (hts : ∀ w ∈ zgood, w.before args s = true) (hG : zG L ad D cA A M0 s) {n nx : Nat} {v : Value} {ax : List Nat} {rest : List Value} (hd : decode bb pc = .ok (.ldc n, nx - pc)) (hok : zlenOk cn pc (.ldc n, nx, v, ax) = true) (k : W p l e R s m args below meth c H locs cells slots Q (F0 m nx ls (zv ad v :: rest))) : W p l e R s m args below meth c H locs cells slots Q (F0 m pc ls rest) := by
  simp only [zlenOk, Bool.and_eq_true, Bool.or_eq_true, decide_eq_true_eq] at hok
  obtain ⟨h1, h2⟩ := hok
  obtain ⟨hd9, rfl⟩ := zdk h1 hd
  rcases h2 with h2 | h2
  · obtain ⟨x, rfl, h3⟩ := zcp_ok cn _ h2
    exact lv_ldc hx hb hown (hts _ h3) hd9 k
  · obtain ⟨rfl, h3, rfl⟩ := zcp_ok cn _ h2
    have hR := hG.2.2.2.2.2.2.2
    rw [h3] at hown
    exact va_ldcS hx hb hown hR hd9 k
theorem zW_ldc_w (hx : p.tables.exec = Jvm.exec) (hb : c.code = bb) (hown : s.vm.findClass (zon cn) = some m.cls) (hts : ∀ w ∈ zgood, w.before args s = true) {n nx : Nat} {v : Value} {ax : List Nat} {rest : List Value} (hd : decode bb pc = .ok (.ldc_w n, nx - pc)) (hok : zlenOk cn pc (.ldc_w n, nx, v, ax) = true) (k : W p l e R s m args below meth c H locs cells slots Q (F0 m nx ls (zv ad v :: rest))) : W p l e R s m args below meth c H locs cells slots Q (F0 m pc ls rest) := by
  simp only [zlenOk, Bool.and_eq_true, decide_eq_true_eq] at hok
  obtain ⟨h1, h2⟩ := hok
  obtain ⟨hd9, rfl⟩ := zdk h1 hd
  obtain ⟨x, rfl, h3⟩ := zcp_ok cn _ h2
  exact lv_ldcw hx hb hown (hts _ h3) hd9 k
theorem zW_ldc2_w (hx : p.tables.exec = Jvm.exec) (hb : c.code = bb) (hown : s.vm.findClass (zon cn) = some m.cls) (hts : ∀ w ∈ zgood, w.before args s = true) {n nx : Nat} {v : Value} {ax : List Nat} {rest : List Value} (hd : decode bb pc = .ok (.ldc2_w n, nx - pc)) (hok : zlenOk cn pc (.ldc2_w n, nx, v, ax) = true) (k : W p l e R s m args below meth c H locs cells slots Q (F0 m nx ls (zv ad v :: rest))) : W p l e R s m args below meth c H locs cells slots Q (F0 m pc ls rest) := by
  simp only [zlenOk, Bool.and_eq_true, decide_eq_true_eq] at hok
  obtain ⟨h1, h2⟩ := hok
  obtain ⟨hd9, rfl⟩ := zdk h1 hd
  obtain ⟨x, rfl, h3⟩ := zcp_ok cn _ h2
  exact W.ldc2 hx hb hown (hts _ h3) rfl hd9 k
theorem zW_getstatic (hx : p.tables.exec = Jvm.exec) (hb : c.code = bb) (hown : s.vm.findClass (zon cn) = some m.cls) (hts : ∀ w ∈ zgood, w.before args s = true) (hG : zG L ad D cA A M0 s) (hS : va_S A s.heap H locs) {n nx : Nat} {v : Value} {ax : List Nat} {rest : List Value} (hd : decode bb pc = .ok (.getstatic n, nx - pc)) (hok : zlenOk cn pc (.getstatic n, nx, v, ax) = true) (k : W p l e R s m args below meth c H locs cells slots Q (F0 m nx ls (zv ad v :: rest))) : W p l e R s m args below meth c H locs cells slots Q (F0 m pc ls rest) := by
  simp only [zlenOk, Bool.and_eq_true, Bool.or_eq_true, decide_eq_true_eq] at hok
  obtain ⟨h1, h2⟩ := hok
  obtain ⟨hd9, rfl⟩ := zdk h1 hd
  rcases h2 with h2 | h2
  · have h3 := zcp_ok cn _ h2
    rcases ax with _ | ⟨j, _ | ⟨j2, ax⟩⟩
    · exact h3.elim
    · obtain ⟨C, nn, d, h4, h5⟩ := h3
      exact va_gets hx hb (hG.2.2.1 _ (List.mem_of_getElem? h4)) hS hown (hts _ h5) (fun _ h => h) hd9 k
    · exact h3.elim
  · have h3 := zcp_ok cn _ h2
    rcases ax with _ | ⟨j, _ | ⟨j2, ax⟩⟩
    · exact h3.elim
    · obtain ⟨C, nn, d, h4, h5⟩ := h3
      exact va_getsN hx hb (hG.2.2.1 _ (List.mem_of_getElem? h4)) hS hown (va_Nw.use rfl (hG.2.1 _ h5)) (fun _ h => h) hd9 k
    · exact h3.elim
set_option maxHeartbeats 8000000 in
set_option maxRecDepth 4000 in
theorem zs1_sound (hx : p.tables.exec = Jvm.exec) (hb : c.code = bb) (hown : s.vm.findClass (zon cn) = some m.cls) (hts : ∀ w ∈ zgood, w.before args s = true) (hG : zG L ad D cA A M0 s) (hinj : ∀ i j, i < zN L → j < zN L → ad i = ad j → i = j) (hAd : ∀ i, i < zN L → A (ad i))
    {en : zE} (hd : decode bb pc = .ok (en.1, en.2.1 - pc)) (hok : zlenOk cn pc en = true) (hl : zLs ad ls mx lc) (hP : va_P D vwCl (zws L ad cA M) H) (hS : va_S A s.heap H locs) (hM : ∀ i, zNW ≤ i → M i = M0 i)
    (hs : zs1 L en lc st M = some (lc', st', M'))
    (hst : zstOk mx en = true)
    (kk : ∀ (ls' : Array Slot) (H' : Heap) (locs' : List Loc), zLs ad ls' mx lc' → va_P D vwCl (zws L ad cA M') H' → va_S A s.heap H' locs' → (∀ i, zNW ≤ i → M' i = M0 i) → W p l e R s m args below meth c H' locs' cells slots Q (F0 m en.2.1 ls' (st'.map (zv ad)))) : W p l e R s m args below meth c H locs cells slots Q (F0 m pc ls (st.map (zv ad))) := by
  obtain ⟨ins, nx, v, ax⟩ := en
  dsimp only at hd kk hst
  have k0 : ∀ st1 : List Value, lc' = lc → M' = M → st' = st1 → W p l e R s m args below meth c H locs cells slots Q (F0 m nx ls (st1.map (zv ad))) := by
    intro st1 h1 h2 h3
    subst h1; subst h2; subst h3
    exact kk ls H locs hl hP hS hM
  have hbA : c.code = bb ∧ True := ⟨hb, trivial⟩
  clear hb
  unfold zs1 at hs
  split at hs
  all_goals (try dsimp only at hs)
  case h_1 =>
    subst_vars
    cases hs
    exact zW_iconst (cn := cn) hx hbA.1 hd hok (k0 _ rfl rfl rfl)
  case h_2 =>
    subst_vars
    cases hs
    exact zW_bipush (cn := cn) hx hbA.1 hd hok (k0 _ rfl rfl rfl)
  case h_3 =>
    subst_vars
    cases hs
    exact zW_sipush (cn := cn) hx hbA.1 hd hok (k0 _ rfl rfl rfl)
  case h_4 =>
    subst_vars
    cases hs
    exact zW_lconst (cn := cn) hx hbA.1 hd hok (k0 _ rfl rfl rfl)
  case h_5 =>
    subst_vars
    cases hs
    exact zW_ldc hx hbA.1 hown hts hG hd hok (k0 _ rfl rfl rfl)
  case h_6 =>
    subst_vars
    cases hs
    exact zW_ldc_w hx hbA.1 hown hts hd hok (k0 _ rfl rfl rfl)
  case h_7 =>
    subst_vars
    cases hs
    exact zW_ldc2_w hx hbA.1 hown hts hd hok (k0 _ rfl rfl rfl)
  case h_8 =>
    subst_vars
    cases hs
    exact zW_getstatic hx hbA.1 hown hts hG hS hd hok (k0 _ rfl rfl rfl)
  case h_9 =>
    subst_vars
    split at hs
    case h_2 => cases hs
    case h_1 hz =>
      cases hs
      simp only [zlenOk, Bool.and_eq_true] at hok
      obtain ⟨h1, h2⟩ := hok
      obtain ⟨hd9, rfl⟩ := zdk h1 hd
      have e2 := zbq h2
      subst e2
      exact lv_iload hx hbA.1 hd9 (hl.2.2 _ _ (zat_eq hz)) (k0 _ rfl rfl rfl)
  case h_10 =>
    subst_vars
    split at hs
    case h_2 => cases hs
    case h_1 hz =>
      cases hs
      simp only [zlenOk, Bool.and_eq_true] at hok
      obtain ⟨h1, h2⟩ := hok
      obtain ⟨hd9, rfl⟩ := zdk h1 hd
      exact lv_iload_n hx hbA.1 hd9 (zbq h2) (hl.2.2 _ _ (zat_eq hz)) (k0 _ rfl rfl rfl)
  case h_11 =>
    subst_vars
    split at hs
    case h_2 => cases hs
    case h_1 hz =>
      cases hs
      simp only [zlenOk, Bool.and_eq_true] at hok
      obtain ⟨h1, h2⟩ := hok
      obtain ⟨hd9, rfl⟩ := zdk h1 hd
      have e2 := zbq h2
      subst e2
      exact lv_lload hx hbA.1 hd9 (hl.2.2 _ _ (zat_eq hz)) (k0 _ rfl rfl rfl)
  case h_12 =>
    subst_vars
    split at hs
    case h_2 => cases hs
    case h_1 hz =>
      cases hs
      simp only [zlenOk, Bool.and_eq_true] at hok
      obtain ⟨h1, h2⟩ := hok
      obtain ⟨hd9, rfl⟩ := zdk h1 hd
      exact lv_lload_n hx hbA.1 hd9 (zbq h2) (hl.2.2 _ _ (zat_eq hz)) (k0 _ rfl rfl rfl)
  case h_13 =>
    subst_vars
    split at hs
    case h_2 => cases hs
    case h_1 hz =>
      cases hs
      simp only [zlenOk, Bool.and_eq_true] at hok
      obtain ⟨h1, h2⟩ := hok
      obtain ⟨hd9, rfl⟩ := zdk h1 hd
      have e2 := zbq h2
      subst e2
      exact lv_aload hx hbA.1 hd9 (hl.2.2 _ _ (zat_eq hz)) (k0 _ rfl rfl rfl)
  case h_14 =>
    subst_vars
    split at hs
    case h_2 => cases hs
    case h_1 hz =>
      cases hs
      simp only [zlenOk, Bool.and_eq_true] at hok
      obtain ⟨h1, h2⟩ := hok
      obtain ⟨hd9, rfl⟩ := zdk h1 hd
      exact lv_aload_n hx hbA.1 hd9 (zbq h2) (hl.2.2 _ _ (zat_eq hz)) (k0 _ rfl rfl rfl)
  case h_15 =>
    subst_vars
    cases hs
    simp only [zlenOk, Bool.and_eq_true] at hok
    obtain ⟨h1, h2⟩ := hok
    obtain ⟨hd9, rfl⟩ := zdk h1 hd
    have e2 := zbq h2
    subst e2
    exact lv_istore hx hbA.1 hd9 hl.has (by simpa [zstOk] using hst) rfl (fun ls1 h1 => kk ls1 H locs (zLs.store1 (ls := ls) h1) hP hS hM)
  case h_16 =>
    subst_vars
    cases hs
    simp only [zlenOk, Bool.and_eq_true] at hok
    obtain ⟨h1, h2⟩ := hok
    obtain ⟨hd9, rfl⟩ := zdk h1 hd
    exact lv_istore_n hx hbA.1 hd9 (zbq h2) hl.has (by simpa [zstOk] using hst) rfl (fun ls1 h1 => kk ls1 H locs (zLs.store1 (ls := ls) h1) hP hS hM)
  case h_17 =>
    subst_vars
    cases hs
    simp only [zlenOk, Bool.and_eq_true] at hok
    obtain ⟨h1, h2⟩ := hok
    obtain ⟨hd9, rfl⟩ := zdk h1 hd
    have e2 := zbq h2
    subst e2
    exact lv_lstore hx hbA.1 hd9 hl.has (by simpa [zstOk] using hst) rfl (fun ls1 h1 => kk ls1 H locs (zLs.store2 (ls := ls) h1) hP hS hM)
  case h_18 =>
    subst_vars
    cases hs
    simp only [zlenOk, Bool.and_eq_true] at hok
    obtain ⟨h1, h2⟩ := hok
    obtain ⟨hd9, rfl⟩ := zdk h1 hd
    exact lv_lstore_n hx hbA.1 hd9 (zbq h2) hl.has (by simpa [zstOk] using hst) rfl (fun ls1 h1 => kk ls1 H locs (zLs.store2 (ls := ls) h1) hP hS hM)
  case h_19 =>
    subst_vars
    split at hs
    case h_2 => cases hs
    case h_1 hz =>
      cases hs
      subst_vars
      simp only [zlenOk, Bool.and_eq_true, decide_eq_true_eq] at hok
      obtain ⟨⟨h1, h2⟩, h3⟩ := hok
      obtain ⟨hd9, rfl⟩ := zdk h1 hd
      have e2 := zbq h2
      subst e2
      obtain ⟨k9, hk9⟩ := List.getElem?_of_mem (zlv_mem (ad := ad) (zat_eq hz))
      exact lv_iinc hx hbA.1 hd9 hl.has hk9 (by rw [h3]) (by simpa [zstOk] using hst) rfl (fun ls1 h1 => kk ls1 H locs (zLs.store1 (ls := ls) h1) hP hS hM)
  case h_20 =>
    subst_vars
    cases hs
    obtain ⟨hd9, rfl⟩ := zd1 hok hd
    exact lv_iadd hx hbA.1 hd9 (k0 _ rfl rfl rfl)
  case h_21 =>
    subst_vars
    cases hs
    obtain ⟨hd9, rfl⟩ := zd1 hok hd
    exact lv_isub hx hbA.1 hd9 (k0 _ rfl rfl rfl)
  case h_22 =>
    subst_vars
    cases hs
    obtain ⟨hd9, rfl⟩ := zd1 hok hd
    exact lv_imul hx hbA.1 hd9 (k0 _ rfl rfl rfl)
  case h_23 =>
    subst_vars
    cases hs
    obtain ⟨hd9, rfl⟩ := zd1 hok hd
    exact lv_iand hx hbA.1 hd9 (k0 _ rfl rfl rfl)
  case h_24 =>
    subst_vars
    cases hs
    obtain ⟨hd9, rfl⟩ := zd1 hok hd
    exact lv_ior hx hbA.1 hd9 (k0 _ rfl rfl rfl)
  case h_25 =>
    subst_vars
    cases hs
    obtain ⟨hd9, rfl⟩ := zd1 hok hd
    exact lv_ixor hx hbA.1 hd9 (k0 _ rfl rfl rfl)
  case h_26 =>
    subst_vars
    cases hs
    obtain ⟨hd9, rfl⟩ := zd1 hok hd
    exact lv_ishl hx hbA.1 hd9 (k0 _ rfl rfl rfl)
  case h_27 =>
    subst_vars
    cases hs
    obtain ⟨hd9, rfl⟩ := zd1 hok hd
    exact lv_ishr hx hbA.1 hd9 (k0 _ rfl rfl rfl)
  case h_28 =>
    subst_vars
    cases hs
    obtain ⟨hd9, rfl⟩ := zd1 hok hd
    exact lv_iushr hx hbA.1 hd9 rfl (k0 _ rfl rfl rfl)
  case h_29 =>
    subst_vars
    split at hs
    case isTrue => cases hs
    case isFalse hy =>
      cases hs
      obtain ⟨hd9, rfl⟩ := zd1 hok hd
      exact lv_idiv hx hbA.1 hd9 hy (k0 _ rfl rfl rfl)
  case h_30 =>
    subst_vars
    split at hs
    case isTrue => cases hs
    case isFalse hy =>
      cases hs
      obtain ⟨hd9, rfl⟩ := zd1 hok hd
      exact lv_irem hx hbA.1 hd9 hy (k0 _ rfl rfl rfl)
  case h_31 =>
    subst_vars
    cases hs
    obtain ⟨hd9, rfl⟩ := zd1 hok hd
    exact lv_ladd hx hbA.1 hd9 (k0 _ rfl rfl rfl)
  case h_32 =>
    subst_vars
    cases hs
    obtain ⟨hd9, rfl⟩ := zd1 hok hd
    exact lv_lmul hx hbA.1 hd9 (k0 _ rfl rfl rfl)
  case h_33 =>
    subst_vars
    split at hs
    case isTrue => cases hs
    case isFalse hy =>
      cases hs
      obtain ⟨hd9, rfl⟩ := zd1 hok hd
      exact lv_ldiv hx hbA.1 hd9 hy (k0 _ rfl rfl rfl)
  case h_34 =>
    subst_vars
    split at hs
    case isTrue => cases hs
    case isFalse hy =>
      cases hs
      obtain ⟨hd9, rfl⟩ := zd1 hok hd
      exact lv_lrem hx hbA.1 hd9 hy (k0 _ rfl rfl rfl)
  case h_35 =>
    subst_vars
    cases hs
    obtain ⟨hd9, rfl⟩ := zd1 hok hd
    exact W.lcmp hx hbA.1 hd9 (k0 _ rfl rfl rfl)
  case h_36 =>
    subst_vars
    cases hs
    obtain ⟨hd9, rfl⟩ := zd1 hok hd
    exact lv_i2l hx hbA.1 hd9 rfl (k0 _ rfl rfl rfl)
  case h_37 =>
    subst_vars
    cases hs
    obtain ⟨hd9, rfl⟩ := zd1 hok hd
    exact lv_l2i hx hbA.1 hd9 rfl (k0 _ rfl rfl rfl)
  case h_38 =>
    subst_vars
    cases hs
    obtain ⟨hd9, rfl⟩ := zd1 hok hd
    exact lv_i2c hx hbA.1 hd9 rfl (k0 _ rfl rfl rfl)
  case h_39 =>
    subst_vars
    cases hs
    obtain ⟨hd9, rfl⟩ := zd1 hok hd
    exact lv_i2b hx hbA.1 hd9 rfl (k0 _ rfl rfl rfl)
  case h_40 =>
    subst_vars
    cases hs
    obtain ⟨hd9, rfl⟩ := zd1 hok hd
    exact lv_dup hx hbA.1 hd9 rfl (k0 _ rfl rfl rfl)
  case h_41 =>
    subst_vars
    cases hs
    obtain ⟨hd9, rfl⟩ := zd1 hok hd
    exact lv_dup hx hbA.1 hd9 rfl (k0 _ rfl rfl rfl)
  case h_42 =>
    subst_vars
    cases hs
    obtain ⟨hd9, rfl⟩ := zd1 hok hd
    exact lv_dup2_11 hx hbA.1 hd9 rfl rfl (k0 _ rfl rfl rfl)
  case h_43 =>
    subst_vars
    cases hs
    obtain ⟨hd9, rfl⟩ := zd1 hok hd
    exact lv_pop hx hbA.1 hd9 rfl (k0 _ rfl rfl rfl)
  case h_44 =>
    subst_vars
    split at hs
    case h_2 => cases hs
    case h_1 hn =>
      cases hs
      obtain ⟨hd9, rfl⟩ := zd1 hok hd
      exact zalen_W hx hbA.1 hG hP hS hn hd9 (k0 _ rfl rfl rfl)
  case h_45 =>
    subst_vars
    obtain ⟨hd9, rfl⟩ := zd1 hok hd
    have e9 : lc' = lc ∧ M' = M := zld_keep hs
    exact zld_W hG hP hS hM hs (Or.inl rfl) (fun h => by cases h) (fun g1 g2 g3 g4 g5 g6 => W.iald hx hbA.1 g1 g2 g3 g4 g5 rfl rfl hd9 g6) (k0 _ e9.1 e9.2 rfl)
  case h_46 =>
    subst_vars
    obtain ⟨hd9, rfl⟩ := zd1 hok hd
    have e9 : lc' = lc ∧ M' = M := zld_keep hs
    exact zld_W hG hP hS hM hs (Or.inr (Or.inl rfl)) (fun h => by cases h) (fun g1 g2 g3 g4 g5 g6 => W.cald hx hbA.1 g1 g2 g3 g4 g5 rfl rfl hd9 g6) (k0 _ e9.1 e9.2 rfl)
  case h_47 =>
    subst_vars
    obtain ⟨hd9, rfl⟩ := zd1 hok hd
    have e9 : lc' = lc ∧ M' = M := zld_keep hs
    exact zld_W hG hP hS hM hs (Or.inr (Or.inr rfl)) (fun _ => zld_byte hs) (fun g1 g2 g3 g4 g5 g6 => W.bald hx hbA.1 g1 g2 g3 g4 g5 rfl rfl hd9 g6) (k0 _ e9.1 e9.2 rfl)
  case h_48 =>
    subst_vars
    obtain ⟨hd9, rfl⟩ := zd1 hok hd
    have e9 : lc' = lc := zsto_keep hs
    subst e9
    exact zsto_W hG hinj hAd hP hS hM hs (Or.inl rfl) (fun g1 g2 g3 g4 g5 => W.iast hx hbA.1 g1 g2 g3 g4 rfl rfl hd9 g5) (fun H1 locs1 q1 q2 q3 => kk ls H1 locs1 hl q1 q2 q3)
  case h_49 =>
    subst_vars
    obtain ⟨hd9, rfl⟩ := zd1 hok hd
    have e9 : lc' = lc := zsto_keep hs
    subst e9
    exact zsto_W hG hinj hAd hP hS hM hs (Or.inr rfl) (fun g1 g2 g3 g4 g5 => W.cast hx hbA.1 g1 g2 g3 g4 rfl rfl hd9 g5) (fun H1 locs1 q1 q2 q3 => kk ls H1 locs1 hl q1 q2 q3)
  case h_50 =>
    subst_vars
    simp only [zlenOk, Bool.and_eq_true, Bool.or_eq_true, decide_eq_true_eq] at hok
    obtain ⟨h1, h2⟩ := hok
    obtain ⟨hd9, rfl⟩ := zdk h1 hd
    have h2 := zor3 h2
    split at hs
    case h_3 => cases hs
    case h_1 hf =>
      cases hs
      exact zgetf_W hx hbA.1 hown hts hG hP hS hM hf h2 hd9 (k0 _ rfl rfl rfl)
    case h_2 hf =>
      cases hs
      exact zgetf_W hx hbA.1 hown hts hG hP hS hM hf h2 hd9 (k0 _ rfl rfl rfl)
  case h_51 =>
    subst_vars
    simp only [zlenOk, Bool.and_eq_true, Bool.or_eq_true, decide_eq_true_eq] at hok
    obtain ⟨⟨h1, h2⟩, h3⟩ := hok
    obtain ⟨hd9, rfl⟩ := zdk h1 hd
    split at hs
    case h_2 => cases hs
    case h_1 hf =>
      split at hs
      case isFalse => cases hs
      case isTrue ho =>
        cases hs
        refine zputf_W hx hbA.1 hown hts hG hinj hAd hP hS hM hf (by simpa using ho) h2 (fun C T N hq => ?_) hd9 (fun H1 locs1 q1 q2 q3 => kk ls H1 locs1 hl q1 q2 q3)
        rw [hq] at h3
        simpa using h3
  case h_52 => cases hs
end ZS
