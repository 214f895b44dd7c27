def zv (ad : Nat → Nat) (v : Value) : Value := match v with
  | .ref k => .ref (ad k)
  | v => v
def zfv (ad : Nat → Nat) (f : Nat → Int32) : Nat → List (Option Nat) → List Value
  | _, [] => []
  | k, some r :: fs => .ref (ad r) :: zfv ad f (k + 1) fs
  | k, none :: fs => .int (f k) :: zfv ad f (k + 1) fs
theorem zfv_len (ad : Nat → Nat) (f : Nat → Int32) : ∀ (fs : List (Option Nat)) (k : Nat), (zfv ad f k fs).length = fs.length
  | [], _ => rfl
  | some _ :: fs, k => by simp [zfv, zfv_len ad f fs (k + 1)]
  | none :: fs, k => by simp [zfv, zfv_len ad f fs (k + 1)]
theorem zfv_ref (ad : Nat → Nat) (f : Nat → Int32) : ∀ (fs : List (Option Nat)) (b k r : Nat), znth fs k = some (some r) → (zfv ad f b fs)[k]? = some (.ref (ad r))
  | [], _, _, _, h => by simp [znth] at h
  | o :: fs, b, 0, r, h => by
    simp only [znth, Option.some.injEq] at h
    subst h
    simp [zfv]
  | some q :: fs, b, k + 1, r, h => by simpa [zfv] using zfv_ref ad f fs (b + 1) k r (by simpa [znth] using h)
  | none :: fs, b, k + 1, r, h => by simpa [zfv] using zfv_ref ad f fs (b + 1) k r (by simpa [znth] using h)
theorem zfv_int (ad : Nat → Nat) (f : Nat → Int32) : ∀ (fs : List (Option Nat)) (b k : Nat), znth fs k = some none → (zfv ad f b fs)[k]? = some (.int (f (b + k)))
  | [], _, _, h => by simp [znth] at h
  | o :: fs, b, 0, h => by
    simp only [znth, Option.some.injEq] at h
    subst h
    simp [zfv]
  | some q :: fs, b, k + 1, h => by
    have := zfv_int ad f fs (b + 1) k (by simpa [znth] using h)
    rw [show b + (k + 1) = b + 1 + k by omega]
    simpa [zfv] using this
  | none :: fs, b, k + 1, h => by
    have := zfv_int ad f fs (b + 1) k (by simpa [znth] using h)
    rw [show b + (k + 1) = b + 1 + k by omega]
    simpa [zfv] using this
theorem zfv_congr' (ad : Nat → Nat) (f g : Nat → Int32) : ∀ (fs : List (Option Nat)) (b : Nat), (∀ j, b ≤ j → f j = g j) → zfv ad f b fs = zfv ad g b fs
  | [], _, _ => rfl
  | some _ :: fs, b, h => by simp only [zfv]; rw [zfv_congr' ad f g fs (b + 1) (fun j hj => h j (by omega))]
  | none :: fs, b, h => by simp only [zfv]; rw [zfv_congr' ad f g fs (b + 1) (fun j hj => h j (by omega)), h b (Nat.le_refl b)]
theorem zfv_set (ad : Nat → Nat) (f : Nat → Int32) (x : Int32) : ∀ (fs : List (Option Nat)) (b k : Nat), znth fs k = some none → (zfv ad f b fs).set k (.int x) = zfv ad (fun j => if j = b + k then x else f j) b fs
  | [], _, _, h => by simp [znth] at h
  | o :: fs, b, 0, h => by
    simp only [znth, Option.some.injEq] at h
    subst h
    simp only [zfv, List.set_cons_zero, Nat.add_zero, if_true, List.cons.injEq, true_and]
    exact zfv_congr' ad _ _ fs (b + 1) (fun j hj => by rw [if_neg (by omega)])
  | some q :: fs, b, k + 1, h => by
    have := zfv_set ad f x fs (b + 1) k (by simpa [znth] using h)
    rw [show b + (k + 1) = b + 1 + k by omega]
    simp only [zfv, List.set_cons_succ, this]
  | none :: fs, b, k + 1, h => by
    have := zfv_set ad f x fs (b + 1) k (by simpa [znth] using h)
    rw [show b + (k + 1) = b + 1 + k by omega]
    simp only [zfv, List.set_cons_succ, this]
    rw [if_neg (by omega)]
def zcell (L : Nat) (ad : Nat → Nat) (cA : FieldType → ClassId) (M : zM) (i : Nat) : va_E := match znth (zsh L) i with
  | some (.inl (ty, n)) => .inl (cA ty, n, .inl (M i))
  | some (.inr (c, fs)) => .inr (c, zfv ad (M i) 0 fs)
  | none => .inr (0, [])
def zws (L : Nat) (ad : Nat → Nat) (cA : FieldType → ClassId) (M : zM) : va_W := (List.range (zN L)).map (fun i => (ad i, zcell L ad cA M i))
theorem zws_get {L : Nat} {ad : Nat → Nat} {cA : FieldType → ClassId} {M : zM} {i : Nat} (h : i < zN L) : (zws L ad cA M)[i]? = some (ad i, zcell L ad cA M i) := by
  unfold zws
  rw [List.getElem?_map, List.getElem?_range h]
  rfl
theorem zws_len {L : Nat} {ad : Nat → Nat} {cA : FieldType → ClassId} {M : zM} : (zws L ad cA M).length = zN L := by simp [zws]
theorem zcell_congr {L : Nat} {ad : Nat → Nat} {cA : FieldType → ClassId} {M M' : zM} {i : Nat} (h : M' i = M i) : zcell L ad cA M' i = zcell L ad cA M i := by
  unfold zcell
  rw [h]
theorem zws_set {L : Nat} {ad : Nat → Nat} {cA : FieldType → ClassId} {M M' : zM} {i : Nat} (hi : i < zN L) (h : ∀ k, k ≠ i → M' k = M k) {x : va_E} (hx : zcell L ad cA M' i = x) : (zws L ad cA M).set i (ad i, x) = zws L ad cA M' := by
  subst hx
  apply List.ext_getElem?
  intro k
  rw [List.getElem?_set]
  by_cases hk : k < zN L
  · rw [zws_get hk, zws_get hk]
    by_cases e : i = k
    · subst e
      rw [if_pos rfl, if_pos (by rw [zws_len]; exact hi)]
    · rw [if_neg e, zcell_congr (h k (fun q => e q.symm))]
  · rw [if_neg (by omega)]
    rw [List.getElem?_eq_none (by rw [zws_len]; omega), List.getElem?_eq_none (by rw [zws_len]; omega)]
theorem zput_ne {M : zM} {i j : Nat} {x : Int32} {k : Nat} (h : k ≠ i) : zput M i j x k = M k := by
  funext b
  simp [zput, h]
theorem zput_self {M : zM} {i j : Nat} {x : Int32} : zput M i j x i = upd (M i) j x := by
  funext b
  simp [zput, upd]
theorem zD {L : Nat} {ad : Nat → Nat} {cA : FieldType → ClassId} {A : Nat → Prop} (hinj : ∀ i j, i < zN L → j < zN L → ad i = ad j → i = j) (hA : ∀ i, i < zN L → A (ad i)) (M : zM) : va_D A (zws L ad cA M) := by
  have key : ∀ (k : Nat) (q : Nat × va_E), (zws L ad cA M)[k]? = some q → k < zN L ∧ q.1 = ad k := by
    intro k q h
    have hk : k < zN L := by
      have := (List.getElem?_eq_some_iff.mp h).1
      rwa [zws_len] at this
    rw [zws_get hk] at h
    cases h
    exact ⟨hk, rfl⟩
  refine ⟨fun i j x y hi hj hxy => ?_, fun k q hk => ?_⟩
  · obtain ⟨h1, e1⟩ := key i x hi
    obtain ⟨h2, e2⟩ := key j y hj
    exact hinj i j h1 h2 (by rw [← e1, ← e2]; exact hxy)
  · obtain ⟨h1, e1⟩ := key k q hk
    rw [e1]
    exact hA k h1
theorem zN_le (L : Nat) : zN L ≤ zNW := by
  cases L
  · show 48 ≤ 62; omega
  · show 62 ≤ 62; omega
theorem zshB_at {d : Nat} {q : zSh} (h : zshB[d]? = some q) : (∃ ty n, q = .inl (ty, n)) ∨ (d = 6 ∧ q = .inr (11, [some 70, none])) := by
  match d, h with
  | 0, h => cases h; exact Or.inl ⟨_, _, rfl⟩
  | 1, h => cases h; exact Or.inl ⟨_, _, rfl⟩
  | 2, h => cases h; exact Or.inl ⟨_, _, rfl⟩
  | 3, h => cases h; exact Or.inl ⟨_, _, rfl⟩
  | 4, h => cases h; exact Or.inl ⟨_, _, rfl⟩
  | 5, h => cases h; exact Or.inl ⟨_, _, rfl⟩
  | 6, h => cases h; exact Or.inr ⟨rfl, rfl⟩
  | 7, h => cases h; exact Or.inl ⟨_, _, rfl⟩
  | d + 8, h => simp [zshB] at h
theorem zshA_all : zshA.all (fun s => match s with
    | .inr (c, _) => decide (c < 11)
    | .inl (t, _) => decide (t = .int ∨ t = .char)) = true := by decide
theorem zshA0_all : zshA0.all (fun s => match s with
    | .inr (c, _) => decide (c < 11)
    | .inl (t, _) => decide (t = .int ∨ t = .char)) = true := by decide
theorem zshD_all : zshD.all (fun s => decide (s = .inr (99, []))) = true := by decide
/-- a cell's kind says where it lies -/
theorem zsh_at {L o : Nat} {q : zSh} (h : znth (zsh L) o = some q) : (o < zN L ∧ (match q with
    | .inr (c, _) => c < 11
    | .inl (t, _) => t = .int ∨ t = .char)) ∨ (zNW ≤ o ∧ ∃ ty n, q = .inl (ty, n)) ∨ (o = 69 ∧ q = .inr (11, [some 70, none])) ∨ q = .inr (99, []) := by
  cases L with
  | succ L =>
    rw [znth_eq, zsh_eq] at h
    by_cases ho : o < 62
    · left
      rw [List.getElem?_append_left (by show o < 62; exact ho)] at h
      have := List.all_eq_true.mp zshA_all _ (List.mem_of_getElem? h)
      refine ⟨ho, ?_⟩
      rcases q with ⟨t, n⟩ | ⟨c, fs⟩ <;> simpa using this
    · right
      rw [List.getElem?_append_right (by show 62 ≤ o; omega)] at h
      have hl : zshA.length = 62 := rfl
      rw [hl] at h
      obtain ⟨d, rfl⟩ : ∃ d, o = 62 + d := ⟨o - 62, by omega⟩
      rw [Nat.add_sub_cancel_left] at h
      cases d with
      | zero =>
        simp only [List.getElem?_cons_zero, Option.some.injEq] at h
        subst h
        exact Or.inl ⟨show 62 ≤ 62 + 0 by omega, _, _, rfl⟩
      | succ d =>
        rw [List.getElem?_cons_succ] at h
        rcases zshB_at h with h9 | ⟨rfl, h9⟩
        · exact Or.inl ⟨show 62 ≤ 62 + (d + 1) by omega, h9⟩
        · exact Or.inr (Or.inl ⟨rfl, h9⟩)
  | zero =>
    rw [znth_eq, zsh_eq0] at h
    by_cases ho : o < 48
    · left
      rw [List.getElem?_append_left (by show o < 48; exact ho)] at h
      have := List.all_eq_true.mp zshA0_all _ (List.mem_of_getElem? h)
      refine ⟨ho, ?_⟩
      rcases q with ⟨t, n⟩ | ⟨c, fs⟩ <;> simpa using this
    · right
      rw [List.getElem?_append_right (by show 48 ≤ o; omega)] at h
      have hl : zshA0.length = 48 := rfl
      rw [hl] at h
      by_cases h2 : o - 48 < 15
      · rw [List.getElem?_append_left (by show o - 48 < 15; exact h2)] at h
        have := List.all_eq_true.mp zshD_all _ (List.mem_of_getElem? h)
        exact Or.inr (Or.inr (by simpa using this))
      · rw [List.getElem?_append_right (by show 15 ≤ o - 48; omega)] at h
        have hl2 : zshD.length = 15 := rfl
        rw [hl2] at h
        rcases zshB_at h with h9 | ⟨hd, h9⟩
        · exact Or.inl ⟨show 62 ≤ o by omega, h9⟩
        · exact Or.inr (Or.inl ⟨by omega, h9⟩)
theorem zsh_arr {L o n : Nat} {ty : FieldType} (h : znth (zsh L) o = some (.inl (ty, n))) : (o < zN L ∧ (ty = .int ∨ ty = .char)) ∨ zNW ≤ o := by
  rcases zsh_at h with h | ⟨h, -⟩ | ⟨-, h⟩ | h
  · exact Or.inl h
  · exact Or.inr h
  · cases h
  · cases h
theorem zsh_obj {L o c : Nat} {fs : List (Option Nat)} (h : znth (zsh L) o = some (.inr (c, fs))) : (o < zN L ∧ c < 11) ∨ (o = 69 ∧ c = 11 ∧ fs = [some 70, none]) ∨ c = 99 := by
  rcases zsh_at h with h | ⟨-, _, _, h⟩ | ⟨h1, h⟩ | h
  · exact Or.inl h
  · cases h
  · cases h; exact Or.inr (Or.inl ⟨h1, rfl, rfl⟩)
  · cases h; exact Or.inr (Or.inr rfl)
/-- what the tables and the cells that nobody writes say, at a state -/
def zG (L : Nat) (ad : Nat → Nat) (D : va_G) (cA : FieldType → ClassId) (A : Nat → Prop) (M0 : zM) (U : State) : Prop :=
  va_K D vwCl [(cA .int, .int), (cA .char, .char)] U ∧ (∀ w ∈ znest, va_Nw w U) ∧ (∀ q ∈ zstat, va_Z q.1 q.2.1 q.2.2.1 (zv ad q.2.2.2) A U U.heap) ∧
  (∀ i ty n, zNW ≤ i → znth (zsh L) i = some (.inl (ty, n)) → va_T ty (ad i) n (fun j => .int (M0 i j)) A U U.heap) ∧
  va_O "java/lang/String" (ad 69) A U U.heap ∧ va_OF "java/lang/String" "value" "[B" (.ref (ad 70)) (ad 69) A U U.heap ∧ va_OF "java/lang/String" "coder" "B" (.int (M0 69 1)) (ad 69) A U U.heap ∧
  vk_R "PramAndSteps$Reader" 36 "spbkahnqmtei" (ad 69) U
theorem znest_warm {w : Cond} (hw : w ∈ znest) {s U : State} (hW : s.WarmedH U.vm) (h : va_Nw w s) : va_Nw w U := by
  have hn := (List.mem_filter.mp hw).2
  cases w <;> first | (simp [znw] at hn; done) | exact va_Nw.warmF hW h | exact va_Nw.warmM hW h
theorem zG.warm {L : Nat} {ad : Nat → Nat} {D : va_G} {cA : FieldType → ClassId} {A : Nat → Prop} {M0 : zM} {s U : State} (hW : s.WarmedH U.vm) (hk : ∀ a : Nat, a < s.heap.size → ¬ A a → U.heap[a]? = s.heap[a]?) (h : zG L ad D cA A M0 s) : zG L ad D cA A M0 U := by
  obtain ⟨h1, h2, h3, h4, h5, h6, h7, h8⟩ := h
  have ha := hW.alike
  exact ⟨va_K.moved ha h1, fun w hw => znest_warm hw hW (h2 w hw), fun q hq => (va_Z.moved ha (h3 q hq)).kept hk, fun i ty n hi hs => (va_T.moved ha (h4 i ty n hi hs)).kept hk, (va_O.moved ha h5).kept hk, (va_OF.moved ha h6).kept hk, (va_OF.moved ha h7).kept hk, vk_R.warm hW h8⟩
theorem zG.same {L : Nat} {ad : Nat → Nat} {D : va_G} {cA : FieldType → ClassId} {A : Nat → Prop} {M0 : zM} {s U : State} (hv : s.vm = U.vm) (hh : s.heap = U.heap) (h : zG L ad D cA A M0 s) : zG L ad D cA A M0 U := by
  obtain ⟨h1, h2, h3, h4, h5, h6, h7, h8⟩ := h
  have ha : s.vm.Alike U.vm := by rw [hv]; exact Vm.Alike.refl _
  have hk : ∀ a : Nat, a < s.heap.size → ¬ A a → U.heap[a]? = s.heap[a]? := fun a _ _ => by rw [hh]
  have hn : ∀ w ∈ znest, w.onTables = true := by
    intro w hw
    have := (List.mem_filter.mp hw).2
    cases w <;> first | (simp [znw] at this; done) | rfl
  exact ⟨va_K.moved ha h1, fun w hw => va_Nw.same (hn w hw) hv (h2 w hw), fun q hq => (va_Z.moved ha (h3 q hq)).kept hk, fun i ty n hi hs => (va_T.moved ha (h4 i ty n hi hs)).kept hk, (va_O.moved ha h5).kept hk, (va_OF.moved ha h6).kept hk, (va_OF.moved ha h7).kept hk, vk_R.same hv.symm h8⟩
/-- the locals -/
def zLs (ad : Nat → Nat) (ls : Array Slot) (n : Nat) (lc : zLo) : Prop := ls.size = n ∧ lv_wf ls ∧ ∀ (i : Nat) (v : Value), lc[i]? = some (some v) → ls[i]? = some (.val (zv ad v))
theorem zat_eq : ∀ {lc : zLo} {i : Nat} {v : Value}, zat lc i = some v → lc[i]? = some (some v)
  | [], _, _, h => by simp [zat] at h
  | o :: lc, 0, v, h => by simp only [zat] at h; simp [h]
  | o :: lc, i + 1, v, h => by simp only [zat] at h; simpa using zat_eq h
def zlv (ad : Nat → Nat) (lc : zLo) : List (Nat × Value) := (List.range lc.length).filterMap (fun i => match lc[i]? with
  | some (some v) => some (i, zv ad v)
  | _ => none)
theorem zlv_mem {ad : Nat → Nat} {lc : zLo} {i : Nat} {v : Value} (h : lc[i]? = some (some v)) : (i, zv ad v) ∈ zlv ad lc := by
  unfold zlv
  refine List.mem_filterMap.mpr ⟨i, ?_, ?_⟩
  · exact List.mem_range.mpr (List.getElem?_eq_some_iff.mp h).1
  · rw [h]
theorem zlv_of {ad : Nat → Nat} {lc : zLo} {q : Nat × Value} (h : q ∈ zlv ad lc) : ∃ v, lc[q.1]? = some (some v) ∧ q.2 = zv ad v := by
  unfold zlv at h
  obtain ⟨i, -, hi⟩ := List.mem_filterMap.mp h
  split at hi
  next v hv => cases hi; exact ⟨v, hv, rfl⟩
  next => cases hi
theorem zLs.has {ad : Nat → Nat} {ls : Array Slot} {n : Nat} {lc : zLo} (h : zLs ad ls n lc) : lv_has ls n (zlv ad lc) := by
  refine ⟨h.1, h.2.1, fun q hq => ?_⟩
  obtain ⟨v, h1, h2⟩ := zlv_of hq
  rw [h2]
  exact h.2.2 q.1 v h1
theorem zv_cat (ad : Nat → Nat) (v : Value) : (zv ad v).category = v.category := by cases v <;> rfl
theorem zkill_get : ∀ (lc : zLo) (i j : Nat) (v : Value), (zkill lc i)[j]? = some (some v) → lc[j]? = some (some v) ∧ ¬ (j + 1 = i ∧ v.category = 2)
  | lc, 0, j, v, h => ⟨by simpa [zkill] using h, by omega⟩
  | [], i + 1, j, v, h => by simp [zkill] at h
  | o :: lc, 1, j, v, h => by
    cases j with
    | zero =>
      simp only [zkill, List.getElem?_cons_zero, Option.some.injEq] at h
      cases o with
      | none => simp [zkl] at h
      | some w =>
        cases w <;> simp [zkl] at h <;> (subst h; simp [Value.category])
    | succ j => exact ⟨by simpa [zkill] using h, by omega⟩
  | o :: lc, i + 2, j, v, h => by
    cases j with
    | zero => exact ⟨by simpa [zkill] using h, by omega⟩
    | succ j =>
      obtain ⟨h1, h2⟩ := zkill_get lc (i + 1) j v (by simpa [zkill] using h)
      exact ⟨by simpa using h1, by omega⟩
theorem zkill_len : ∀ (lc : zLo) (i : Nat), (zkill lc i).length = lc.length
  | lc, 0 => by simp [zkill]
  | [], i + 1 => by simp [zkill]
  | o :: lc, 1 => by simp [zkill]
  | o :: lc, i + 2 => by simp [zkill, zkill_len lc (i + 1)]
theorem zLs.store1 {ad : Nat → Nat} {ls ls' : Array Slot} {n i : Nat} {lc : zLo} {v : Value} (h : lv_has ls' n ((i, zv ad v) :: (zlv ad lc).filter (fun q => !(q.1 == i) && !(q.1 + 1 == i && q.2.category == 2)))) : zLs ad ls' n (zset1 lc i v) := by
  refine ⟨h.1, h.2.1, fun j w hj => ?_⟩
  unfold zset1 at hj
  rw [List.getElem?_set] at hj
  by_cases e : i = j
  · subst e
    rw [if_pos rfl] at hj
    split at hj
    next => cases hj; exact h.2.2 (i, zv ad v) List.mem_cons_self
    next => cases hj
  · rw [if_neg e] at hj
    obtain ⟨h1, h2⟩ := zkill_get lc i j w hj
    refine h.2.2 (j, zv ad w) (List.mem_cons_of_mem _ (List.mem_filter.mpr ⟨zlv_mem h1, ?_⟩))
    have e' : ¬ j = i := fun q => e q.symm
    simp only [zv_cat]
    by_cases hc : j + 1 = i
    · have : ¬ w.category = 2 := fun q => h2 ⟨hc, q⟩
      simp [e', this]
    · simp [e', hc]
theorem zLs.store2 {ad : Nat → Nat} {ls ls' : Array Slot} {n i : Nat} {lc : zLo} {v : Value} (h : lv_has ls' n ((i, zv ad v) :: (zlv ad lc).filter (fun q => !(q.1 == i) && (!(q.1 == i + 1) && !(q.1 + 1 == i && q.2.category == 2))))) : zLs ad ls' n (zset2 lc i v) := by
  refine ⟨h.1, h.2.1, fun j w hj => ?_⟩
  unfold zset2 at hj
  rw [List.getElem?_set] at hj
  by_cases e2 : i + 1 = j
  · rw [if_pos e2] at hj
    split at hj <;> cases hj
  rw [if_neg e2, List.getElem?_set] at hj
  by_cases e : i = j
  · subst e
    rw [if_pos rfl] at hj
    split at hj
    next => cases hj; exact h.2.2 (i, zv ad v) List.mem_cons_self
    next => cases hj
  · rw [if_neg e] at hj
    obtain ⟨h1, h2⟩ := zkill_get lc i j w hj
    refine h.2.2 (j, zv ad w) (List.mem_cons_of_mem _ (List.mem_filter.mpr ⟨zlv_mem h1, ?_⟩))
    have e' : ¬ j = i := fun q => e q.symm
    have e2' : ¬ j = i + 1 := fun q => e2 q.symm
    simp only [zv_cat]
    by_cases hc : j + 1 = i
    · have : ¬ w.category = 2 := fun q => h2 ⟨hc, q⟩
      simp [e', e2', this]
    · simp [e', e2', hc]
theorem zin_vp {j : Int32} {n : Nat} (h : zinb j n = true) : vp_in j n := by
  simp only [zinb, Bool.and_eq_true, decide_eq_true_eq] at h
  intro q
  rcases q with q | q
  · exact absurd h.1 (Int32.not_le.mpr q)
  · omega
