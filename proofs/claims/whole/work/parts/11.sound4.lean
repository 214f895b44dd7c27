theorem zfetch_mem : ∀ {l : List (Nat × zE)} {pc : Nat} {en : zE}, zfetch l pc = some en → (pc, en) ∈ l
  | [], _, _, h => by simp [zfetch] at h
  | q :: l, pc, en, h => by
    unfold zfetch at h
    split at h
    next hq =>
      cases h
      have : q.1 = pc := Nat.eq_of_beq_eq_true hq
      subst this
      exact List.mem_cons_self
    next => exact List.mem_cons_of_mem _ (zfetch_mem h)
def zretOk (bb : ByteArray) (rt : Option FieldType) (pc : Nat) (v : Option Value) : Prop := match v with
  | some (.int x) => decode bb pc = .ok (.ireturn, 1) ∧ ∃ t, rt = some t ∧ narrow t (.int x) = .int x
  | some (.long _) => decode bb pc = .ok (.lreturn, 1) ∧ rt = some .long
  | none => decode bb pc = .ok (.return_, 1) ∧ rt = none
  | _ => False
def zPc (L : Nat) (ad : Nat → Nat) (D : va_G) (cA : FieldType → ClassId) (A : Nat → Prop) (M0 : zM) (as : List Value) (M : zM) : Array Value → State → Prop :=
  va_Pc (as.map (zv ad)) (fun U => va_P D vwCl (zws L ad cA M) U.heap ∧ zG L ad D cA A M0 U)
def zQc (L : Nat) (ad : Nat → Nat) (D : va_G) (cA : FieldType → ClassId) (A : Nat → Prop) (M0 : zM) (v : Option Value) (M : zM) : Array Value → State → Outcome → State → Prop :=
  fun _ st o t => o = .returned (v.map (zv ad)) ∧ va_P D vwCl (zws L ad cA M) t.heap ∧ (∀ i, zNW ≤ i → M i = M0 i) ∧ va_F A st t
def zwm (q : zMe) : List Cond := .code q.2.1 q.2.2.1 q.2.2.2.1 q.2.2.2.2.1 :: zgood
def zrm (q : zMe) : Room := { frames := q.2.2.2.2.2.2.1, cells := 0, slots := 0, locals := q.2.2.2.2.2.2.2 }
theorem zGoodIn {ws : List Cond} (h : ∀ w ∈ ws, w ∈ zgood) : GoodIn zgood ws := fun w hw => ⟨h w hw, good_of_word (List.mem_filter.mp (h w hw)).2⟩
theorem zblind {L : Nat} {ad : Nat → Nat} {D : va_G} {cA : FieldType → ClassId} {A : Nat → Prop} {M0 M : zM} {as : List Value} : FrameBlind (zPc L ad D cA A M0 as M) := fun a U g mk q => by
  obtain ⟨q1, q2, q3⟩ := q
  exact ⟨q1, q2, zG.same (s := U) rfl rfl q3⟩
theorem zpush_map {ad : Nat → Nat} {rk : Nat} {v : Option Value} {st st' : List Value} (h : zpush rk v st = some st') : st'.map (zv ad) = (v.map (zv ad)).toList ++ st.map (zv ad) := by
  unfold zpush at h
  split at h <;> first | (cases h; rfl) | cases h
theorem zslots_len {ad : Nat → Nat} : ∀ vs : List Value, (lg_sl (vs.map (zv ad))).length = (zslots vs).length
  | [] => rfl
  | v :: vs => by
    have := zslots_len (ad := ad) vs
    rw [List.map_cons]
    cases v <;> simp_all [lg_sl, zslots, zv, Value.category]
theorem zini_entry (ad : Nat → Nat) : ∀ (vs : List Value) (b : Nat) (i : Nat) (v : Value), (zslots vs)[i]? = some (some v) → (b + i, zv ad v) ∈ lv_args b (vs.map (zv ad))
  | [], b, i, v, h => by simp [zslots] at h
  | w :: vs, b, i, v, h => by
    unfold zslots at h
    rw [List.map_cons]
    unfold lv_args
    by_cases hc : w.category = 2
    · rw [if_pos hc] at h
      rw [if_pos (by rw [zv_cat]; exact hc)]
      match i, h with
      | 0, h => simp at h; subst h; simp
      | 1, h => simp at h
      | i + 2, h =>
        have := zini_entry ad vs (b + 2) i v (by simpa using h)
        rw [show b + (i + 2) = b + 2 + i by omega]
        exact List.mem_cons_of_mem _ this
    · rw [if_neg hc] at h
      rw [if_neg (by rw [zv_cat]; exact hc)]
      match i, h with
      | 0, h => simp at h; subst h; simp
      | i + 1, h =>
        have := zini_entry ad vs (b + 1) i v (by simpa using h)
        rw [show b + (i + 1) = b + 1 + i by omega]
        exact List.mem_cons_of_mem _ this
theorem zini_Ls {ad : Nat → Nat} {ls : Array Slot} {n : Nat} {vs : List Value} (h : lv_has ls n (lv_args 0 (vs.map (zv ad)))) : zLs ad ls n (zini n vs) := by
  refine ⟨h.1, h.2.1, fun i v hi => ?_⟩
  unfold zini at hi
  by_cases hlt : i < (zslots vs).length
  · rw [List.getElem?_append_left hlt] at hi
    have := zini_entry ad vs 0 i v hi
    rw [Nat.zero_add] at this
    exact h.2.2 _ this
  · rw [List.getElem?_append_right (by omega), List.getElem?_replicate] at hi
    split at hi <;> cases hi
