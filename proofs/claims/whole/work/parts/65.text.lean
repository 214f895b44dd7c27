def wup1 (t : Nat → Nat) (j x : Nat) : Nat → Nat := fun k => if k = j then x else t k
theorem wup1_at (t : Nat → Nat) (j x : Nat) : wup1 t j x j = x := by simp [wup1]
theorem wup1_o {t : Nat → Nat} {j x k : Nat} (h : k ≠ j) : wup1 t j x k = t k := by simp [wup1, h]
/-- a text: n signs, nothing behind them -/
def wTxt (n : Nat) (X : Nat → Nat) : Prop := n ≤ 200 ∧ (∀ j, j < n → 32 ≤ X j ∧ X j ≤ 126) ∧ ∀ j, n ≤ j → X j = 0
def wdg (c : Nat) : Bool := decide (48 ≤ c) && decide (c ≤ 57)
def wfg (X : Nat → Nat) (p : Nat) : Nat := if wdg (X p) = true then (if wdg (X (p + 1)) = true then 2 else 1) else 0
def wnu (X : Nat → Nat) (p : Nat) : Nat := if wdg (X p) = true then (if wdg (X (p + 1)) = true then 10 * (X p - 48) + (X (p + 1) - 48) else X p - 48) else 0
/-- a number and its sign behind it: the number, and the place behind -/
def wn1 (X : Nat → Nat) (p sep : Nat) : Option (Nat × Nat) := if wfg X p = 0 then none else if X (p + wfg X p) = sep then some (wnu X p, p + wfg X p + 1) else none
def wsep (d : Nat) : Nat := if d = 0 then 59 else 44
/-- the numbers of an item -/
def wtk (X : Nat → Nat) : Nat → Nat → Nat → (Nat → Nat) → Option ((Nat → Nat) × Nat)
  | 0, _, p, a => some (a, p)
  | d + 1, k, p, a => match wn1 X p (wsep d) with
    | none => none
    | some r => wtk X d (k + 1) r.2 (wup1 a k r.1)
def wLo (j : Nat) : Nat := [1, 10, 0, 3, 1, 1, 0, 0, 0, 0, 0, 0, 1, 1, 0, 1, 0, 0, 0, 0, 0, 0, 0, 0, 1, 0, 0, 0, 0, 0, 0, 0, 1, 0, 0, 0].getD j 0
def wHi (j : Nat) : Nat := [30, 60, 0, 40, 60, 99, 40, 0, 0, 40, 99, 99, 99, 99, 0, 99, 10, 0, 23, 9, 0, 99, 99, 0, 99, 0, 0, 60, 0, 0, 6, 6, 60, 6, 0, 0].getD j 0
def wNm (j : Nat) : Nat := [2, 3, 1, 3, 2, 2, 2, 2, 1, 1, 3, 1].getD j 0
def wLt (j : Nat) : Nat := [115, 112, 98, 107, 97, 104, 110, 113, 109, 116, 101, 105].getD j 0
def wbd (kd k x : Nat) : Bool := decide (wLo (3 * kd + k) ≤ x) && decide (x ≤ wHi (3 * kd + k))
/-- the same, each number within its bounds -/
def wtb (X : Nat → Nat) (kd : Nat) : Nat → Nat → Nat → (Nat → Nat) → Option ((Nat → Nat) × Nat)
  | 0, _, p, a => some (a, p)
  | d + 1, k, p, a => match wn1 X p (wsep d) with
    | none => none
    | some r => if wbd kd k r.1 = true then wtb X kd d (k + 1) r.2 (wup1 a k r.1) else none
theorem wtk_keep {X : Nat → Nat} : ∀ {d k p : Nat} {a b : Nat → Nat} {q : Nat}, wtk X d k p a = some (b, q) → ∀ j, j < k → b j = a j
  | 0, k, p, a, b, q, h, j, hj => by
    have : some (a, p) = some (b, q) := h
    cases this
    rfl
  | d + 1, k, p, a, b, q, h, j, hj => by
    unfold wtk at h
    cases hn : wn1 X p (wsep d) with
    | none => rw [hn] at h; cases h
    | some r =>
      rw [hn] at h
      have := wtk_keep h j (by omega)
      rw [this, wup1_o (by omega)]
def wall (kd : Nat) (b : Nat → Nat) : Nat → Nat → Bool
  | 0, _ => true
  | d + 1, k => wbd kd k (b k) && wall kd b d (k + 1)
theorem wtb_eq {X : Nat → Nat} {kd : Nat} : ∀ {d k p : Nat} {a : Nat → Nat}, wtb X kd d k p a = match wtk X d k p a with
    | none => none
    | some r => if wall kd r.1 d k = true then some r else none
  | 0, k, p, a => by
    show some (a, p) = if true = true then some (a, p) else none
    rfl
  | d + 1, k, p, a => by
    unfold wtb wtk
    cases hn : wn1 X p (wsep d) with
    | none => rfl
    | some r =>
      dsimp only
      rw [wtb_eq (d := d) (k := k + 1) (p := r.2) (a := wup1 a k r.1)]
      cases ht : wtk X d (k + 1) r.2 (wup1 a k r.1) with
      | none => dsimp only; split <;> rfl
      | some s =>
        dsimp only
        have e : s.1 k = r.1 := by
          have := wtk_keep (b := s.1) (q := s.2) ht k (by omega)
          rw [this, wup1_at]
        rw [show wall kd s.1 (d + 1) k = (wbd kd k (s.1 k) && wall kd s.1 d (k + 1)) from rfl, e]
        cases wbd kd k r.1 <;> simp
theorem wdg_iff {c : Nat} : wdg c = true ↔ 48 ≤ c ∧ c ≤ 57 := by
  unfold wdg
  rw [Bool.and_eq_true, decide_eq_true_eq, decide_eq_true_eq]
theorem wnu_le {X : Nat → Nat} {p : Nat} : wnu X p ≤ 99 := by
  unfold wnu
  by_cases h1 : wdg (X p) = true
  · rw [if_pos h1]
    have := wdg_iff.mp h1
    by_cases h2 : wdg (X (p + 1)) = true
    · rw [if_pos h2]
      have := wdg_iff.mp h2
      omega
    · rw [if_neg h2]; omega
  · rw [if_neg h1]; omega
theorem wfg_le {X : Nat → Nat} {p : Nat} : wfg X p ≤ 2 := by unfold wfg; split <;> (try split) <;> omega
theorem wn1_s {X : Nat → Nat} {p sep : Nat} {r : Nat × Nat} (h : wn1 X p sep = some r) : wfg X p ≠ 0 ∧ X (p + wfg X p) = sep ∧ r = (wnu X p, p + wfg X p + 1) := by
  unfold wn1 at h
  by_cases h1 : wfg X p = 0
  · rw [if_pos h1] at h; cases h
  · rw [if_neg h1] at h
    by_cases h2 : X (p + wfg X p) = sep
    · rw [if_pos h2] at h
      cases h
      exact ⟨h1, h2, rfl⟩
    · rw [if_neg h2] at h; cases h
theorem wsep_n (d : Nat) : wsep d = 59 ∨ wsep d = 44 := by unfold wsep; split <;> omega
theorem wn1_lt {n : Nat} {X : Nat → Nat} {p d : Nat} {r : Nat × Nat} (hX : wTxt n X) (h : wn1 X p (wsep d) = some r) : p + wfg X p < n ∧ p < r.2 ∧ r.2 ≤ n ∧ r.1 ≤ 99 := by
  obtain ⟨h1, h2, rfl⟩ := wn1_s h
  have h3 : p + wfg X p < n := by
    by_cases c : n ≤ p + wfg X p
    · have := hX.2.2 _ c
      have := wsep_n d
      omega
    · omega
  exact ⟨h3, by dsimp only; omega, by dsimp only; omega, wnu_le⟩
theorem wtk_lt {n : Nat} {X : Nat → Nat} (hX : wTxt n X) : ∀ {d k p : Nat} {a b : Nat → Nat} {q : Nat}, p ≤ n → wtk X d k p a = some (b, q) → p ≤ q ∧ q ≤ n ∧ (∀ j, k ≤ j → j < k + d → b j ≤ 99)
  | 0, k, p, a, b, q, hp, h => by
    have : some (a, p) = some (b, q) := h
    cases this
    exact ⟨Nat.le_refl _, hp, fun j h1 h2 => by omega⟩
  | d + 1, k, p, a, b, q, hp, h => by
    unfold wtk at h
    cases hn : wn1 X p (wsep d) with
    | none => rw [hn] at h; cases h
    | some r =>
      rw [hn] at h
      dsimp only at h
      obtain ⟨a1, a2, a3, a4⟩ := wn1_lt hX hn
      obtain ⟨b1, b2, b3⟩ := wtk_lt hX a3 h
      refine ⟨by omega, b2, fun j h1 h2 => ?_⟩
      by_cases e : j = k
      · rw [e, wtk_keep h k (by omega), wup1_at]; exact a4
      · exact b3 j (by omega) (by omega)
/-- which kind a letter is; 12: none -/
def wkf (c : Nat) : Nat → Nat → Nat
  | 0, _ => 12
  | d + 1, j => if wLt j = c then j else wkf c d (j + 1)
def wki (c : Nat) : Nat := wkf c 12 0
theorem wkf_le {c : Nat} : ∀ {d j : Nat}, d + j = 12 → wkf c d j ≤ 12
  | 0, _, _ => Nat.le_refl _
  | d + 1, j, h => by
    unfold wkf
    have := wkf_le (c := c) (d := d) (j := j + 1) (by omega)
    split <;> omega
theorem wki_le (c : Nat) : wki c ≤ 12 := wkf_le rfl
theorem wkf_at {c : Nat} : ∀ {d j : Nat}, d + j = 12 → wkf c d j < 12 → wLt (wkf c d j) = c
  | 0, _, _, h => by
    unfold wkf at h
    omega
  | d + 1, j, hd, h => by
    unfold wkf at h ⊢
    by_cases e : wLt j = c
    · rw [if_pos e]; exact e
    · rw [if_neg e] at h ⊢
      exact wkf_at (by omega) h
theorem wki_at {c : Nat} (h : wki c < 12) : wLt (wki c) = c := wkf_at rfl h
/-- an item laid into a town -/
def wTk (t : Nat → Nat) (kd : Nat) (a : Nat → Nat) : Option (Nat → Nat) := match kd with
  | 0 => if t 0 < 12 then some (wup1 (wup1 (wup1 t 0 (t 0 + 1)) (16 + t 0) (a 0)) (28 + t 0) (a 1)) else none
  | 1 => some (wup1 (wup1 (wup1 t 4 (a 0)) 5 (a 1)) 6 (a 2))
  | 2 => some (wup1 t 7 (a 0))
  | 3 => some (wup1 (wup1 (wup1 t 8 (a 0)) 9 (a 1)) 10 (a 2))
  | 4 => some (wup1 (wup1 t 11 (a 0)) 12 (a 1))
  | 5 => if t 1 < 4 then some (wup1 (wup1 (wup1 t 1 (t 1 + 1)) (40 + t 1) (a 0)) (44 + t 1) (a 1)) else none
  | 6 => some (wup1 t (48 + a 0) (a 1))
  | 7 => some (wup1 (wup1 t 13 (a 0)) 14 (a 1))
  | 8 => some (wup1 t 15 (a 0))
  | 9 => if t 2 < 7 then some (wup1 (wup1 t 2 (t 2 + 1)) (72 + t 2) (a 0)) else none
  | 10 => if t 3 < 10 ∧ a 0 < t 2 ∧ a 1 < t 2 ∧ a 0 ≠ a 1 then some (wup1 (wup1 (wup1 (wup1 t 3 (t 3 + 1)) (86 + t 3) (a 0)) (96 + t 3) (a 1)) (106 + t 3) (a 2)) else none
  | 11 => if a 0 < t 2 then some (wup1 t (79 + a 0) 1) else none
  | _ => none
/-- an item read: the place behind it and the town -/
def wIt (X : Nat → Nat) (p : Nat) (t : Nat → Nat) : Option (Nat × (Nat → Nat)) :=
  if wki (X p) = 12 then none else match wtb X (wki (X p)) (wNm (wki (X p))) 0 (p + 1) (fun _ => 0) with
    | none => none
    | some r => match wTk t (wki (X p)) r.1 with
      | none => none
      | some u => some (r.2, u)
/-- a text read -/
def wRd (X : Nat → Nat) (n : Nat) : Nat → Nat → (Nat → Nat) → Int32 × (Nat → Nat)
  | 0, _, t => (-4, t)
  | f + 1, p, t => if p < n then (match wIt X p t with
    | none => (nI p, t)
    | some r => wRd X n f r.1 r.2) else (-4, t)
/-- a town under way -/
def zTp (t : Nat → Nat) : Prop :=
  (t 0 ≤ 12 ∧ t 1 ≤ 4 ∧ t 2 ≤ 7 ∧ t 3 ≤ 10) ∧
  (3 ≤ t 4 ∧ t 4 ≤ 40 ∧ 1 ≤ t 5 ∧ t 5 ≤ 60 ∧ 1 ≤ t 6 ∧ t 6 ≤ 99 ∧ t 7 ≤ 40 ∧ t 8 ≤ 40 ∧ t 9 ≤ 99 ∧ t 10 ≤ 99 ∧ 1 ≤ t 11 ∧ t 11 ≤ 99 ∧ 1 ≤ t 12 ∧ t 12 ≤ 99 ∧ t 13 ≤ 99 ∧ t 14 ≤ 99 ∧ 1 ≤ t 15 ∧ t 15 ≤ 99) ∧
  (∀ s, s < t 0 → 1 ≤ t (16 + s) ∧ t (16 + s) ≤ 30 ∧ 10 ≤ t (28 + s) ∧ t (28 + s) ≤ 60) ∧
  (∀ h, h < t 1 → 1 ≤ t (40 + h) ∧ t (40 + h) ≤ 99 ∧ t (44 + h) ≤ 10) ∧
  (∀ h, h < 24 → t (48 + h) ≤ 9) ∧
  (∀ q, q < t 2 → t (72 + q) ≤ 60 ∧ t (79 + q) ≤ 1) ∧
  (∀ e, e < t 3 → t (86 + e) < t 2 ∧ t (96 + e) < t 2 ∧ t (86 + e) ≠ t (96 + e) ∧ 1 ≤ t (106 + e) ∧ t (106 + e) ≤ 60) ∧
  (∀ q, t 2 ≤ q → q < 7 → t (79 + q) = 0)
theorem zTp_b {t : Nat → Nat} (h : zTp t) (h0 : 1 ≤ t 0) : zTb t := ⟨⟨h0, h.1⟩, h.2.1, h.2.2.1, h.2.2.2.1, h.2.2.2.2.1, h.2.2.2.2.2.1, h.2.2.2.2.2.2.1⟩
theorem wbd_iff {kd k x : Nat} : wbd kd k x = true ↔ wLo (3 * kd + k) ≤ x ∧ x ≤ wHi (3 * kd + k) := by
  unfold wbd
  rw [Bool.and_eq_true, decide_eq_true_eq, decide_eq_true_eq]
