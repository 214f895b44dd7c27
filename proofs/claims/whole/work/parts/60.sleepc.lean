section KZ
variable {L : Nat} {ro M : zM} {t : Nat → Nat}
/-- the gentlest and the hardest of the quiet manners -/
def qg1 (t : Nat → Nat) (v : Int32) (i m : Nat) : Nat := if qQ t v i m = true then qB t v i m else 1000000
def qg (t : Nat → Nat) (v : Int32) (i : Nat) : Nat := min (min (min 1000000 (qg1 t v i 0)) (qg1 t v i 1)) (qg1 t v i 2)
def qh1 (t : Nat → Nat) (v : Int32) (i m : Nat) : Nat := if qQ t v i m = true then qB t v i m else 0
def qh (t : Nat → Nat) (v : Int32) (i : Nat) : Nat := max (max (max 0 (qh1 t v i 0)) (qh1 t v i 1)) (qh1 t v i 2)
theorem qQ_iff {v : Int32} {i m : Nat} : qQ t v i m = true ↔ qF t v i m < 1000000 ∧ qB t v i m ≤ t 9 := by
  unfold qQ
  rw [Bool.and_eq_true, decide_eq_true_eq, decide_eq_true_eq]
theorem m3 {m : Nat} (h : m < 3) : m = 0 ∨ m = 1 ∨ m = 2 := by omega
theorem qg_le {v : Int32} {i m : Nat} (hm : m < 3) (hq : qQ t v i m = true) : qg t v i ≤ qB t v i m := by
  have e : qg1 t v i m = qB t v i m := by unfold qg1; rw [if_pos hq]
  unfold qg
  rcases m3 hm with rfl | rfl | rfl <;> omega
theorem qh_ge {v : Int32} {i m : Nat} (hm : m < 3) (hq : qQ t v i m = true) : qB t v i m ≤ qh t v i := by
  have e : qh1 t v i m = qB t v i m := by unfold qh1; rw [if_pos hq]
  unfold qh
  rcases m3 hm with rfl | rfl | rfl <;> omega
theorem qg_ex {v : Int32} {i : Nat} (h : qg t v i < 1000000) : ∃ m, m < 3 ∧ qQ t v i m = true ∧ qg t v i = qB t v i m := by
  have key : ∀ m, qg1 t v i m < 1000000 → qQ t v i m = true ∧ qg1 t v i m = qB t v i m := by
    intro m hm
    unfold qg1 at hm ⊢
    by_cases hq : qQ t v i m = true
    · rw [if_pos hq]; exact ⟨hq, rfl⟩
    · rw [if_neg hq] at hm; omega
  have hx : (qg1 t v i 0 < 1000000 ∧ qg t v i = qg1 t v i 0) ∨ (qg1 t v i 1 < 1000000 ∧ qg t v i = qg1 t v i 1) ∨ (qg1 t v i 2 < 1000000 ∧ qg t v i = qg1 t v i 2) := by
    unfold qg at *; omega
  rcases hx with ⟨h1, h2⟩ | ⟨h1, h2⟩ | ⟨h1, h2⟩
  · exact ⟨0, by omega, (key 0 h1).1, by rw [h2, (key 0 h1).2]⟩
  · exact ⟨1, by omega, (key 1 h1).1, by rw [h2, (key 1 h1).2]⟩
  · exact ⟨2, by omega, (key 2 h1).1, by rw [h2, (key 2 h1).2]⟩
theorem qh_ex {v : Int32} {i : Nat} : qh t v i = 0 ∨ ∃ m, m < 3 ∧ qQ t v i m = true ∧ qh t v i = qB t v i m := by
  have key : ∀ m, qh1 t v i m = 0 ∨ (qQ t v i m = true ∧ qh1 t v i m = qB t v i m) := by
    intro m
    unfold qh1
    by_cases hq : qQ t v i m = true
    · rw [if_pos hq]; exact Or.inr ⟨hq, rfl⟩
    · rw [if_neg hq]; exact Or.inl rfl
  have hx : qh t v i = 0 ∨ qh t v i = qh1 t v i 0 ∨ qh t v i = qh1 t v i 1 ∨ qh t v i = qh1 t v i 2 := by
    unfold qh; omega
  rcases hx with h | h | h | h
  · exact Or.inl h
  · rcases key 0 with q | q
    · exact Or.inl (by rw [h, q])
    · exact Or.inr ⟨0, by omega, q.1, by rw [h, q.2]⟩
  · rcases key 1 with q | q
    · exact Or.inl (by rw [h, q])
    · exact Or.inr ⟨1, by omega, q.1, by rw [h, q.2]⟩
  · rcases key 2 with q | q
    · exact Or.inl (by rw [h, q])
    · exact Or.inr ⟨2, by omega, q.1, by rw [h, q.2]⟩
theorem qB_60 {v : Int32} {i m : Nat} (hb : zTb t) (hi : i < t 0) : qB t v i m ≤ 60 := wbu_le hb (wst_lt hi)
theorem q20 {v : Int32} {i m m' : Nat} (hb : zTb t) (hi : i < t 0) (hm : m < 3) (hm' : m' < 3) (hq : qQ t v i m = true) (hq' : qQ t v i m' = true) : qB t v i m' ≤ qB t v i m + 20 := by
  have hs := wst_lt (v := v) hi
  have h30 := (hb.2.2.1 _ hs).2.1
  have h40 : t 4 ≤ 40 := hb.2.1.2.1
  have hf : ∀ m, m = 0 → qQ t v i m = true → t (16 + wst t v i) ≤ 20 := by
    intro m hm hq
    have h1 := (qQ_iff.mp hq).1
    unfold qF wff at h1
    by_cases hc : wcn t (wst t v i) m (wfo t (wst t v i) m v (wl0 t)) = true
    · subst hm
      simp [wcn] at hc
      omega
    · rw [if_neg hc] at h1; omega
  have f1 := fun e => hf m e hq
  have f2 := fun e => hf m' e hq'
  have e2 : wup (t (16 + wst t v i)) 2 = (t (16 + wst t v i) + 1) / 2 := rfl
  unfold qB wbu
  rw [e2]
  generalize t (16 + wst t v i) = h at *
  by_cases a0 : m = 0
  · have := f1 a0
    rcases m3 hm' with rfl | rfl | rfl <;> (subst a0; simp <;> first | omega | (split <;> omega))
  · by_cases b0 : m' = 0
    · have := f2 b0
      subst b0
      rcases m3 hm with rfl | rfl | rfl
      · omega
      · simp; split <;> omega
      · simp; split <;> omega
    · rcases m3 hm with rfl | rfl | rfl <;> rcases m3 hm' with rfl | rfl | rfl <;> simp at * <;> omega
theorem qB_ge {v : Int32} {i m : Nat} (hm : m < 3) (hg : qg t v i < 1000000) (hf : qF t v i m < 1000000) : qg t v i ≤ qB t v i m := by
  by_cases hq : qQ t v i m = true
  · exact qg_le hm hq
  · obtain ⟨m', h1, h2, h3⟩ := qg_ex hg
    have := (qQ_iff.mp h2).2
    have : ¬ qB t v i m ≤ t 9 := fun q => hq (qQ_iff.mpr ⟨hf, q⟩)
    omega
theorem wup_pos {a b : Nat} (hb : 0 < b) (ha : 0 < a) : 1 ≤ wup a b := by
  have := (wup_iff (a := a) (n := 0) hb)
  rw [Nat.zero_mul] at this
  omega
theorem qF_1 {v : Int32} {i m : Nat} (hb : zTb t) (hi : i < t 0) : 1 ≤ qF t v i m := by
  have hs := wst_lt (v := v) hi
  have h1 := (hb.2.2.1 _ hs).1
  have h5 : 1 ≤ wl0 t := by have := hb.2.1; unfold wl0; omega
  have h4 : 0 < t 4 := by have := hb.2.1.1; omega
  have h0 : 1 ≤ wf0 t (wst t v i) m (wl0 t) := wup_pos (Nat.mul_pos (wpt_pos m) h4) (Nat.mul_pos (by omega) (by omega))
  have hw : 1 ≤ wfo t (wst t v i) m v (wl0 t) := by unfold wfo; split <;> omega
  unfold qF wff
  split
  · exact hw
  · omega
theorem qU_1 {v : Int32} {i m : Nat} (hb : zTb t) (hi : i < t 0) : 1 ≤ qU t v i m := wup_pos (by omega) (qF_1 hb hi)
theorem wNx_ex {v : Int32} {i k b : Nat} {G : Nat → Nat → Nat} (h : wNx t v i G k b < 1000000) : ∃ m, m < 3 ∧ wNx t v i G k b = wcM t v i G m k b ∧ qQ t v i m = true ∧ qB t v i m ≤ b ∧ b ≤ 10 * t 10 ∧ k + qU t v i m ≤ t 11 ∧ wcM t v i G m k b = wRR t i G (k + qU t v i m) (b - qB t v i m) + wbe m := by
  have hx : ∃ m, m < 3 ∧ wNx t v i G k b = wcM t v i G m k b := by
    have hy : wNx t v i G k b = wcM t v i G 0 k b ∨ wNx t v i G k b = wcM t v i G 1 k b ∨ wNx t v i G k b = wcM t v i G 2 k b := by unfold wNx at *; omega
    rcases hy with e | e | e
    · exact ⟨0, by omega, e⟩
    · exact ⟨1, by omega, e⟩
    · exact ⟨2, by omega, e⟩
  obtain ⟨m, hm, e⟩ := hx
  rw [e] at h
  refine ⟨m, hm, e, ?_⟩
  unfold wcM at h ⊢
  by_cases hc : qQ t v i m = true ∧ qB t v i m ≤ b ∧ b ≤ 10 * t 10 ∧ qF t v i m ≤ k + qU t v i m ∧ k + qU t v i m ≤ t 11
  · rw [if_pos hc]
    exact ⟨hc.1, hc.2.1, hc.2.2.1, hc.2.2.2.2, rfl⟩
  · rw [if_neg hc] at h
    omega
theorem wRR_lt {i k b : Nat} {G : Nat → Nat → Nat} (h : wRR t i G k b < 1000000) : ∃ j, G j b < 1000000 := by
  unfold wRR at h
  by_cases hc : 0 < i ∧ k = t 11
  · rw [if_pos hc] at h
    by_cases h1 : G (t 11) b < 1000000
    · exact ⟨_, h1⟩
    · have h2 : wmn (fun j => G j b) (t 11) < 1000000 := by omega
      have hz : ∀ n, wmn (fun j => G j b) n < 1000000 → ∃ j, G j b < 1000000 := by
        intro n
        induction n with
        | zero => intro q; exact absurd q (by unfold wmn; omega)
        | succ n ih =>
          intro q
          have q' : min (wmn (fun j => G j b) n) (G n b) < 1000000 := q
          by_cases q1 : G n b < 1000000
          · exact ⟨n, q1⟩
          · exact ih (by omega)
      exact hz _ h2
  · rw [if_neg hc] at h
    exact ⟨_, h⟩
theorem wRR_no {i k b : Nat} {G : Nat → Nat → Nat} (hG : ∀ k b, G k b ≤ 1000000) (h : ∀ j, G j b = 1000000) : wRR t i G k b = 1000000 := by
  have h1 := wRR_top (t := t) (i := i) hG k b
  by_cases h2 : wRR t i G k b < 1000000
  · obtain ⟨j, hj⟩ := wRR_lt h2
    have := h j
    omega
  · omega
theorem wG_k {v : Int32} (hb : zTb t) : ∀ i, i ≤ t 0 → ∀ k b, wG t v i k b < 1000000 → k ≤ t 11 ∧ (0 < i → k < t 11)
  | 0, _, k, b, h => by
    have h' : (if k = t 11 ∧ b = 0 then 0 else 1000000) < 1000000 := h
    by_cases hc : k = t 11 ∧ b = 0
    · exact ⟨by omega, fun q => by omega⟩
    · rw [if_neg hc] at h'; omega
  | i + 1, hi, k, b, h => by
    obtain ⟨m, hm, _, _, _, _, h5, _⟩ := wNx_ex h
    have := qU_1 (v := v) (i := i) (m := m) hb (by omega)
    exact ⟨by omega, fun _ => by omega⟩
theorem wG_sm {v : Int32} (hb : zTb t) : ∀ i, i ≤ t 0 → ∀ k b, wSm (110 * i) (wG t v i k b)
  | 0, _, k, b => by
    show wSm 0 (if k = t 11 ∧ b = 0 then 0 else 1000000)
    unfold wSm
    split <;> omega
  | i + 1, hi, k, b => by
    have h12 : t 0 ≤ 12 := hb.1.2.1
    have h99 : t 12 ≤ 99 := by have := hb.2.1; omega
    have ih := wG_sm (v := v) hb i (by omega)
    have htop := wG_top t v (i + 1) k b
    by_cases h : wG t v (i + 1) k b < 1000000
    · obtain ⟨m, hm, e1, _, _, _, _, e2⟩ := wNx_ex h
      have hbe := wbe_le m
      have hr : wSm (110 * i + 99) (wRR t i (wG t v i) (k + qU t v i m) (b - qB t v i m)) := by
        unfold wRR
        split
        · have a1 := ih (t 11) (b - qB t v i m)
          have a2 := wmn_sm (f := fun j => wG t v i j (b - qB t v i m)) (c := 110 * i) (by omega) (n := t 11) (fun j _ => ih j _)
          unfold wSm at *
          omega
        · exact wSm_le (ih _ _) (by omega)
      have e : wG t v (i + 1) k b = wRR t i (wG t v i) (k + qU t v i m) (b - qB t v i m) + wbe m := e1.trans e2
      rw [e] at h ⊢
      unfold wSm at *
      omega
    · exact Or.inl (by omega)
theorem wG_dead {v : Int32} {i : Nat} (h : ∀ k b, wG t v i k b = 1000000) : ∀ d, ∀ k b, wG t v (i + d) k b = 1000000
  | 0, k, b => h k b
  | d + 1, k, b => by
    have ih := wG_dead h d
    have htop := wG_top t v (i + d + 1) k b
    by_cases h2 : wG t v (i + d + 1) k b < 1000000
    · obtain ⟨m, _, e1, _, _, _, _, e2⟩ := wNx_ex h2
      have e : wG t v (i + d + 1) k b = _ := e1.trans e2
      rw [wRR_no (wG_top t v (i + d)) (fun j => ih j _)] at e
      omega
    · show wG t v (i + d + 1) k b = 1000000
      omega
theorem wAs_dead {v : Int32} {i : Nat} (hi : i ≤ t 0) (h : ∀ k b, wG t v i k b = 1000000) : wAs t v = 1000000 := by
  have hd := wG_dead h (t 0 - i)
  rw [show i + (t 0 - i) = t 0 by omega] at hd
  have h1 : wAs t v ≤ 1000000 := wmn_top _ _
  have h2 : 1000000 ≤ wAs t v := wmn_ge (by omega) (fun j _ => by rw [hd]; exact Nat.le_refl _)
  omega
theorem wG_noq {v : Int32} {i : Nat} (hb : zTb t) (hi : i < t 0) (h : qg t v i = 1000000) : ∀ k b, wG t v (i + 1) k b = 1000000 := by
  intro k b
  have htop := wG_top t v (i + 1) k b
  by_cases h2 : wG t v (i + 1) k b < 1000000
  · obtain ⟨m, hm, _, h3, _⟩ := wNx_ex h2
    have h4 := qg_le hm h3
    have h5 := qB_60 (v := v) (m := m) hb hi
    omega
  · omega
end KZ
