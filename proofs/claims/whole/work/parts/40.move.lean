/-- the step that comes next -/
def wst (t : Nat → Nat) (v : Int32) (i : Nat) : Nat := if v = 0 then i else t 0 - 1 - i
def wdn (n : Nat → Nat) : Int32 := if n 1 = 1 then 1 else 0
def wOk (t n : Nat → Nat) : Prop := n 0 ≤ t 0 ∧ n 1 ≤ 1 ∧ n 2 ≤ t 11 ∧ n 4 ≤ 60 * n 0 ∧ n 5 ≤ 1
def wRw (f : Nat → Int32) (n : Nat → Nat) : Prop := ∀ j, j < 6 → f j = nI (n j)
def wgF (t n : Nat → Nat) (m : Nat) : Nat := wfo t (wst t (wdn n) (n 0)) m (wdn n) (t 5 + t 7 + t 8)
def wgB (t n : Nat → Nat) (m : Nat) : Nat := wbu t (wst t (wdn n) (n 0)) m (wdn n)
def wgC (t n : Nat → Nat) (m : Nat) : Bool := decide (n 0 < t 0) && (wcn t (wst t (wdn n) (n 0)) m (wgF t n m) && decide (wgF t n m ≤ n 2))
def wgo (t n : Nat → Nat) (m : Nat) : Nat → Nat := fun j => if j = 0 then n 0 + 1 else if j = 2 then n 2 - wup (wgF t n m) 8 else if j = 3 then n 3 + wbe m else if j = 4 then n 4 + wgB t n m else if j = 5 then (if t 9 < wgB t n m ∨ 10 * t 10 < n 4 + wgB t n m then 1 else n 5) else n j
def wrs (t n : Nat → Nat) : Nat → Nat := fun j => if j = 2 then t 11 else if j = 3 then n 3 + t 12 else n j
def wmC (t n : Nat → Nat) (m : Nat) : Bool := if m = 3 then decide (n 2 < t 11) else wgC t n m
def wmo (t n : Nat → Nat) (m : Nat) : Nat → Nat := if m = 3 then wrs t n else wgo t n m
theorem wst_lt {t : Nat → Nat} {v : Int32} {i : Nat} (h : i < t 0) : wst t v i < t 0 := by unfold wst; split <;> omega
theorem wgo_ok {t n : Nat → Nat} {m : Nat} (hb : zTb t) (h : wOk t n) (hc : wgC t n m = true) : wOk t (wgo t n m) := by
  obtain ⟨h0, h1, h2, h4, h5⟩ := h
  simp only [wgC, Bool.and_eq_true, decide_eq_true_eq] at hc
  have hB : wgB t n m ≤ 60 := wbu_le hb (wst_lt hc.1)
  refine ⟨?_, ?_, ?_, ?_, ?_⟩
  · show n 0 + 1 ≤ t 0; omega
  · exact h1
  · show n 2 - wup (wgF t n m) 8 ≤ t 11; omega
  · show n 4 + wgB t n m ≤ 60 * (n 0 + 1); omega
  · show (if _ then 1 else n 5) ≤ 1
    split <;> omega
theorem wrs_ok {t n : Nat → Nat} (h : wOk t n) : wOk t (wrs t n) := by
  obtain ⟨h0, h1, h2, h4, h5⟩ := h
  exact ⟨h0, h1, Nat.le_refl _, h4, h5⟩
theorem wmo_ok {t n : Nat → Nat} {m : Nat} (hb : zTb t) (h : wOk t n) (hc : wmC t n m = true) : wOk t (wmo t n m) := by
  unfold wmC at hc
  unfold wmo
  split
  · exact wrs_ok h
  · rename_i h3
    rw [if_neg h3] at hc
    exact wgo_ok hb h hc
theorem zn62 {i k : Nat} (h : zNW ≤ i) (hk : k < 62) : i ≠ k := by
  have : zNW = 62 := rfl
  omega
section KM
variable {L : Nat} {ro M : zM} {t : Nat → Nat}
theorem s41k {k : Nat} (hk : k < 6) {i : Int32} (hi : i = nI k) : zden (L + 1) 4 0 [some (.ref 41), some (.int i)] [] M = some (some (.int (M 41 k)), M) := by
  rw [s4_41, hi, zrd_nI (by omega), if_pos hk]
theorem p41k {k : Nat} {x : Int32} (hk : k < 6) {i : Int32} (hi : i = nI k) : zden (L + 1) 5 0 [some (.ref 41), some (.int i), some (.int x)] [] M = some (none, zput M 41 k x) := by
  rw [s5_41, hi, zwr_nI hk (by omega)]
theorem g41_0 : zden (L + 1) 4 0 [some (.ref 41), some (.int 0)] [] M = some (some (.int (M 41 0)), M) := s41k (by omega) rfl
theorem g41_1 : zden (L + 1) 4 0 [some (.ref 41), some (.int 1)] [] M = some (some (.int (M 41 1)), M) := s41k (by omega) rfl
theorem g41_2 : zden (L + 1) 4 0 [some (.ref 41), some (.int 2)] [] M = some (some (.int (M 41 2)), M) := s41k (by omega) rfl
theorem g41_3 : zden (L + 1) 4 0 [some (.ref 41), some (.int 3)] [] M = some (some (.int (M 41 3)), M) := s41k (by omega) rfl
theorem g41_4 : zden (L + 1) 4 0 [some (.ref 41), some (.int 4)] [] M = some (some (.int (M 41 4)), M) := s41k (by omega) rfl
theorem p41_0 {x : Int32} : zden (L + 1) 5 0 [some (.ref 41), some (.int 0), some (.int x)] [] M = some (none, zput M 41 0 x) := p41k (by omega) rfl
theorem p41_2 {x : Int32} : zden (L + 1) 5 0 [some (.ref 41), some (.int 2), some (.int x)] [] M = some (none, zput M 41 2 x) := p41k (by omega) rfl
theorem p41_3 {x : Int32} : zden (L + 1) 5 0 [some (.ref 41), some (.int 3), some (.int x)] [] M = some (none, zput M 41 3 x) := p41k (by omega) rfl
theorem p41_4 {x : Int32} : zden (L + 1) 5 0 [some (.ref 41), some (.int 4), some (.int x)] [] M = some (none, zput M 41 4 x) := p41k (by omega) rfl
theorem p41_5 {x : Int32} : zden (L + 1) 5 0 [some (.ref 41), some (.int 5), some (.int x)] [] M = some (none, zput M 41 5 x) := p41k (by omega) rfl
theorem zTc_41 {o : Nat} {M' : zM} (hc : zTc M 1 t) (h : ∀ i, i ≠ o → M' i = M i) (ho : 12 ≤ o) : zTc M' 1 t :=
  zTc_c hc (h 1 (by omega)) (fun k h1 h2 => h _ (by omega))
theorem s74 {n : Nat → Nat} (hb : zTb t) (hc : zTc M 1 t) (hr : wRw (M 41) n) (ho : wOk t n) : ∃ M', zden (L + 1) 74 0 [some (.ref 26), some (.ref 41), none] [] M = some (some (.int (zb (decide (n 2 < t 11)))), M') ∧ (∀ i, i ≠ 41 → M' i = M i) ∧ (n 2 < t 11 → wRw (M' 41) (wrs t n)) := by
  have h11 : t 11 ≤ 99 := by have := hb.2.1; omega
  have hn2 := ho.2.2.1
  rw [e74_26_41_0, s0_7, zbI_some, g41_2, zbI_some, show M 4 7 = nI (t 11) from hc.2.1 7 (by omega), hr 2 (by omega)]
  by_cases h : n 2 < t 11
  · rw [if_pos (nI_lt h (by omega)), p41_2, zbV_some, g41_3, zbI_some, s0_8, zbI_some, p41_3, zbV_some]
    refine ⟨_, by rw [decide_eq_true h]; rfl, fun i hi => by rw [zput_ne hi, zput_ne hi], fun _ j hj => ?_⟩
    rw [zput_o M _ (Or.inr (by decide)), hr 3 (by omega), zput_ne (show (4 : Nat) ≠ 41 by decide), show M 4 8 = nI (t 12) from hc.2.1 8 (by omega), nI_add]
    unfold wrs
    by_cases h3 : j = 3
    · subst h3; rw [zput_at]; rfl
    · rw [zput_o _ _ (Or.inr h3)]
      by_cases h2 : j = 2
      · subst h2; rw [zput_at]; rfl
      · rw [zput_o _ _ (Or.inr h2), if_neg h2, if_neg h3, hr j hj]
  · rw [if_neg (nI_nlt (by omega) (by omega))]
    exact ⟨_, by rw [decide_eq_false h]; rfl, fun i hi => rfl, fun q => absurd q h⟩
theorem s75 {n4 b : Nat} (hb : zTb t) (hc : zTc M 1 t) (h4 : M 41 4 = nI n4) (hn : n4 ≤ 720) (hb60 : b ≤ 60) : zden (L + 1) 75 0 [some (.ref 26), some (.ref 41), some (.int (nI b)), none] [] M = some (none, if t 9 < b ∨ 10 * t 10 < n4 + b then zput (zput M 41 4 (nI (n4 + b))) 41 5 1 else zput M 41 4 (nI (n4 + b))) := by
  have h9 : t 9 ≤ 99 := by have := hb.2.1; omega
  have h10 : t 10 ≤ 99 := by have := hb.2.1; omega
  have hc' : zTc (zput M 41 4 (nI (n4 + b))) 1 t := zTc_41 hc (fun i hi => by rw [zput_ne hi]) (by omega)
  rw [e75_26_41_0, g41_4, zbI_some, h4, nI_add, p41_4, zbV_some, s0_5, zbI_some, show zput M 41 4 (nI (n4 + b)) 4 5 = nI (t 9) from hc'.2.1 5 (by omega)]
  by_cases ha : t 9 < b
  · rw [if_pos (nI_lt ha (by omega)), e75_26_41_42, p41_5, zbV_some, e75_26_41_48, if_pos (Or.inl ha)]
  · rw [if_neg (nI_nlt (by omega) (by omega)), s0_6, zbI_some, show zput M 41 4 (nI (n4 + b)) 4 6 = nI (t 10) from hc'.2.1 6 (by omega), show (10 : Int32) = nI 10 from rfl, nI_mul]
    by_cases hd : 10 * t 10 < n4 + b
    · rw [if_pos (nI_lt hd (by omega)), e75_26_41_42, p41_5, zbV_some, e75_26_41_48, if_pos (Or.inr hd)]
    · rw [if_neg (nI_nlt (by omega) (by omega)), e75_26_41_48, if_neg (by omega)]
theorem s60x (x v : Int32) {m l : Nat} : ∃ r, zden (L + 1) 60 0 [some (.ref 26), some (.int x), some (.int (nI m)), some (.int v), some (.int (nI l)), none] [] M = some (some (.int r), M) := by
  rw [e60_0, s4_2, zbI_some, s4_67, zbI_some, s0_0, zbI_some, s59, zbI_some]
  by_cases hv : v = 0
  · rw [if_pos hv, e60_53]; exact ⟨_, rfl⟩
  · rw [if_neg hv, s59, zbI_some, e60_53]; exact ⟨_, rfl⟩
theorem s57 {i : Nat} (v : Int32) (hc : zTc M 1 t) (hi : i < t 0) : zden (L + 1) 57 0 [some (.ref 26), some (.int (nI i)), some (.int v)] [] M = some (some (.int (nI (wst t v i))), M) := by
  rw [e57_0]
  unfold wst
  by_cases hv : v = 0
  · rw [if_pos hv, if_pos hv, e57_19]
  · rw [if_neg hv, if_neg hv, e57_19, hc.1.1, show (1 : Int32) = nI 1 from rfl, nI_sub (by omega), nI_sub (by omega)]
theorem s57x (x v : Int32) : ∃ r, zden (L + 1) 57 0 [some (.ref 26), some (.int x), some (.int v)] [] M = some (some (.int r), M) := by
  rw [e57_0]
  by_cases hv : v = 0
  · rw [if_pos hv, e57_19]; exact ⟨_, rfl⟩
  · rw [if_neg hv, e57_19]; exact ⟨_, rfl⟩
theorem s178 {i : Nat} (v : Int32) (hm : zTm M 49 t) (hi : i < t 0) : zden (L + 1) 178 0 [some (.ref 48), some (.int (nI i)), some (.int v)] [] M = some (some (.int (nI (wst t v i))), M) := by
  rw [e178_0]
  unfold wst
  by_cases hv : v = 0
  · rw [if_pos hv, if_pos hv, e178_18]
  · rw [if_neg hv, if_neg hv, e178_18, hm 0 (by omega), show (1 : Int32) = nI 1 from rfl, nI_sub (by omega), nI_sub (by omega)]
theorem s76 {n : Nat → Nat} {m : Nat} (hb : zTb t) (hc : zTc M 1 t) (hk : zRo M) (hr : wRw (M 41) n) (ho : wOk t n) (hm : m < 3) : ∃ M', zden (L + 1) 76 0 [some (.ref 26), some (.ref 41), some (.int (nI m)), none, none, none, none] [] M = some (some (.int (zb (wgC t n m))), M') ∧ (∀ i, i ≠ 41 → M' i = M i) ∧ (wgC t n m = true → wRw (M' 41) (wgo t n m)) := by
  have h0 : t 0 ≤ 12 := hb.1.2.1
  have h11 : t 11 ≤ 99 := by have := hb.2.1; omega
  have hl := wld hb
  obtain ⟨o0, o1, o2, o4, o5⟩ := id ho
  have hv : ∀ o4 o5 o6 : Option Value, ∃ M', zden (L + 1) 76 20 [some (.ref 26), some (.ref 41), some (.int (nI m)), some (.int (nI (n 0))), o4, o5, o6] [.int (wdn n)] M = some (some (.int (zb (wgC t n m))), M') ∧ (∀ i, i ≠ 41 → M' i = M i) ∧ (wgC t n m = true → wRw (M' 41) (wgo t n m)) := by
    intro q4 q5 q6
    rw [e76_26_41_20]
    by_cases hg : n 0 < t 0
    · have hs := wst_lt (v := wdn n) hg
      have hF : wgF t n m ≤ 10800 := wfo_le hb hs (by omega)
      have hB : wgB t n m ≤ 60 := wbu_le hb hs
      rw [s57 _ hc hg, zbI_some, s58 hc, zbI_some, s60 _ hb hc hk hs hm (by omega), zbI_some, show wfo t (wst t (wdn n) (n 0)) m (wdn n) (t 5 + t 7 + t 8) = wgF t n m from rfl, hc.1.1, if_pos (nI_lt hg (by omega)), s61 hb hc hs hm (by omega), zbI_some]
      cases hcn : wcn t (wst t (wdn n) (n 0)) m (wgF t n m) with
      | false =>
        rw [if_pos (show zb false = 0 from rfl), e76_26_41_82]
        have : wgC t n m = false := by simp [wgC, hcn]
        exact ⟨M, by rw [this]; rfl, fun i hi => rfl, fun q => by rw [this] at q; cases q⟩
      | true =>
        rw [if_neg (show ¬ zb true = 0 by decide), g41_2, zbI_some, hr 2 (by omega)]
        by_cases hf : n 2 < wgF t n m
        · rw [if_pos (nI_lt hf (by omega)), e76_26_41_82]
          have : wgC t n m = false := by simp [wgC, hf]
          exact ⟨M, by rw [this]; rfl, fun i hi => rfl, fun q => by rw [this] at q; cases q⟩
        · rw [if_neg (nI_nlt (by omega) (by omega)), p41_0, zbV_some, g41_2, zbI_some]
          have hw8 := wup_le (a := wgF t n m) (b := 8) (by omega)
          have ht : wgC t n m = true := by simp [wgC, hcn, hg]; omega
          rw [s67 (f := wgF t n m) (by omega), zbI_some, p41_2, zbV_some, g41_3, zbI_some, s68 (zRo_of hk (fun i hi => by rw [zput_ne (zn62 hi (by omega)), zput_ne (zn62 hi (by omega))])) hm, zbI_some, p41_3, zbV_some, s62 _ hb (zTc_41 (o := 41) hc (fun i hi => by rw [zput_ne hi, zput_ne hi, zput_ne hi]) (by omega)) hs hm, zbI_some]
          rw [show wbu t (wst t (wdn n) (n 0)) m (wdn n) = wgB t n m from rfl, s75 (n4 := n 4) (b := wgB t n m) hb (zTc_41 (o := 41) hc (fun i hi => by rw [zput_ne hi, zput_ne hi, zput_ne hi]) (by omega)) (by rw [zput_o _ _ (Or.inr (by decide)), zput_o _ _ (Or.inr (by decide)), zput_o _ _ (Or.inr (by decide)), hr 4 (by omega)]) (by omega) hB, zbV_some]
          refine ⟨_, by rw [ht]; rfl, fun i hi => ?_, fun _ j hj => ?_⟩
          · split
            · rw [zput_ne hi, zput_ne hi, zput_ne hi, zput_ne hi, zput_ne hi]
            · rw [zput_ne hi, zput_ne hi, zput_ne hi, zput_ne hi]
          · have hle : wup (wgF t n m) 8 ≤ n 2 := by omega
            rw [zput_o M _ (Or.inr (show (2 : Nat) ≠ 0 by decide)), hr 2 (by omega), nI_sub hle, zput_o _ _ (Or.inr (show (3 : Nat) ≠ 2 by decide)), zput_o M _ (Or.inr (show (3 : Nat) ≠ 0 by decide)), hr 3 (by omega), nI_add, nI_1]
            unfold wgo
            have hj' : j = 0 ∨ j = 1 ∨ j = 2 ∨ j = 3 ∨ j = 4 ∨ j = 5 := by omega
            have e1 := hr 1 (by omega)
            have e5 := hr 5 (by omega)
            by_cases hw : t 9 < wgB t n m ∨ 10 * t 10 < n 4 + wgB t n m
            · rw [if_pos hw]
              rcases hj' with rfl | rfl | rfl | rfl | rfl | rfl <;> simp [zput, e1, hw]
              rfl
            · rw [if_neg hw]
              rcases hj' with rfl | rfl | rfl | rfl | rfl | rfl <;> simp [zput, e1, e5, hw]
    · obtain ⟨r, hr57⟩ := s57x (L := L) (M := M) (nI (n 0)) (wdn n)
      obtain ⟨r', hr60⟩ := s60x (L := L) (M := M) r (wdn n) (m := m) (l := t 5 + t 7 + t 8)
      have : wgC t n m = false := by simp [wgC, hg]
      rw [hr57, zbI_some, s58 hc, zbI_some, hr60, zbI_some, hc.1.1, if_neg (nI_nlt (by omega) (by omega)), e76_26_41_82]
      exact ⟨M, by rw [this]; rfl, fun i hi => rfl, fun q => by rw [this] at q; cases q⟩
  rw [e76_26_41_0, g41_0, zbI_some, g41_1, zbI_some, hr 0 (by omega), hr 1 (by omega)]
  by_cases h1 : n 1 = 1
  · rw [if_pos (by rw [h1]; rfl)]
    have := hv none none none
    rw [show wdn n = 1 by simp [wdn, h1]] at this
    exact this
  · rw [if_neg (show ¬ nI (n 1) = 1 from fun q => h1 ((nI_eq (b := 1) (by omega) (by omega)).mp q))]
    have := hv none none none
    rw [show wdn n = 0 by simp [wdn, h1]] at this
    exact this
theorem s77 {n : Nat → Nat} {m : Nat} (hb : zTb t) (hc : zTc M 1 t) (hk : zRo M) (hr : wRw (M 41) n) (ho : wOk t n) (hm : m ≤ 3) : ∃ M', zden (L + 1) 77 0 [some (.ref 26), some (.ref 41), some (.int (nI m))] [] M = some (some (.int (zb (wmC t n m))), M') ∧ (∀ i, i ≠ 41 → M' i = M i) ∧ (wmC t n m = true → wRw (M' 41) (wmo t n m)) := by
  rw [e77_26_41_0]
  unfold wmC wmo
  by_cases h3 : m = 3
  · subst h3
    obtain ⟨M', h1, h2, h4⟩ := s74 (L := L) hb hc hr ho
    rw [if_pos (show nI 3 = 3 from rfl), h1, zbI_some, e77_26_41_19, if_pos (zfit_zb _), if_pos rfl]
    exact ⟨M', rfl, h2, fun q => h4 (by simpa using q)⟩
  · obtain ⟨M', h1, h2, h4⟩ := s76 (L := L) hb hc hk hr ho (m := m) (by omega)
    rw [if_neg (show ¬ nI m = 3 from fun q => h3 ((nI_eq (b := 3) (by omega) (by omega)).mp q)), h1, zbI_some, e77_26_41_19, if_pos (zfit_zb _), if_neg h3, if_neg h3]
    exact ⟨M', rfl, h2, h4⟩
end KM
