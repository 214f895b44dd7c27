section KG
variable {L : Nat} {ro M : zM} {t : Nat → Nat}
theorem s179_e (P : zM) {B x y : Nat} (o0 o1 o2 o3 o4 o5 o6 : Option Value) (hb : zTb t) (h9 : P 49 9 = nI (t 9)) (h10 : P 49 10 = nI (t 10)) (h4 : P 57 4 = nI x) (h5 : P 57 5 = nI y) (hB : B ≤ 60) (hx : x ≤ 1000) : (if P 49 9 < nI B then zden (L + 1) 179 144 [o0, o1, o2, o3, o4, o5, o6] [.int 5, .ref 57] P else if 10 * P 49 10 < P 57 4 then zden (L + 1) 179 144 [o0, o1, o2, o3, o4, o5, o6] [.int 5, .ref 57] P else zden (L + 1) 179 151 [o0, o1, o2, o3, o4, o5, o6] [.int (P 57 5), .int 5, .ref 57] P) = some (some (.int 1), zput P 57 5 (nI (if t 9 < B ∨ 10 * t 10 < x then 1 else y))) := by
  have g9 : t 9 ≤ 99 := by have := hb.2.1; omega
  have g10 : t 10 ≤ 99 := by have := hb.2.1; omega
  rw [h9, h10, h4, h5, show (10 : Int32) = nI 10 from rfl, nI_mul]
  by_cases ha : t 9 < B
  · rw [if_pos (nI_lt ha (by omega)), e179_48_57_144, e179_48_57_151, if_pos (by decide), if_pos (Or.inl ha)]; rfl
  · rw [if_neg (nI_nlt (by omega) (by omega))]
    by_cases hd : 10 * t 10 < x
    · rw [if_pos (nI_lt hd (by omega)), e179_48_57_144, e179_48_57_151, if_pos (by decide), if_pos (Or.inr hd)]; rfl
    · rw [if_neg (nI_nlt (by omega) (by omega)), e179_48_57_151, if_pos (by decide), if_neg (by omega)]; rfl
theorem s182 {n : Nat → Nat} (hb : zTb t) (hc : zTm M 49 t) (hr : wRw (M 57) n) (ho : wOk t n) : ∃ M', zden (L + 1) 182 0 [some (.ref 48), some (.ref 57)] [] M = some (some (.int (zb (decide (n 2 < t 11)))), M') ∧ (∀ i, i ≠ 57 → M' i = M i) ∧ (n 2 < t 11 → wRw (M' 57) (wrs t n)) := by
  have h11 : t 11 ≤ 99 := by have := hb.2.1; omega
  have hn2 := ho.2.2.1
  rw [e182_48_57_0, hr 2 (by omega), hc 11 (by omega)]
  by_cases h : n 2 < t 11
  · rw [if_neg (fun q => by have := (nI_eq (by omega) (by omega)).mp q; omega)]
    refine ⟨_, by rw [decide_eq_true h]; rfl, fun i hi => by rw [zput_ne hi, zput_ne hi], fun _ j hj => ?_⟩
    rw [zput_o M _ (Or.inr (show (3 : Nat) ≠ 2 by decide)), hr 3 (by omega), zput_ne (show (49 : Nat) ≠ 57 by decide), hc 12 (by omega), nI_add]
    unfold wrs
    by_cases h3 : j = 3
    · subst h3; rw [zput_at]; rfl
    · rw [zput_o _ _ (Or.inr h3)]
      by_cases h2 : j = 2
      · subst h2; rw [zput_at]; rfl
      · rw [zput_o _ _ (Or.inr h2), if_neg h2, if_neg h3, hr j hj]
  · rw [if_pos (by rw [show n 2 = t 11 by omega])]
    exact ⟨_, by rw [decide_eq_false h]; rfl, fun i hi => rfl, fun q => absurd q h⟩
theorem s179 {n : Nat → Nat} {m : Nat} (hb : zTb t) (hc : zTm M 49 t) (hr : wRw (M 57) n) (ho : wOk t n) (hm : m < 3) : ∃ M', zden (L + 1) 179 0 [some (.ref 48), some (.ref 57), some (.int (nI m)), none, none, none, none] [] M = some (some (.int (zb (wgC t n m))), M') ∧ (∀ i, i ≠ 57 → M' i = M i) ∧ (wgC t n m = true → wRw (M' 57) (wgo t n m)) := by
  have h0 : t 0 ≤ 12 := hb.1.2.1
  have h11 : t 11 ≤ 99 := by have := hb.2.1; omega
  have hl := wld hb
  obtain ⟨o0, o1, o2, o4, o5⟩ := id ho
  rw [e179_48_57_0, hr 0 (by omega), hc 0 (by omega)]
  by_cases hg : n 0 < t 0
  · rw [if_neg (fun q => by have := (nI_eq (by omega) (by omega)).mp q; omega)]
    have hv : ∀ o3 o4 o5 o6 : Option Value, ∃ M', zden (L + 1) 179 26 [some (.ref 48), some (.ref 57), some (.int (nI m)), o3, o4, o5, o6] [.int (wdn n)] M = some (some (.int (zb (wgC t n m))), M') ∧ (∀ i, i ≠ 57 → M' i = M i) ∧ (wgC t n m = true → wRw (M' 57) (wgo t n m)) := by
      intro q3 q4 q5 q6
      have hs := wst_lt (v := wdn n) hg
      have hF : wgF t n m ≤ 10800 := wfo_le hb hs (by omega)
      have hB : wgB t n m ≤ 60 := wbu_le hb hs
      have hneg := wfm_neg (m := m) (v := wdn n) (l := t 5 + t 7 + t 8) hb hs (by omega)
      rw [e179_48_57_26, hr 0 (by omega), s178 _ hc hg, zbI_some, s163 hc, zbI_some, s173 _ hb hc hs hm (by omega), zbI_some]
      cases hcn : wcn t (wst t (wdn n) (n 0)) m (wgF t n m) with
      | false =>
        rw [if_pos (hneg.mpr hcn), e179_48_57_64]
        have : wgC t n m = false := by simp [wgC, hcn]
        exact ⟨M, by rw [this]; rfl, fun i hi => rfl, fun q => by rw [this] at q; cases q⟩
      | true =>
        have hwf : wfm t (wst t (wdn n) (n 0)) m (wdn n) (t 5 + t 7 + t 8) = nI (wgF t n m) := by
          unfold wfm
          exact if_pos hcn
        rw [hwf, if_neg (nI_pos (by omega)), hr 2 (by omega)]
        by_cases hf : n 2 < wgF t n m
        · rw [if_pos (nI_lt hf (by omega)), e179_48_57_64]
          have : wgC t n m = false := by simp [wgC, hf]
          exact ⟨M, by rw [this]; rfl, fun i hi => rfl, fun q => by rw [this] at q; cases q⟩
        · have hw8 := wup_le (a := wgF t n m) (b := 8) (by omega)
          have ht : wgC t n m = true := by simp [wgC, hcn, hg]; omega
          have hle : wup (wgF t n m) 8 ≤ n 2 := by omega
          have e0 := hr 0 (by omega)
          have e1 := hr 1 (by omega)
          have e2 := hr 2 (by omega)
          have e3 := hr 3 (by omega)
          have e4 := hr 4 (by omega)
          have e5 := hr 5 (by omega)
          rw [if_neg (nI_nlt (by omega) (by omega)), s174 _ hb hc hs hm, zbI_some, show wbu t (wst t (wdn n) (n 0)) m (wdn n) = wgB t n m from rfl, show (8 : Int32) = nI 8 from rfl, s172 (by omega) (by omega), zbI_some, s175 hm, zbI_some]
          refine ⟨_, (s179_e _ (x := n 4 + wgB t n m) (y := n 5) _ _ _ _ _ _ _ hb ?_ ?_ ?_ ?_ hB (by omega)).trans (by rw [ht]; rfl), fun i hi => ?_, fun _ j hj => ?_⟩
          · simp [zput, hc 9]
          · simp [zput, hc 10]
          · simp [zput, e4, nI_add]
          · simp [zput, e5]
          · rw [zput_ne hi, zput_ne hi, zput_ne hi, zput_ne hi, zput_ne hi]
          · unfold wgo
            have hj' : j = 0 ∨ j = 1 ∨ j = 2 ∨ j = 3 ∨ j = 4 ∨ j = 5 := by omega
            rcases hj' with rfl | rfl | rfl | rfl | rfl | rfl
            · simp [zput, e0, nI_1]
            · simp [zput, e1]
            · simp [zput, e2, nI_sub hle]
            · simp [zput, e3, nI_add]
            · simp [zput, e4, nI_add]
            · rw [zput_at]; rfl
    rw [hr 1 (by omega)]
    by_cases h1 : n 1 = 1
    · rw [if_pos (show nI (n 1) = 1 by rw [h1]; rfl)]
      have := hv none none none none
      rw [show wdn n = 1 by simp [wdn, h1]] at this
      exact this
    · rw [if_neg (show ¬ nI (n 1) = 1 from fun q => h1 ((nI_eq (b := 1) (by omega) (by omega)).mp q))]
      have := hv none none none none
      rw [show wdn n = 0 by simp [wdn, h1]] at this
      exact this
  · rw [if_pos (by rw [show n 0 = t 0 by omega])]
    have : wgC t n m = false := by simp [wgC, hg]
    exact ⟨M, by rw [this]; rfl, fun i hi => rfl, fun q => by rw [this] at q; cases q⟩
end KG
