section KZ
variable {L : Nat} {ro M : zM} {t : Nat → Nat}
theorem qF_le {v : Int32} {i m : Nat} (hb : zTb t) (hi : i < t 0) : qF t v i m ≤ 1000000 := wff_le hb (wst_lt hi)
theorem s194_k {i m : Nat} {v : Int32} {G T : Nat → Nat → Nat} (hb : zTb t) (hm : zTm M 49 t) (hi : i < t 0) (hm3 : m < 3) (hq : qQ t v i m = true) (hG : ∀ k b, G k b ≤ 1000000) (hT : ∀ k b, T k b ≤ 1000000) (h59 : wH (M 59) (wRR t i G)) (o1 o3 : Option Value) : ∀ d k, t 11 + 1 ≤ d + k → qF t v i m ≤ k → k ≤ 1000000 → ∀ (P : zM) (o8 o9 o10 : Option Value), (∀ x, x ≠ 60 → P x = M x) → wH (P 60) (wPm t v i m G T (721 * k)) → ∃ P', zden (L + 1) 194 59 [some (.ref 48), o1, some (.int (nI m)), o3, some (.int (nI (qF t v i m))), some (.int (nI (qB t v i m))), some (.int (nI (10 * t 10) - nI (qB t v i m))), some (.int (nI k)), o8, o9, o10] [] P = some (none, P') ∧ (∀ x, x ≠ 60 → P' x = M x) ∧ wH (P' 60) (fun p q => min (T p q) (wcM t v i G m p q)) := by
  have hst := wSt hb
  have hF8 : qF t v i m < 1000000 := by
    unfold qQ at hq
    rw [Bool.and_eq_true, decide_eq_true_eq] at hq
    exact hq.1
  have stop : ∀ (k : Nat) (P : zM) (o8 o9 o10 : Option Value), k ≤ 1000000 → t 11 < k → (∀ x, x ≠ 60 → P x = M x) → wH (P 60) (wPm t v i m G T (721 * k)) → ∃ P', zden (L + 1) 194 59 [some (.ref 48), o1, some (.int (nI m)), o3, some (.int (nI (qF t v i m))), some (.int (nI (qB t v i m))), some (.int (nI (10 * t 10) - nI (qB t v i m))), some (.int (nI k)), o8, o9, o10] [] P = some (none, P') ∧ (∀ x, x ≠ 60 → P' x = M x) ∧ wH (P' 60) (fun p q => min (T p q) (wcM t v i G m p q)) := by
    intro k P o8 o9 o10 hk6 hk hP hH
    refine ⟨P, ?_, hP, wH_c hH fun p q hp hq2 => ?_⟩
    · rw [e194_59, hP 49 (by omega), hm 11 (by omega), if_pos (nI_lt hk (by omega))]
    · unfold wPm
      by_cases c1 : 721 * (p + qU t v i m) + (q - qB t v i m) < 721 * k
      · rw [if_pos c1]
      · rw [if_neg c1]
        have e : wcM t v i G m p q = 1000000 := by
          unfold wcM
          rw [if_neg]
          rintro ⟨_, h2, h3, _, _⟩
          omega
        have := hT p q
        rw [e]; omega
  intro d
  induction d with
  | zero =>
    intro k hd hf hk6 P o8 o9 o10 hP hH
    exact stop k P o8 o9 o10 hk6 (by omega) hP hH
  | succ d ih =>
    intro k hd hf hk6 P o8 o9 o10 hP hH
    by_cases hk : t 11 < k
    · exact stop k P o8 o9 o10 hk6 hk hP hH
    · obtain ⟨P1, x8, x9, x10, g1, g2, g3⟩ := s194_b (L := L) (o1 := o1) (o3 := o3) hb hm hi hm3 hq hf (by omega) hG hT h59 721 0 (by omega) P o9 o10 hP hH
      obtain ⟨P', r1, r2, r3⟩ := ih (k + 1) (by omega) (by omega) (by omega) P1 x8 x9 x10 g2 g3
      refine ⟨P', ?_, r2, r3⟩
      rw [e194_59, hP 49 (by omega), hm 11 (by omega), if_neg (nI_nlt (by omega) (by omega)), show (0 : Int32) = nI 0 from rfl, g1, r1]
theorem s194 {i m : Nat} {v : Int32} {G T : Nat → Nat → Nat} (hb : zTb t) (hm : zTm M 49 t) (hi : i < t 0) (hm3 : m < 3) (hG : ∀ k b, G k b ≤ 1000000) (hT : ∀ k b, T k b ≤ 1000000) (h59 : wH (M 59) (wRR t i G)) (h60 : wH (M 60) T) : ∃ P', zden (L + 1) 194 0 [some (.ref 48), some (.int (nI (wst t v i))), some (.int (nI m)), some (.int v), none, none, none, none, none, none, none] [] M = some (none, P') ∧ (∀ x, x ≠ 60 → P' x = M x) ∧ wH (P' 60) (fun p q => min (T p q) (wcM t v i G m p q)) := by
  have hst := wSt hb
  have hs := wst_lt (v := v) hi
  have hl : wl0 t ≤ 180 := by have := wld hb; unfold wl0; omega
  have hB60 : qB t v i m ≤ 60 := wbu_le hb hs
  have h9 : t 9 ≤ 99 ∧ t 10 ≤ 99 := by have := hb.2.1; omega
  have hf := wfo_le (m := m) (v := v) hb hs hl
  have h173 := s173 (L := L) (M := M) (l := wl0 t) v hb hm hs hm3 hl
  have noq : qQ t v i m = false → wH (M 60) (fun p q => min (T p q) (wcM t v i G m p q)) := by
    intro hq
    refine wH_c h60 fun p q hp hq2 => ?_
    have e : wcM t v i G m p q = 1000000 := by
      unfold wcM
      rw [if_neg]
      rintro ⟨h1, _⟩
      rw [hq] at h1
      cases h1
    have := hT p q
    rw [e]; omega
  have e0 : zden (L + 1) 194 0 [some (.ref 48), some (.int (nI (wst t v i))), some (.int (nI m)), some (.int v), none, none, none, none, none, none, none] [] M = (if wfm t (wst t v i) m v (wl0 t) < 0 then some (none, M) else if nI (t 9) < nI (qB t v i m) then some (none, M) else zden (L + 1) 194 59 [some (.ref 48), some (.int (nI (wst t v i))), some (.int (nI m)), some (.int v), some (.int (wfm t (wst t v i) m v (wl0 t))), some (.int (nI (qB t v i m))), some (.int (nI (10 * t 10) - nI (qB t v i m))), some (.int (wfm t (wst t v i) m v (wl0 t))), none, none, none] [] M) := by
    rw [e194_0, s163 hm, zbI_some]
    rw [show zden (L + 1) 173 0 [some (.ref 48), some (.int (nI (wst t v i))), some (.int (nI m)), some (.int v), some (.int (nI (t 5 + t 7 + t 8))), none, none, none] [] M = _ from h173, zbI_some, s174 v hb hm hs hm3, zbI_some, hm 9 (by omega), hm 10 (by omega), e194_39, show (10 : Int32) = nI 10 from rfl, nI_mul]
    rfl
  rw [e0]
  by_cases hc : wcn t (wst t v i) m (wfo t (wst t v i) m v (wl0 t)) = true
  · have e1 : wfm t (wst t v i) m v (wl0 t) = nI (qF t v i m) := by unfold wfm qF wff; rw [if_pos hc, if_pos hc]
    have e2 : qF t v i m = wfo t (wst t v i) m v (wl0 t) := by unfold qF wff; rw [if_pos hc]
    rw [e1, if_neg (nI_pos (by omega))]
    by_cases h1 : t 9 < qB t v i m
    · rw [if_pos (nI_lt h1 (by omega))]
      exact ⟨M, rfl, fun x _ => rfl, noq (by unfold qQ; rw [Bool.and_eq_false_iff]; exact Or.inr (decide_eq_false (by omega)))⟩
    · rw [if_neg (nI_nlt (by omega) (by omega))]
      have hq : qQ t v i m = true := by
        unfold qQ
        rw [Bool.and_eq_true, decide_eq_true_eq, decide_eq_true_eq]
        omega
      refine s194_k hb hm hi hm3 hq hG hT h59 _ _ (t 11 + 1) (qF t v i m) (by omega) (Nat.le_refl _) (qF_le hb hi) M none none none (fun x _ => rfl) ?_
      refine wH_c h60 fun p q hp hq2 => ?_
      unfold wPm
      by_cases c1 : 721 * (p + qU t v i m) + (q - qB t v i m) < 721 * qF t v i m
      · rw [if_pos c1]
        have e : wcM t v i G m p q = 1000000 := by
          unfold wcM
          rw [if_neg]
          rintro ⟨_, h2, h3, h4, _⟩
          omega
        have := hT p q
        rw [e]; omega
      · rw [if_neg c1]
  · have e1 : wfm t (wst t v i) m v (wl0 t) = -1 := by unfold wfm; rw [if_neg hc]
    rw [e1, if_pos (by decide)]
    refine ⟨M, rfl, fun x _ => rfl, noq ?_⟩
    unfold qQ qF wff
    rw [if_neg hc]
    rfl
/-- the rest under way -/
def wRp (t : Nat → Nat) (G : Nat → Nat → Nat) (p k b : Nat) : Nat := if k = t 11 then min (G (t 11) b) (wmn (fun j => G j b) ((p + 720 - b) / 721) + t 12) else G k b
theorem s195_r {i : Nat} {v : Int32} {G : Nat → Nat → Nat} (hb : zTb t) (hm : zTm M 49 t) (hi0 : 0 < i) (hi : i < t 0) (hG : ∀ k b, G k b ≤ 1000000) : ∀ d p, d + p = 721 * t 11 → ∀ (P : zM) (o5 o6 : Option Value), (∀ x, x ≠ 59 → P x = M x) → wH (P 59) (wRp t G p) → ∃ P' x5 x6, zden (L + 1) 195 56 [some (.ref 48), some (.int v), some (.int (nI (t 11))), some (.int (nI i)), some (.int (nI p)), o5, o6] [] P = zden (L + 1) 195 141 [some (.ref 48), some (.int v), some (.int (nI (t 11))), some (.int (nI i)), some (.int 0), x5, x6] [] P' ∧ (∀ x, x ≠ 59 → P' x = M x) ∧ wH (P' 59) (wRR t i G) := by
  have hst := wSt hb
  have h12 : t 0 ≤ 12 := hb.1.2.1
  have h99 : t 12 ≤ 99 := by have := hb.2.1; omega
  intro d
  induction d with
  | zero =>
    intro p hd P o5 o6 hP hH
    have e : p = 721 * t 11 := by omega
    subst e
    refine ⟨P, o5, o6, ?_, hP, wH_c hH fun k b hk hb2 => ?_⟩
    · rw [e195_56, show (721 : Int32) = nI 721 from rfl, nI_mul, if_neg (nI_nlt (by omega) (by omega)), e195_138]
    · unfold wRp wRR
      rw [show (721 * t 11 + 720 - b) / 721 = t 11 by omega]
      by_cases c : k = t 11
      · rw [if_pos c, if_pos ⟨hi0, c⟩]
      · rw [if_neg c, if_neg (fun q => c q.2)]
  | succ d ih =>
    intro p hd P o5 o6 hP hH
    obtain ⟨k0, b0, hb0, rfl⟩ : ∃ k0 b0, b0 < 721 ∧ p = 721 * k0 + b0 := ⟨p / 721, p % 721, Nat.mod_lt _ (by omega), by omega⟩
    have hk0 : k0 < t 11 := by omega
    have hmP : zTm P 49 t := zTm_c hm (hP 49 (by omega))
    have hr : nI (721 * k0 + b0) - nI (721 * k0 + b0) / nI 721 * nI 721 = nI b0 := by
      rw [nI_div (by omega) (by omega) (by omega), nI_mul, nI_sub (by omega)]
      congr 1; omega
    have hg1 := hG k0 b0
    have hold : wRp t G (721 * k0 + b0) (t 11) b0 = min (G (t 11) b0) (wmn (fun j => G j b0) k0 + t 12) := by
      unfold wRp
      rw [if_pos rfl, show (721 * k0 + b0 + 720 - b0) / 721 = k0 by omega]
    have hsrc : wRp t G (721 * k0 + b0) k0 b0 = G k0 b0 := by unfold wRp; rw [if_neg (by omega)]
    have hgt := hG (t 11) b0
    have hnew := wH_put (x := min (G k0 b0 + t 12) (wRp t G (721 * k0 + b0) (t 11) b0)) (show t 11 < 100 by omega) hb0 hH
    have hnew2 : wH (zput P 59 (721 * t 11 + b0) (nI (min (G k0 b0 + t 12) (wRp t G (721 * k0 + b0) (t 11) b0))) 59) (wRp t G (721 * k0 + b0 + 1)) := by
      refine wH_c hnew fun k b hk hb2 => ?_
      by_cases e : k = t 11 ∧ b = b0
      · rw [if_pos e, e.1, e.2, hold]
        unfold wRp
        rw [if_pos rfl, show (721 * k0 + b0 + 1 + 720 - b0) / 721 = k0 + 1 by omega]
        show _ = min (G (t 11) b0) (min (wmn (fun j => G j b0) k0) (G k0 b0) + t 12)
        omega
      · rw [if_neg e]
        unfold wRp
        by_cases c : k = t 11
        · rw [if_pos c, if_pos c, show (721 * k0 + b0 + 1 + 720 - b) / 721 = (721 * k0 + b0 + 720 - b) / 721 by omega]
        · rw [if_neg c, if_neg c]
    obtain ⟨P', x5, x6, g1, g2, g3⟩ := ih (721 * k0 + b0 + 1) (by omega) (zput P 59 (721 * t 11 + b0) (nI (min (G k0 b0 + t 12) (wRp t G (721 * k0 + b0) (t 11) b0)))) (some (.int (nI (G k0 b0 + t 12)))) (some (.int (nI (721 * t 11 + b0)))) (fun x hx => by rw [zput_ne hx, hP x hx]) hnew2
    refine ⟨P', x5, x6, ?_, g2, g3⟩
    have hle : wRp t G (721 * k0 + b0) (t 11) b0 ≤ 1000000 := by rw [hold]; omega
    rw [← g1, e195_56, show (721 : Int32) = nI 721 from rfl, nI_mul, if_pos (nI_lt (by omega) (by omega)), if_pos (show (0 : Int32) < nI i from nI_lt (a := 0) hi0 (by omega)), if_pos ((zinb_nI (by omega)).mpr (by omega)), hr, nI_add, if_pos ((zinb_nI (by omega)).mpr (by omega)), nI_clamp (by omega), nI_clamp (by omega), hH k0 b0 (by omega) hb0, hH (t 11) b0 (by omega) hb0, hsrc, hmP 12 (by omega), nI_add]
    by_cases c5 : G k0 b0 + t 12 < wRp t G (721 * k0 + b0) (t 11) b0
    · rw [if_pos (nI_lt c5 (by omega)), e195_131, if_pos ((zinb_nI (by omega)).mpr (by omega)), nI_clamp (by omega), nI_1, Nat.min_eq_left (by omega)]
    · rw [if_neg (nI_nlt (by omega) (by omega)), if_pos ((zinb_nI (by omega)).mpr (by omega)), e195_131, if_pos ((zinb_nI (by omega)).mpr (by omega)), nI_clamp (by omega), nI_1, Nat.min_eq_right (by omega)]
end KZ
