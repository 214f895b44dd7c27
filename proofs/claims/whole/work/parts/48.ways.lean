section KR
variable {L : Nat} {ro M : zM} {t : Nat → Nat}
theorem wTab_put {n x y : Nat} {v : Nat} {D : Nat → Nat → Nat} {a : Nat} (hn : n ≤ 7) (hT : wTab (M a) n D) (hx : x < n) (hy : y < n) : wTab (zput M a (7 * x + y) (nI v) a) n (fun p q => if p = x ∧ q = y then v else D p q) := by
  intro p q hp hq
  show zput M a (7 * x + y) (nI v) a (7 * p + q) = nI (if p = x ∧ q = y then v else D p q)
  by_cases h : p = x ∧ q = y
  · rw [if_pos h, h.1, h.2, zput_at]
  · rw [if_neg h, zput_o _ _ (Or.inr (by omega)), hT p q hp hq]
theorem wDq_s {D : Nat → Nat → Nat} {c a b : Nat} : (fun p q => if p = a ∧ q = b then min (D a c + D c b) (wDq D c a b a b) else wDq D c a b p q) = wDq D c a (b + 1) := by
  funext x y
  by_cases h1 : x = a ∧ y = b
  · rw [if_pos h1]
    obtain ⟨rfl, rfl⟩ := h1
    unfold wDq
    rw [if_neg (by omega), if_pos (by omega)]
    unfold wDs
    omega
  · rw [if_neg h1]
    unfold wDq
    by_cases h2 : x < a ∨ x = a ∧ y < b
    · rw [if_pos h2, if_pos (by omega)]
    · rw [if_neg h2, if_neg (by omega)]
theorem zTm_61 {M' : zM} (hc : zTm M 49 t) (h : ∀ i, i ≠ 61 → M' i = M i) : zTm M' 49 t := zTm_c hc (h 49 (by omega))
theorem n7 (x y : Nat) : (7 : Int32) * nI x + nI y = nI (7 * x + y) := by rw [show (7 : Int32) = nI 7 from rfl, nI_mul, nI_add]
theorem s212_f (hb : zTb t) : ∀ d b, d + b = t 2 → ∀ (c a : Nat) (D : Nat → Nat → Nat) (M : zM) (o : Option Value), c < t 2 → a < t 2 → wDok D → wTab (M 61) (t 2) (wDq D c a b) → ∃ M' o', zden (L + 1) 212 177 [some (.ref 48), some (.int (nI (t 2))), some (.int (nI c)), some (.int (nI a)), some (.int (nI b)), o] [] M = zden (L + 1) 212 169 [some (.ref 48), some (.int (nI (t 2))), some (.int (nI c)), some (.int (nI (a + 1))), some (.int (nI (t 2))), o'] [] M' ∧ (∀ i, i ≠ 61 → M' i = M i) ∧ wTab (M' 61) (t 2) (wDq D c (a + 1) 0) := by
  have h7 := wT2 hb
  intro d
  induction d with
  | zero =>
    intro b hd c a D M o hc ha hD hT
    have hbb : b = t 2 := by omega
    subst hbb
    refine ⟨M, o, ?_, fun i _ => rfl, wTab_c hT fun x y hx hy => ?_⟩
    · rw [e212_177, if_neg (nI_nlt (by omega) (by omega)), nI_1]
    · unfold wDq
      by_cases h2 : x < a ∨ x = a ∧ y < t 2
      · rw [if_pos h2, if_pos (by omega)]
      · rw [if_neg h2, if_neg (by omega)]
  | succ d ih =>
    intro b hd c a D M o hc ha hD hT
    have e1 := hD.2.2 a c
    have e2 := hD.2.2 c b
    have e3 := hD.2.2 a b
    have hbt : b < t 2 := by omega
    have e4 : wDq D c a b a b = D a b := by unfold wDq; rw [if_neg (by omega)]
    have h3 := wTab_put (v := min (D a c + D c b) (wDq D c a b a b)) h7 hT ha hbt
    rw [wDq_s] at h3
    obtain ⟨M2, o2, g1, g2, g3⟩ := ih (b + 1) (by omega) c a D (zput M 61 (7 * a + b) (nI (min (D a c + D c b) (wDq D c a b a b)))) (some (.int (nI (D a c + D c b)))) hc ha hD h3
    refine ⟨M2, o2, ?_, fun i hi => by rw [g2 i hi, zput_ne hi], g3⟩
    rw [e212_177, if_pos (nI_lt hbt (by omega)), n7, n7, n7, if_pos ((zinb_nI (by omega)).mpr (by omega)), if_pos ((zinb_nI (by omega)).mpr (by omega)), if_pos ((zinb_nI (by omega)).mpr (by omega)), nI_clamp (by omega), nI_clamp (by omega), nI_clamp (by omega), hT a c ha hc, hT c b hc hbt, hT a b ha hbt, wDq_c1 hD, wDq_c2 hD, nI_add]
    by_cases hlt : D a c + D c b < wDq D c a b a b
    · rw [if_pos (nI_lt hlt (by omega)), e212_254, if_pos ((zinb_nI (by omega)).mpr (by omega)), nI_clamp (by omega), nI_1]
      rw [Nat.min_eq_left (by omega)] at g1
      exact g1
    · rw [if_neg (nI_nlt (by omega) (by omega)), if_pos ((zinb_nI (by omega)).mpr (by omega)), e212_254, if_pos ((zinb_nI (by omega)).mpr (by omega)), nI_clamp (by omega), nI_1]
      rw [Nat.min_eq_right (by omega)] at g1
      exact g1
theorem s212_a (hb : zTb t) : ∀ d a, d + a = t 2 → ∀ (c : Nat) (D : Nat → Nat → Nat) (M : zM) (o o2 : Option Value), c < t 2 → wDok D → wTab (M 61) (t 2) (wDq D c a 0) → ∃ M' o' o2', zden (L + 1) 212 169 [some (.ref 48), some (.int (nI (t 2))), some (.int (nI c)), some (.int (nI a)), o, o2] [] M = zden (L + 1) 212 162 [some (.ref 48), some (.int (nI (t 2))), some (.int (nI (c + 1))), some (.int (nI (t 2))), o', o2'] [] M' ∧ (∀ i, i ≠ 61 → M' i = M i) ∧ wTab (M' 61) (t 2) (wDs D c) := by
  have h7 := wT2 hb
  intro d
  induction d with
  | zero =>
    intro a hd c D M o o2 hc hD hT
    have hbb : a = t 2 := by omega
    subst hbb
    refine ⟨M, o, o2, ?_, fun i _ => rfl, wTab_c hT fun x y hx hy => ?_⟩
    · rw [e212_169, if_neg (nI_nlt (by omega) (by omega)), nI_1]
    · unfold wDq
      rw [if_pos (by omega)]
  | succ d ih =>
    intro a hd c D M o o2 hc hD hT
    obtain ⟨M1, o3, h1, h2, h3⟩ := s212_f (L := L) hb (t 2) 0 (by omega) c a D M o2 hc (by omega) hD hT
    obtain ⟨M2, o4, o5, g1, g2, g3⟩ := ih (a + 1) (by omega) c D M1 (some (.int (nI (t 2)))) o3 hc hD h3
    refine ⟨M2, o4, o5, ?_, fun i hi => by rw [g2 i hi, h2 i hi], g3⟩
    rw [e212_169, if_pos (nI_lt (by omega) (by omega)), show (0 : Int32) = nI 0 from rfl, h1, g1]
theorem s212_c (hb : zTb t) : ∀ d c, d + c = t 2 → ∀ (M : zM) (o o2 o3 : Option Value), wTab (M 61) (t 2) (wDw t c) → ∃ M', zden (L + 1) 212 162 [some (.ref 48), some (.int (nI (t 2))), some (.int (nI c)), o, o2, o3] [] M = some (none, M') ∧ (∀ i, i ≠ 61 → M' i = M i) ∧ wTab (M' 61) (t 2) (wDw t (t 2)) := by
  have h7 := wT2 hb
  intro d
  induction d with
  | zero =>
    intro c hd M o o2 o3 hT
    have hbb : c = t 2 := by omega
    subst hbb
    refine ⟨M, ?_, fun i _ => rfl, hT⟩
    rw [e212_162, if_neg (nI_nlt (by omega) (by omega))]
  | succ d ih =>
    intro c hd M o o2 o3 hT
    obtain ⟨M1, o4, o5, h1, h2, h3⟩ := s212_a (L := L) hb (t 2) 0 (by omega) c (wDw t c) M o2 o3 (by omega) (wDw_ok hb c) (wTab_c hT fun x y hx hy => by unfold wDq; rw [if_neg (by omega)])
    obtain ⟨M2, g1, g2, g3⟩ := ih (c + 1) (by omega) M1 (some (.int (nI (t 2)))) o4 o5 h3
    refine ⟨M2, ?_, fun i hi => by rw [g2 i hi, h2 i hi], g3⟩
    rw [e212_162, if_pos (nI_lt (by omega) (by omega)), show (0 : Int32) = nI 0 from rfl, h1, g1]
theorem s212_e (hb : zTb t) : ∀ d e, d + e = t 3 → ∀ (M : zM) (o o2 o3 : Option Value), zTm M 49 t → wTab (M 61) (t 2) (wDl t e) → ∃ M', zden (L + 1) 212 42 [some (.ref 48), some (.int (nI (t 2))), some (.int (nI e)), o, o2, o3] [] M = some (none, M') ∧ (∀ i, i ≠ 61 → M' i = M i) ∧ wTab (M' 61) (t 2) (wDw t (t 2)) := by
  have h7 := wT2 hb
  have h10 : t 3 ≤ 10 := hb.1.2.2.2.2
  intro d
  induction d with
  | zero =>
    intro e hd M o o2 o3 hm hT
    have hbb : e = t 3 := by omega
    subst hbb
    obtain ⟨M1, h1, h2, h3⟩ := s212_c (L := L) hb (t 2) 0 (by omega) M o o2 o3 hT
    refine ⟨M1, ?_, h2, h3⟩
    rw [e212_42, hm 3 (by omega), if_neg (nI_nlt (by omega) (by omega)), show (0 : Int32) = nI 0 from rfl, h1]
  | succ d ih =>
    intro e hd M o o2 o3 hm hT
    obtain ⟨q1, q2, q3, q4, q5⟩ := hb.2.2.2.2.2.2 e (by omega)
    have hD := wDl_ok hb e (by omega)
    have hdd := hD.2.2 (t (86 + e)) (t (96 + e))
    have h3 := wTab_put (v := min (t (106 + e)) (wDl t e (t (86 + e)) (t (96 + e)))) h7 hT q1 q2
    have h4 := wTab_put (v := min (t (106 + e)) (wDl t e (t (86 + e)) (t (96 + e)))) h7 h3 q2 q1
    obtain ⟨M2, g1, g2, g3⟩ := ih (e + 1) (by omega) (zput (zput M 61 (7 * t (86 + e) + t (96 + e)) (nI (min (t (106 + e)) (wDl t e (t (86 + e)) (t (96 + e)))))) 61 (7 * t (96 + e) + t (86 + e)) (nI (min (t (106 + e)) (wDl t e (t (86 + e)) (t (96 + e)))))) (some (.int (nI (7 * t (86 + e) + t (96 + e))))) (some (.int (nI (7 * t (96 + e) + t (86 + e))))) o3 (zTm_61 hm fun i hi => by rw [zput_ne hi, zput_ne hi]) (wTab_c h4 fun x y hx hy => by
      show _ = wDn (wDl t e) (t (86 + e)) (t (96 + e)) (t (106 + e)) x y
      unfold wDn
      by_cases ha : x = t (96 + e) ∧ y = t (86 + e)
      · rw [if_pos ha, if_pos (Or.inr ha)]
      · rw [if_neg ha]
        by_cases hc : x = t (86 + e) ∧ y = t (96 + e)
        · rw [if_pos hc, if_pos (Or.inl hc)]
        · rw [if_neg hc, if_neg (by omega)])
    refine ⟨M2, ?_, fun i hi => by rw [g2 i hi, zput_ne hi, zput_ne hi], g3⟩
    have key : zden (L + 1) 212 140 [some (.ref 48), some (.int (nI (t 2))), some (.int (nI e)), some (.int (nI (7 * t (86 + e) + t (96 + e)))), some (.int (nI (7 * t (96 + e) + t (86 + e)))), o3] [.int (nI (min (t (106 + e)) (wDl t e (t (86 + e)) (t (96 + e))))), .int (nI (7 * t (86 + e) + t (96 + e))), .ref 61] M = some (none, M2) := by
      rw [e212_140, if_pos ((zinb_nI (by omega)).mpr (by omega)), if_pos ((zinb_nI (by omega)).mpr (by omega)), if_pos ((zinb_nI (by omega)).mpr (by omega)), nI_clamp (by omega), nI_clamp (by omega), zput_at, nI_1]
      exact g1
    rw [e212_42, hm 3 (by omega), if_pos (nI_lt (by omega) (by omega)), show (86 : Int32) + nI e = nI (86 + e) from nI_add 86 e, show (96 : Int32) + nI e = nI (96 + e) from nI_add 96 e, show (106 : Int32) + nI e = nI (106 + e) from nI_add 106 e, if_pos ((zinb_nI (by omega)).mpr (by omega)), if_pos ((zinb_nI (by omega)).mpr (by omega)), if_pos ((zinb_nI (by omega)).mpr (by omega)), if_pos ((zinb_nI (by omega)).mpr (by omega)), if_pos ((zinb_nI (by omega)).mpr (by omega)), nI_clamp (by omega), nI_clamp (by omega), nI_clamp (by omega), hm (86 + e) (by omega), hm (96 + e) (by omega), hm (106 + e) (by omega), n7, n7, if_pos ((zinb_nI (by omega)).mpr (by omega)), nI_clamp (by omega), hT _ _ q1 q2]
    by_cases hlt : t (106 + e) < wDl t e (t (86 + e)) (t (96 + e))
    · rw [if_pos (nI_lt hlt (by omega)), if_pos ((zinb_nI (by omega)).mpr (by omega))]
      rw [Nat.min_eq_left (by omega)] at key
      exact key
    · rw [if_neg (nI_nlt (by omega) (by omega)), if_pos ((zinb_nI (by omega)).mpr (by omega))]
      rw [Nat.min_eq_right (by omega)] at key
      exact key
theorem s212_k (hb : zTb t) (hm : zTm M 49 t) : ∀ d k, d + k = 49 → ∀ (o o2 o3 : Option Value), ∃ M', zden (L + 1) 212 9 [some (.ref 48), some (.int (nI (t 2))), some (.int (nI k)), o, o2, o3] [] (zln M 61 0 k (fun j => if j % 8 = 0 then 0 else 1000000)) = some (none, M') ∧ (∀ i, i ≠ 61 → M' i = M i) ∧ wTab (M' 61) (t 2) (wDw t (t 2)) := by
  have h7 := wT2 hb
  intro d
  induction d with
  | zero =>
    intro k hd o o2 o3
    have hbb : k = 49 := by omega
    subst hbb
    obtain ⟨M1, h1, h2, h3⟩ := s212_e (L := L) hb (t 3) 0 (by omega) (zln M 61 0 49 (fun j => if j % 8 = 0 then 0 else 1000000)) o o2 o3 (zTm_61 hm fun i hi => zln_row M hi) (fun x y hx hy => by
      rw [zln_in _ (by omega) (by omega)]
      show (if (7 * x + y - 0) % 8 = 0 then (0 : Int32) else 1000000) = nI (wD0 x y)
      unfold wD0
      by_cases h : x = y
      · rw [if_pos (by omega), if_pos h]; rfl
      · rw [if_neg (by omega), if_neg h]; rfl)
    refine ⟨M1, ?_, fun i hi => by rw [h2 i hi, zln_row M hi], h3⟩
    rw [e212_9, if_neg (by decide), show (0 : Int32) = nI 0 from rfl]
    exact h1
  | succ d ih =>
    intro k hd o o2 o3
    have hs := zln_s M 61 0 k (fun j => if j % 8 = 0 then (0 : Int32) else 1000000)
    rw [Nat.zero_add] at hs
    have hr : nI k - nI k / 8 * 8 = nI (k % 8) := by
      rw [show (8 : Int32) = nI 8 from rfl, nI_div (by omega) (by omega) (by omega), nI_mul, nI_sub (by omega)]
      congr 1; omega
    obtain ⟨M2, g1, g2, g3⟩ := ih (k + 1) (by omega) o o2 o3
    refine ⟨M2, ?_, g2, g3⟩
    rw [e212_9, if_pos (zlt_49 (by omega)), hr]
    by_cases h0 : k % 8 = 0
    · rw [h0, if_pos (show nI 0 = 0 from rfl), e212_33, if_pos ((zinb_nI (by omega)).mpr (by omega)), nI_clamp (by omega), nI_1]
      rw [if_pos h0] at hs
      rw [hs]
      exact g1
    · rw [if_neg (nI_ne0 (by omega) (by omega)), e212_33, if_pos ((zinb_nI (by omega)).mpr (by omega)), nI_clamp (by omega), nI_1]
      rw [if_neg h0] at hs
      rw [hs]
      exact g1
theorem s212 (hb : zTb t) (hm : zTm M 49 t) : ∃ M', zden (L + 1) 212 0 [some (.ref 48), none, none, none, none, none] [] M = some (none, M') ∧ (∀ i, i ≠ 61 → M' i = M i) ∧ wTab (M' 61) (t 2) (wDw t (t 2)) := by
  obtain ⟨M1, h1, h2, h3⟩ := s212_k (L := L) hb hm 49 0 (by omega) none none none
  rw [zln_0] at h1
  refine ⟨M1, ?_, h2, h3⟩
  rw [e212_0, hm 2 (by omega)]
  exact h1
end KR
