/-- the ways between stations -/
def wD0 : Nat → Nat → Nat := fun x y => if x = y then 0 else 1000000
def wDn (D : Nat → Nat → Nat) (a b v : Nat) : Nat → Nat → Nat := fun x y => if (x = a ∧ y = b) ∨ (x = b ∧ y = a) then min v (D a b) else D x y
def wDl (t : Nat → Nat) : Nat → Nat → Nat → Nat
  | 0 => wD0
  | e + 1 => wDn (wDl t e) (t (86 + e)) (t (96 + e)) (t (106 + e))
def wDs (D : Nat → Nat → Nat) (c : Nat) : Nat → Nat → Nat := fun x y => min (D x y) (D x c + D c y)
def wDw (t : Nat → Nat) : Nat → Nat → Nat → Nat
  | 0 => wDl t (t 3)
  | c + 1 => wDs (wDw t c) c
def wDok (D : Nat → Nat → Nat) : Prop := (∀ x, D x x = 0) ∧ (∀ x y, D x y = D y x) ∧ ∀ x y, D x y ≤ 1000000
def wTab (f : Nat → Int32) (n : Nat) (D : Nat → Nat → Nat) : Prop := ∀ x y, x < n → y < n → f (7 * x + y) = nI (D x y)
theorem wTab_c {f : Nat → Int32} {n : Nat} {D E : Nat → Nat → Nat} (h : wTab f n D) (he : ∀ x y, x < n → y < n → D x y = E x y) : wTab f n E := fun x y hx hy => by rw [h x y hx hy, he x y hx hy]
theorem wD0_ok : wDok wD0 := by
  refine ⟨fun x => by simp [wD0], fun x y => ?_, fun x y => ?_⟩
  · unfold wD0
    by_cases h : x = y
    · rw [if_pos h, if_pos h.symm]
    · rw [if_neg h, if_neg (fun q => h q.symm)]
  · unfold wD0; split <;> omega
theorem wDn_sym {D : Nat → Nat → Nat} {a b v : Nat} (h : ∀ x y, D x y = D y x) : ∀ x y, wDn D a b v x y = wDn D a b v y x := by
  intro x y
  unfold wDn
  by_cases h1 : (x = a ∧ y = b) ∨ (x = b ∧ y = a)
  · rw [if_pos h1, if_pos (by omega)]
  · rw [if_neg h1, if_neg (by omega), h x y]
theorem wDn_ok {D : Nat → Nat → Nat} {a b v : Nat} (h : wDok D) (hab : a ≠ b) : wDok (wDn D a b v) := by
  refine ⟨fun x => ?_, wDn_sym h.2.1, fun x y => ?_⟩
  · unfold wDn; rw [if_neg (by omega)]; exact h.1 x
  · have h1 := h.2.2 a b
    have h2 := h.2.2 x y
    unfold wDn; split <;> omega
theorem wDs_ok {D : Nat → Nat → Nat} {c : Nat} (h : wDok D) : wDok (wDs D c) := by
  refine ⟨fun x => ?_, fun x y => ?_, fun x y => ?_⟩
  · unfold wDs; rw [h.1 x]; omega
  · unfold wDs; rw [h.2.1 x y, h.2.1 x c, h.2.1 c y]; omega
  · have := h.2.2 x y
    unfold wDs; omega
theorem wDl_ok {t : Nat → Nat} (hb : zTb t) : ∀ e, e ≤ t 3 → wDok (wDl t e)
  | 0, _ => wD0_ok
  | e + 1, h => wDn_ok (wDl_ok hb e (by omega)) (hb.2.2.2.2.2.2 e (by omega)).2.2.1
theorem wDw_ok {t : Nat → Nat} (hb : zTb t) : ∀ c, wDok (wDw t c)
  | 0 => wDl_ok hb _ (Nat.le_refl _)
  | c + 1 => wDs_ok (wDw_ok hb c)
/-- a round under way, row a up to b, both ways -/
def wDp (D : Nat → Nat → Nat) (c a b : Nat) : Nat → Nat → Nat := fun x y => if (x < a ∨ x = a ∧ y < b) ∨ (y < a ∨ y = a ∧ x < b) then wDs D c x y else D x y
def wDq (D : Nat → Nat → Nat) (c a b : Nat) : Nat → Nat → Nat := fun x y => if x < a ∨ x = a ∧ y < b then wDs D c x y else D x y
theorem wDs_c1 {D : Nat → Nat → Nat} {c : Nat} (h : wDok D) (x : Nat) : wDs D c x c = D x c := by
  have := h.1 c
  unfold wDs; omega
theorem wDs_c2 {D : Nat → Nat → Nat} {c : Nat} (h : wDok D) (x : Nat) : wDs D c c x = D c x := by
  have := h.1 c
  unfold wDs; omega
theorem wDp_c1 {D : Nat → Nat → Nat} {c a b : Nat} (h : wDok D) (x : Nat) : wDp D c a b x c = D x c := by
  unfold wDp; split
  · exact wDs_c1 h x
  · rfl
theorem wDp_c2 {D : Nat → Nat → Nat} {c a b : Nat} (h : wDok D) (x : Nat) : wDp D c a b c x = D c x := by
  unfold wDp; split
  · exact wDs_c2 h x
  · rfl
theorem wDq_c1 {D : Nat → Nat → Nat} {c a b : Nat} (h : wDok D) (x : Nat) : wDq D c a b x c = D x c := by
  unfold wDq; split
  · exact wDs_c1 h x
  · rfl
theorem wDq_c2 {D : Nat → Nat → Nat} {c a b : Nat} (h : wDok D) (x : Nat) : wDq D c a b c x = D c x := by
  unfold wDq; split
  · exact wDs_c2 h x
  · rfl
theorem wDp_sym {D : Nat → Nat → Nat} {c a b : Nat} (h : wDok D) : ∀ x y, wDp D c a b x y = wDp D c a b y x := by
  intro x y
  unfold wDp
  by_cases h1 : (x < a ∨ x = a ∧ y < b) ∨ (y < a ∨ y = a ∧ x < b)
  · rw [if_pos h1, if_pos (by omega)]; exact (wDs_ok h).2.1 x y
  · rw [if_neg h1, if_neg (by omega)]; exact h.2.1 x y
theorem wDp_s {D : Nat → Nat → Nat} {c a b : Nat} (h : wDok D) : wDn (wDp D c a b) a b (D a c + D c b) = wDp D c a (b + 1) := by
  have hm : min (D a c + D c b) (wDp D c a b a b) = wDs D c a b := by
    unfold wDp wDs; split <;> omega
  funext x y
  by_cases h1 : (x = a ∧ y = b) ∨ (x = b ∧ y = a)
  · have e1 : wDn (wDp D c a b) a b (D a c + D c b) x y = wDs D c a b := by unfold wDn; rw [if_pos h1, hm]
    have e2 : wDp D c a (b + 1) x y = wDs D c x y := by unfold wDp; rw [if_pos (by omega)]
    rw [e1, e2]
    rcases h1 with ⟨rfl, rfl⟩ | ⟨rfl, rfl⟩
    · rfl
    · exact (wDs_ok h).2.1 _ _
  · have e1 : wDn (wDp D c a b) a b (D a c + D c b) x y = wDp D c a b x y := by unfold wDn; rw [if_neg h1]
    rw [e1]
    unfold wDp
    by_cases h2 : (x < a ∨ x = a ∧ y < b) ∨ (y < a ∨ y = a ∧ x < b)
    · rw [if_pos h2, if_pos (by omega)]
    · rw [if_neg h2, if_neg (by omega)]
section KR
variable {L : Nat} {ro M : zM} {t : Nat → Nat}
theorem wT2 (hb : zTb t) : t 2 ≤ 7 := hb.1.2.2.2.1
theorem s20 {n x y : Nat} {D : Nat → Nat → Nat} (hn : n ≤ 7) (hT : wTab (M 39) n D) (hx : x < n) (hy : y < n) : zden (L + 1) 20 0 [some (.ref 38), some (.int (nI x)), some (.int (nI y))] [] M = some (some (.int (nI (D x y))), M) := by
  rw [e20_0, show (7 : Int32) = nI 7 from rfl, nI_mul, nI_add, Nat.mul_comm x 7, s4_39, zbI_some, zrd_nI (by omega), if_pos (by omega), hT x y hx hy]
theorem s21 {n x y v : Nat} {D : Nat → Nat → Nat} (hn : n ≤ 7) (hT : wTab (M 39) n D) (hs : ∀ x y, D x y = D y x) (hd : ∀ x y, D x y ≤ 1000000) (hx : x < n) (hy : y < n) (hv : v ≤ 2000000) : ∃ M', zden (L + 1) 21 0 [some (.ref 38), some (.int (nI x)), some (.int (nI y)), some (.int (nI v))] [] M = some (none, M') ∧ (∀ i, i ≠ 39 → M' i = M i) ∧ wTab (M' 39) n (wDn D x y v) := by
  have hdx := hd x y
  by_cases h : v < D x y
  · refine ⟨zput (zput M 39 (7 * x + y) (nI v)) 39 (7 * y + x) (nI v), ?_, fun i hi => by rw [zput_ne hi, zput_ne hi], fun a b ha hb => ?_⟩
    · rw [e21_0, s20 hn hT hx hy, zbI_some, if_pos (nI_lt h (by omega)), show (7 : Int32) = nI 7 from rfl, nI_mul, nI_add, nI_mul, nI_add, Nat.mul_comm x 7, Nat.mul_comm y 7, s5_39, zbV_some, zwr_nI (by omega) (by omega), s5_39, zbV_some, zwr_nI (by omega) (by omega), e21_38]
    · unfold wDn
      by_cases h1 : (a = x ∧ b = y) ∨ (a = y ∧ b = x)
      · rw [if_pos h1, Nat.min_eq_left (by omega)]
        by_cases h2 : a = y ∧ b = x
        · rw [h2.1, h2.2, zput_at]
        · rw [zput_o _ _ (Or.inr (by omega)), show 7 * a + b = 7 * x + y by omega, zput_at]
      · rw [if_neg h1, zput_o _ _ (Or.inr (by omega)), zput_o _ _ (Or.inr (by omega)), hT a b ha hb]
  · refine ⟨M, ?_, fun i _ => rfl, wTab_c hT fun a b _ _ => ?_⟩
    · rw [e21_0, s20 hn hT hx hy, zbI_some, if_neg (nI_nlt (by omega) (by omega)), e21_38]
    · unfold wDn
      by_cases h1 : (a = x ∧ b = y) ∨ (a = y ∧ b = x)
      · rw [if_pos h1, Nat.min_eq_right (by omega)]
        rcases h1 with ⟨rfl, rfl⟩ | ⟨rfl, rfl⟩
        · rfl
        · exact hs _ _
      · rw [if_neg h1]
theorem zTc_39 {M' : zM} (hc : zTc M 1 t) (h : ∀ i, i ≠ 39 → M' i = M i) : zTc M' 1 t := zTc_41 hc h (by omega)
theorem s22_f (hb : zTb t) : ∀ d b, d + b = t 2 → ∀ (c a : Nat) (D : Nat → Nat → Nat) (M : zM), c < t 2 → a < t 2 → zTc M 1 t → wDok D → wTab (M 39) (t 2) (wDp D c a b) → ∃ M', zden (L + 1) 22 119 [some (.ref 38), some (.int (nI c)), some (.int (nI a)), some (.int (nI b))] [] M = zden (L + 1) 22 106 [some (.ref 38), some (.int (nI c)), some (.int (nI (a + 1))), some (.int (nI (t 2)))] [] M' ∧ (∀ i, i ≠ 39 → M' i = M i) ∧ wTab (M' 39) (t 2) (wDp D c (a + 1) 0) := by
  have h7 := wT2 hb
  intro d
  induction d with
  | zero =>
    intro b hd c a D M hc ha hcc hD hT
    have hbb : b = t 2 := by omega
    subst hbb
    refine ⟨M, ?_, fun i _ => rfl, wTab_c hT fun x y hx hy => ?_⟩
    · rw [e22_119, hcc.1.2.2.1, if_neg (nI_nlt (by omega) (by omega)), nI_1]
    · unfold wDp
      by_cases h2 : (x < a ∨ x = a ∧ y < t 2) ∨ (y < a ∨ y = a ∧ x < t 2)
      · rw [if_pos h2, if_pos (by omega)]
      · rw [if_neg h2, if_neg (by omega)]
  | succ d ih =>
    intro b hd c a D M hc ha hcc hD hT
    have e1 := hD.2.2 a c
    have e2 := hD.2.2 c b
    obtain ⟨M1, h1, h2, h3⟩ := s21 (L := L) (v := D a c + D c b) h7 hT (wDp_sym hD) (fun x y => by unfold wDp; split; exact (wDs_ok hD).2.2 x y; exact hD.2.2 x y) ha (show b < t 2 by omega) (by omega)
    rw [wDp_s hD] at h3
    obtain ⟨M2, g1, g2, g3⟩ := ih (b + 1) (by omega) c a D M1 hc ha (zTc_39 hcc h2) hD h3
    refine ⟨M2, ?_, fun i hi => by rw [g2 i hi, h2 i hi], g3⟩
    rw [e22_119, hcc.1.2.2.1, if_pos (nI_lt (by omega) (by omega)), s20 h7 hT ha hc, zbI_some, s20 h7 hT hc (by omega), zbI_some, wDp_c1 hD, wDp_c2 hD, nI_add, h1, zbV_some, nI_1, g1]
theorem s22_a (hb : zTb t) : ∀ d a, d + a = t 2 → ∀ (c : Nat) (D : Nat → Nat → Nat) (M : zM) (o : Option Value), c < t 2 → zTc M 1 t → wDok D → wTab (M 39) (t 2) (wDp D c a 0) → ∃ M' o', zden (L + 1) 22 106 [some (.ref 38), some (.int (nI c)), some (.int (nI a)), o] [] M = zden (L + 1) 22 93 [some (.ref 38), some (.int (nI (c + 1))), some (.int (nI (t 2))), o'] [] M' ∧ (∀ i, i ≠ 39 → M' i = M i) ∧ wTab (M' 39) (t 2) (wDs D c) := by
  have h7 := wT2 hb
  intro d
  induction d with
  | zero =>
    intro a hd c D M o hc hcc hD hT
    have hbb : a = t 2 := by omega
    subst hbb
    refine ⟨M, o, ?_, fun i _ => rfl, wTab_c hT fun x y hx hy => ?_⟩
    · rw [e22_106, hcc.1.2.2.1, if_neg (nI_nlt (by omega) (by omega)), nI_1]
    · unfold wDp
      rw [if_pos (by omega)]
  | succ d ih =>
    intro a hd c D M o hc hcc hD hT
    obtain ⟨M1, h1, h2, h3⟩ := s22_f (L := L) hb (t 2) 0 (by omega) c a D M hc (by omega) hcc hD hT
    obtain ⟨M2, o2, g1, g2, g3⟩ := ih (a + 1) (by omega) c D M1 (some (.int (nI (t 2)))) hc (zTc_39 hcc h2) hD h3
    refine ⟨M2, o2, ?_, fun i hi => by rw [g2 i hi, h2 i hi], g3⟩
    rw [e22_106, hcc.1.2.2.1, if_pos (nI_lt (by omega) (by omega)), show (0 : Int32) = nI 0 from rfl, h1, g1]
theorem s22_c (hb : zTb t) : ∀ d c, d + c = t 2 → ∀ (M : zM) (o o2 : Option Value), zTc M 1 t → wTab (M 39) (t 2) (wDw t c) → ∃ M', zden (L + 1) 22 93 [some (.ref 38), some (.int (nI c)), o, o2] [] M = some (none, M') ∧ (∀ i, i ≠ 39 → M' i = M i) ∧ wTab (M' 39) (t 2) (wDw t (t 2)) := by
  have h7 := wT2 hb
  intro d
  induction d with
  | zero =>
    intro c hd M o o2 hcc hT
    have hbb : c = t 2 := by omega
    subst hbb
    refine ⟨M, ?_, fun i _ => rfl, hT⟩
    rw [e22_93, hcc.1.2.2.1, if_neg (nI_nlt (by omega) (by omega))]
  | succ d ih =>
    intro c hd M o o2 hcc hT
    obtain ⟨M1, o3, h1, h2, h3⟩ := s22_a (L := L) hb (t 2) 0 (by omega) c (wDw t c) M o2 (by omega) hcc (wDw_ok hb c) (wTab_c hT fun x y hx hy => by unfold wDp; rw [if_neg (by omega)])
    obtain ⟨M2, g1, g2, g3⟩ := ih (c + 1) (by omega) M1 (some (.int (nI (t 2)))) o3 (zTc_39 hcc h2) h3
    refine ⟨M2, ?_, fun i hi => by rw [g2 i hi, h2 i hi], g3⟩
    rw [e22_93, hcc.1.2.2.1, if_pos (nI_lt (by omega) (by omega)), show (0 : Int32) = nI 0 from rfl, h1, g1]
theorem s22_e (hb : zTb t) : ∀ d e, d + e = t 3 → ∀ (M : zM) (o o2 : Option Value), zTc M 1 t → wTab (M 39) (t 2) (wDl t e) → ∃ M', zden (L + 1) 22 37 [some (.ref 38), some (.int (nI e)), o, o2] [] M = some (none, M') ∧ (∀ i, i ≠ 39 → M' i = M i) ∧ wTab (M' 39) (t 2) (wDw t (t 2)) := by
  have h7 := wT2 hb
  have h10 : t 3 ≤ 10 := hb.1.2.2.2.2
  intro d
  induction d with
  | zero =>
    intro e hd M o o2 hcc hT
    have hbb : e = t 3 := by omega
    subst hbb
    obtain ⟨M1, h1, h2, h3⟩ := s22_c (L := L) hb (t 2) 0 (by omega) M o o2 hcc hT
    refine ⟨M1, ?_, h2, h3⟩
    rw [e22_37, hcc.1.2.2.2.1, if_neg (nI_nlt (by omega) (by omega)), show (0 : Int32) = nI 0 from rfl, h1]
  | succ d ih =>
    intro e hd M o o2 hcc hT
    obtain ⟨q1, q2, q3, q4, q5⟩ := hb.2.2.2.2.2.2 e (by omega)
    have hD := wDl_ok hb e (by omega)
    obtain ⟨M1, h1, h2, h3⟩ := s21 (L := L) (v := t (106 + e)) h7 hT hD.2.1 hD.2.2 q1 q2 (by omega)
    obtain ⟨M2, g1, g2, g3⟩ := ih (e + 1) (by omega) M1 o o2 (zTc_39 hcc h2) h3
    refine ⟨M2, ?_, fun i hi => by rw [g2 i hi, h2 i hi], g3⟩
    have hl := hcc.2.2.2.2.2.2 e (by omega)
    rw [e22_37, hcc.1.2.2.2.1, if_pos (nI_lt (by omega) (by omega)), s4_9, zbI_some, s4_10, zbI_some, s4_11, zbI_some, zrd_nI (by omega), if_pos (by omega), zrd_nI (by omega), if_pos (by omega), zrd_nI (by omega), if_pos (by omega), hl.1, hl.2.1, hl.2.2, h1, zbV_some, nI_1, g1]
theorem s22_d (hb : zTb t) : ∀ d k, d + k = t 2 → ∀ (M : zM) (o o2 : Option Value), zTc M 1 t → wTab (M 39) (t 2) (fun x y => if x = y ∧ x < k then 0 else 1000000) → ∃ M', zden (L + 1) 22 11 [some (.ref 38), some (.int (nI k)), o, o2] [] M = some (none, M') ∧ (∀ i, i ≠ 39 → M' i = M i) ∧ wTab (M' 39) (t 2) (wDw t (t 2)) := by
  have h7 := wT2 hb
  intro d
  induction d with
  | zero =>
    intro k hd M o o2 hcc hT
    have hbb : k = t 2 := by omega
    subst hbb
    obtain ⟨M1, h1, h2, h3⟩ := s22_e (L := L) hb (t 3) 0 (by omega) M o o2 hcc (wTab_c hT fun x y hx hy => by
      show (if x = y ∧ x < t 2 then 0 else 1000000) = wD0 x y
      unfold wD0
      by_cases h : x = y
      · rw [if_pos ⟨h, hx⟩, if_pos h]
      · rw [if_neg (fun q => h q.1), if_neg h])
    refine ⟨M1, ?_, h2, h3⟩
    rw [e22_11, hcc.1.2.2.1, if_neg (nI_nlt (by omega) (by omega)), show (0 : Int32) = nI 0 from rfl, h1]
  | succ d ih =>
    intro k hd M o o2 hcc hT
    obtain ⟨M1, h1, h2, h3⟩ := s21 (L := L) (v := 0) h7 hT (fun x y => by
      show (if x = y ∧ x < k then 0 else 1000000) = (if y = x ∧ y < k then 0 else 1000000)
      by_cases h : x = y
      · subst h; rfl
      · rw [if_neg (fun q => h q.1), if_neg (fun q => h q.1.symm)]) (fun x y => by show (if x = y ∧ x < k then 0 else 1000000) ≤ 1000000; split <;> omega) (show k < t 2 by omega) (show k < t 2 by omega) (by omega)
    obtain ⟨M2, g1, g2, g3⟩ := ih (k + 1) (by omega) M1 o o2 (zTc_39 hcc h2) (wTab_c h3 fun x y hx hy => by
      unfold wDn
      dsimp only
      by_cases h : (x = k ∧ y = k) ∨ (x = k ∧ y = k)
      · rw [if_pos h, if_pos (show x = y ∧ x < k + 1 by omega), Nat.zero_min]
      · rw [if_neg h]
        by_cases h5 : x = y ∧ x < k
        · rw [if_pos h5, if_pos (by omega)]
        · rw [if_neg h5, if_neg (by omega)])
    refine ⟨M2, ?_, fun i hi => by rw [g2 i hi, h2 i hi], g3⟩
    rw [e22_11, hcc.1.2.2.1, if_pos (nI_lt (by omega) (by omega)), show (0 : Int32) = nI 0 from rfl, h1, zbV_some, nI_1, g1]
theorem s22 (hb : zTb t) (hc : zTc M 1 t) : ∃ M', zden (L + 1) 22 0 [some (.ref 38), none, none, none] [] M = some (none, M') ∧ (∀ i, i ≠ 39 → M' i = M i) ∧ wTab (M' 39) (t 2) (wDw t (t 2)) := by
  have h7 := wT2 hb
  obtain ⟨M1, h1, h2, h3⟩ := s22_d (L := L) hb (t 2) 0 (by omega) (zfl M 39 49 1000000) none none (zTc_39 hc fun i hi => zfl_row M hi) (fun x y hx hy => by
    rw [zfl_in _ (by omega)]
    show (1000000 : Int32) = nI (if x = y ∧ x < 0 then 0 else 1000000)
    rw [if_neg (by omega)]; rfl)
  refine ⟨M1, ?_, fun i hi => by rw [h2 i hi, zfl_row M hi], h3⟩
  rw [e22_0, s19_39, zbV_some, show (0 : Int32) = nI 0 from rfl, h1]
end KR
