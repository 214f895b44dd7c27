theorem wor_all : ∀ a b : Fin 128, (nI a.val ||| nI b.val) = nI (a.val ||| b.val) := by decide +kernel
theorem wan_all : ∀ a b : Fin 128, (nI a.val &&& nI b.val) = nI (a.val &&& b.val) := by decide +kernel
theorem wsh_all : ∀ k : Fin 8, ((1 : Int32) <<< (nI k.val &&& 31)) = nI (2 ^ k.val) := by decide +kernel
theorem wor_lt {a b : Nat} (ha : a < 128) (hb : b < 128) : a ||| b < 128 := Nat.or_lt_two_pow (n := 7) ha hb
theorem wan_lt {a b : Nat} (ha : a < 128) : a &&& b < 128 := Nat.lt_of_le_of_lt Nat.and_le_left ha
theorem zpc_le (B : Nat) : zpc B ≤ 7 := by unfold zpc; omega
def wbt (o : Option (Nat × Nat)) (p : Nat) : Bool := match o with
  | none => true
  | some q => decide (q.2 < p)
def wls (t : Nat → Nat) (B n : Nat) : Nat → Nat → Option (Nat × Nat) → Option (Nat × Nat)
  | 0, _, o => o
  | d + 1, S, o => wls t B n d (S + 1) (if zpc S = n ∧ S &&& B = 0 ∧ wbt o (wfr t (S ||| B)) = true then some (S, wfr t (S ||| B)) else o)
def web (o : Option (Nat × Nat)) : Int32 := match o with
  | none => -4
  | some q => nI q.1
def wem (x : Int32) (o : Option (Nat × Nat)) : Int32 := match o with
  | none => x
  | some q => nI q.2
def wlo (t : Nat → Nat) (B : Nat) (o : Option (Nat × Nat)) : Prop := ∀ q, o = some q → q.1 < 128 ∧ q.2 = wfr t (q.1 ||| B)
theorem wbt_iff {t : Nat → Nat} {B p : Nat} {x : Int32} {o : Option (Nat × Nat)} (hb : zTb t) (hx : x = -1 ∨ x = -4) (ho : wlo t B o) (hp : p ≤ 49) : (wem x o < nI p) ↔ wbt o p = true := by
  cases o with
  | none =>
    have h : wem x none < nI p := by
      show x < nI p
      rw [zi_lt, nI_toInt (by omega)]
      rcases hx with rfl | rfl
      · have : (-1 : Int32).toInt = -1 := by decide
        omega
      · have : (-4 : Int32).toInt = -4 := by decide
        omega
    exact ⟨fun _ => rfl, fun _ => h⟩
  | some q =>
    have h1 := (ho q rfl).2
    have h2 := wfr_le hb (q.1 ||| B)
    show nI q.2 < nI p ↔ decide (q.2 < p) = true
    rw [decide_eq_true_eq, nI_ltI (by omega) (by omega)]
theorem wls_ok {t : Nat → Nat} {B n : Nat} : ∀ d S o, d + S ≤ 128 → wlo t B o → wlo t B (wls t B n d S o)
  | 0, _, _, _, h => h
  | d + 1, S, o, hd, h => by
    unfold wls
    refine wls_ok d (S + 1) _ (by omega) ?_
    split
    · intro q hq
      cases hq
      exact ⟨by omega, rfl⟩
    · exact h
section KR
variable {L : Nat} {ro M : zM} {t : Nat → Nat}
theorem s27_l {B n : Nat} (hb : zTb t) (hc : zTc M 1 t) (hT : wTab (M 39) (t 2) (wDw t (t 2))) (hB : B < 128) (h14 : M 1 14 = nI B) (hn : n ≤ 3) : ∀ d S, d + S = 2 ^ t 2 → ∀ (o : Option (Nat × Nat)) (o5 : Option Value), wlo t B o → zden (L + 1) 27 8 [some (.ref 38), some (.int (nI n)), some (.int (web o)), some (.int (wem (-1) o)), some (.int (nI S)), o5] [] M = some (some (.int (web (wls t B n d S o))), M) := by
  have h7 := wT2 hb
  have h128 : 2 ^ t 2 ≤ 2 ^ 7 := Nat.pow_le_pow_right (by omega) h7
  have hsh := wsh_all ⟨t 2, by omega⟩
  dsimp only at hsh
  intro d
  induction d with
  | zero =>
    intro S hd o o5 ho
    have hbb : S = 2 ^ t 2 := by omega
    rw [e27_8, hc.1.2.2.1, hsh, if_neg (nI_nlt (by omega) (by omega))]; rfl
  | succ d ih =>
    intro S hd o o5 ho
    have hS : S < 128 := by omega
    have hz := zpc_le S
    have hand := wan_all ⟨S, hS⟩ ⟨B, hB⟩
    have hor := wor_all ⟨B, hB⟩ ⟨S, hS⟩
    dsimp only at hand hor
    have hal := wan_lt (b := B) hS
    have hfr := wfr_le hb (S ||| B)
    rw [e27_8, hc.1.2.2.1, hsh, if_pos (nI_lt (by omega) (by omega)), s26 hS, zbI_some, h14]
    unfold wls
    by_cases c1 : zpc S = n
    · rw [if_pos (by rw [c1]), hand]
      by_cases c2 : S &&& B = 0
      · rw [c2, if_pos (show nI 0 = 0 from rfl), hor, Nat.or_comm B S, s25 hb hc hT (wor_lt hS hB), zbI_some]
        by_cases c3 : wbt o (wfr t (S ||| B)) = true
        · rw [if_pos ((wbt_iff hb (Or.inl rfl) ho hfr).mpr c3), if_pos (show zpc S = n ∧ 0 = 0 ∧ wbt o (wfr t (S ||| B)) = true from ⟨c1, rfl, c3⟩), e27_72, nI_1]
          exact ih (S + 1) (by omega) (some (S, wfr t (S ||| B))) _ (fun q hq => by cases hq; exact ⟨hS, rfl⟩)
        · rw [if_neg (fun h => c3 ((wbt_iff hb (Or.inl rfl) ho hfr).mp h)), if_neg (show ¬ (zpc S = n ∧ 0 = 0 ∧ wbt o (wfr t (S ||| B)) = true) from fun h => c3 h.2.2), e27_72, nI_1]
          exact ih (S + 1) (by omega) o _ ho
      · rw [if_neg (nI_ne0 (by omega) (by omega)), if_neg (show ¬ (zpc S = n ∧ S &&& B = 0 ∧ wbt o (wfr t (S ||| B)) = true) from fun h => c2 h.2.1), e27_72, nI_1]
        exact ih (S + 1) (by omega) o _ ho
    · rw [if_neg (fun h => c1 ((nI_eq (by omega) (by omega)).mp h)), if_neg (show ¬ (zpc S = n ∧ S &&& B = 0 ∧ wbt o (wfr t (S ||| B)) = true) from fun h => c1 h.1), e27_72, nI_1]
      exact ih (S + 1) (by omega) o _ ho
theorem s219_l {B n w : Nat} (hb : zTb t) (hm : zTm M 49 t) (hB : B < 128) (hn : n ≤ 3) (hw : w ≤ 1) : ∀ d S, d + S = 2 ^ t 2 → ∀ (o : Option (Nat × Nat)) (P : zM), (∀ i, i ≠ 61 → P i = M i) → wlo t B o → ∃ P', zden (L + 1) 219 37 [some (.ref 48), some (.int (nI n)), some (.int (nI w)), some (.int (nI B)), some (.int (web o)), some (.int (wem (-4) o)), some (.int (nI S))] [] P = some (some (.int (if w = 0 then web (wls t B n d S o) else wem (-4) (wls t B n d S o))), P') ∧ ∀ i, i ≠ 61 → P' i = M i := by
  have h7 := wT2 hb
  have h128 : 2 ^ t 2 ≤ 2 ^ 7 := Nat.pow_le_pow_right (by omega) h7
  have hsh := wsh_all ⟨t 2, by omega⟩
  dsimp only at hsh
  intro d
  induction d with
  | zero =>
    intro S hd o P hP ho
    have hmP := zTm_61 hm hP
    have hbb : S = 2 ^ t 2 := by omega
    refine ⟨P, ?_, hP⟩
    rw [e219_37, hmP 2 (by omega), hsh, if_neg (nI_nlt (by omega) (by omega))]
    unfold wls
    by_cases hw0 : w = 0
    · subst hw0
      rw [if_pos (show nI 0 = 0 from rfl), e219_110, if_pos rfl]
    · rw [if_neg (nI_ne0 (by omega) (by omega)), e219_110, if_neg hw0]
  | succ d ih =>
    intro S hd o P hP ho
    have hmP := zTm_61 hm hP
    have hS : S < 128 := by omega
    have hz := zpc_le S
    have hand := wan_all ⟨S, hS⟩ ⟨B, hB⟩
    have hor := wor_all ⟨S, hS⟩ ⟨B, hB⟩
    dsimp only at hand hor
    have hal := wan_lt (b := B) hS
    have hfr := wfr_le hb (S ||| B)
    unfold wls
    by_cases c1 : zpc S = n
    · by_cases c2 : S &&& B = 0
      · obtain ⟨P1, p1, p2⟩ := s216 (L := L) (B := S ||| B) hb hmP (wor_lt hS hB)
        have hP1 : ∀ i, i ≠ 61 → P1 i = M i := fun i hi => by rw [p2 i hi, hP i hi]
        by_cases c3 : wbt o (wfr t (S ||| B)) = true
        · obtain ⟨P2, q1, q2⟩ := s216 (L := L) (B := S ||| B) hb (zTm_61 hm hP1) (wor_lt hS hB)
          obtain ⟨P', g1, g2⟩ := ih (S + 1) (by omega) (some (S, wfr t (S ||| B))) P2 (fun i hi => by rw [q2 i hi, hP1 i hi]) (fun q hq => by cases hq; exact ⟨hS, rfl⟩)
          refine ⟨P', ?_, g2⟩
          rw [e219_37, hmP 2 (by omega), hsh, if_pos (nI_lt (by omega) (by omega)), s218 hS, zbI_some, if_pos (by rw [c1]), hand, c2, if_pos (show nI 0 = 0 from rfl), hor, p1, zbI_some, if_pos ((wbt_iff hb (Or.inr rfl) ho hfr).mpr c3), q1, zbI_some, e219_93, nI_1, if_pos (show zpc S = n ∧ 0 = 0 ∧ wbt o (wfr t (S ||| B)) = true from ⟨c1, rfl, c3⟩)]
          exact g1
        · obtain ⟨P', g1, g2⟩ := ih (S + 1) (by omega) o P1 hP1 ho
          refine ⟨P', ?_, g2⟩
          rw [e219_37, hmP 2 (by omega), hsh, if_pos (nI_lt (by omega) (by omega)), s218 hS, zbI_some, if_pos (by rw [c1]), hand, c2, if_pos (show nI 0 = 0 from rfl), hor, p1, zbI_some, if_neg (fun h => c3 ((wbt_iff hb (Or.inr rfl) ho hfr).mp h)), e219_93, nI_1, if_neg (show ¬ (zpc S = n ∧ 0 = 0 ∧ wbt o (wfr t (S ||| B)) = true) from fun h => c3 h.2.2)]
          exact g1
      · obtain ⟨P', g1, g2⟩ := ih (S + 1) (by omega) o P hP ho
        refine ⟨P', ?_, g2⟩
        rw [e219_37, hmP 2 (by omega), hsh, if_pos (nI_lt (by omega) (by omega)), s218 hS, zbI_some, if_pos (by rw [c1]), hand, if_neg (nI_ne0 (by omega) (by omega)), e219_93, nI_1, if_neg (show ¬ (zpc S = n ∧ S &&& B = 0 ∧ wbt o (wfr t (S ||| B)) = true) from fun h => c2 h.2.1)]
        exact g1
    · obtain ⟨P', g1, g2⟩ := ih (S + 1) (by omega) o P hP ho
      refine ⟨P', ?_, g2⟩
      rw [e219_37, hmP 2 (by omega), hsh, if_pos (nI_lt (by omega) (by omega)), s218 hS, zbI_some, if_neg (fun h => c1 ((nI_eq (by omega) (by omega)).mp h)), e219_93, nI_1, if_neg (show ¬ (zpc S = n ∧ S &&& B = 0 ∧ wbt o (wfr t (S ||| B)) = true) from fun h => c1 h.1)]
      exact g1
theorem k_lifts (a w : Int32) (hR : zRel M) (hro : ∀ i, zNW ≤ i → M i = ro i) : zSame L ro 130 219 [some (.ref 0), some (.int a), some (.int w), none] [some (.ref 48), some (.int a), some (.int w), none, none, none, none] M := by
  obtain ⟨t, hb, hc, hm, -⟩ := id hR
  have h7 := wT2 hb
  rcases zrng_cases a 1 3 with ha | ha
  · rcases zrng_cases w 0 1 with hw | hw
    · obtain ⟨n, hn1, hn3, rfl⟩ := zrng_ab (a := 1) (b := 3) (by omega) (by omega) ha
      obtain ⟨u, hu, rfl⟩ := zrng_nI (b := 1) (by omega) hw
      obtain ⟨M1, a1, a2, a3⟩ := s22 (L := L) hb hc
      have hc1 := zTc_39 hc a2
      have hm1 : zTm M1 49 t := zTm_c hm (a2 49 (by omega))
      have hB := zbits_128 hb
      have h14 := hc1.1.2.2.2.2
      have hs213 := s213 (L := L) hb hm1
      generalize zbits (fun q => t (79 + q)) (t 2) = B at hB h14 hs213
      have h2p : 0 < 2 ^ t 2 := Nat.two_pow_pos _
      have h128 : 2 ^ t 2 ≤ 2 ^ 7 := Nat.pow_le_pow_right (by omega) h7
      have hnone : wlo t B none := fun q hq => by cases hq
      obtain ⟨M2, b1, b2⟩ := s219_l (L := L) (B := B) (n := n) (w := u) hb hm1 hB hn3 hu (2 ^ t 2) 0 (by omega) none M1 (fun i _ => rfl) hnone
      obtain ⟨r1, r2⟩ := zRel_39 hR hro a2 b2
      have hf : wls t B n (2 ^ t 2) 0 none = wls t B n (2 ^ t 2 - 1) 1 none := by
        rw [show 2 ^ t 2 = (2 ^ t 2 - 1) + 1 by omega]
        show wls t B n (2 ^ t 2 - 1) 1 (if zpc 0 = n ∧ _ then _ else none) = _
        rw [if_neg (fun h => by have : zpc 0 = 0 := rfl; omega)]
        rfl
      have hok : wlo t B (wls t B n (2 ^ t 2 - 1) 1 none) := wls_ok _ _ _ (by omega) hnone
      have hl := s27_l (L := L) hb hc1 a3 hB h14 hn3 (2 ^ t 2 - 1) 1 (by omega) none none hnone
      rw [hf] at b1
      generalize wls t B n (2 ^ t 2 - 1) 1 none = res at b1 hok hl
      refine ⟨if u = 0 then web res else wem (-4) res, M1, M2, ?_, ?_, r1, r2⟩
      · rw [e130_0, s46r, zbI_some, ha, if_neg (show ¬ zb true = 0 by decide), s46r, zbI_some, hw, if_neg (show ¬ zb true = 0 by decide), a1, zbV_some, e27_0]
        rw [show zden (L + 1) 27 8 [some (.ref 38), some (.int (nI n)), some (.int (-4)), some (.int (-1)), some (.int 1), none] [] M1 = _ from hl, zbI_some]
        cases res with
        | none =>
          rw [if_pos (show web none = -4 from rfl), e130_46]
          split <;> rfl
        | some q =>
          obtain ⟨q1, q2⟩ := hok q rfl
          have hne : ¬ web (some q) = -4 := by
            show ¬ nI q.1 = -4
            intro h
            have h2 := zi_eq.mp h
            rw [nI_toInt (by omega)] at h2
            have : (-4 : Int32).toInt = -4 := by decide
            omega
          rw [if_neg hne]
          by_cases hu0 : u = 0
          · subst hu0
            rw [if_pos (show nI 0 = 0 from rfl), e130_46, if_pos rfl]
          · have hor := wor_all ⟨B, hB⟩ ⟨q.1, q1⟩
            dsimp only at hor
            rw [if_neg (nI_ne0 (by omega) (by omega)), h14, show web (some q) = nI q.1 from rfl, hor, Nat.or_comm B, s25 hb hc1 a3 (wor_lt q1 hB), zbI_some, if_neg hu0, ← q2]
            rfl
      · rw [e219_0, s143r L _ 1 3 (by decide) (by decide), zbI_some, ha, if_neg (show ¬ zb true = 0 by decide), s161, zbI_some, hw, if_neg (show ¬ zb true = 0 by decide), hs213, zbI_some]
        exact b1
    · refine ⟨-1, M, M, ?_, ?_, hR, hro⟩
      · rw [e130_0, s46r, zbI_some, ha, if_neg (show ¬ zb true = 0 by decide), s46r, zbI_some, hw, if_pos (show zb false = 0 from rfl), e130_18]
      · rw [e219_0, s143r L _ 1 3 (by decide) (by decide), zbI_some, ha, if_neg (show ¬ zb true = 0 by decide), s161, zbI_some, hw, if_pos (show zb false = 0 from rfl), e219_19]
  · refine ⟨-1, M, M, ?_, ?_, hR, hro⟩
    · rw [e130_0, s46r, zbI_some, ha, if_pos (show zb false = 0 from rfl), e130_18]
    · rw [e219_0, s143r L _ 1 3 (by decide) (by decide), zbI_some, ha, if_pos (show zb false = 0 from rfl), e219_19]
/-- the one missed most -/
def wms (t : Nat → Nat) (B : Nat) : Nat → Nat → Int32 → Nat → Int32
  | 0, _, b, _ => b
  | d + 1, k, b, f => if B / 2 ^ k % 2 = 1 ∧ wfr t (B - B / 2 ^ k % 2 * 2 ^ k) < f then wms t B d (k + 1) (nI k) (wfr t (B - B / 2 ^ k % 2 * 2 ^ k)) else wms t B d (k + 1) b f
theorem s28_l {B : Nat} (hb : zTb t) (hc : zTc M 1 t) (hT : wTab (M 39) (t 2) (wDw t (t 2))) (hB : B < 128) (h14 : M 1 14 = nI B) : ∀ d k, d + k = t 2 → ∀ (b : Int32) (f : Nat) (o4 : Option Value), f ≤ 1000000 → zden (L + 1) 28 8 [some (.ref 38), some (.int b), some (.int (nI f)), some (.int (nI k)), o4] [] M = some (some (.int (wms t B d k b f)), M) := by
  have h7 := wT2 hb
  intro d
  induction d with
  | zero =>
    intro k hd b f o4 hf
    rw [e28_8, hc.1.2.2.1, if_neg (nI_nlt (by omega) (by omega))]; rfl
  | succ d ih =>
    intro k hd b f o4 hf
    have h2 : B / 2 ^ k % 2 < 2 := Nat.mod_lt _ (by omega)
    have hcl := zclr_all ⟨B, hB⟩ ⟨k, by omega⟩
    dsimp only at hcl
    have hfr := wfr_le hb (B - B / 2 ^ k % 2 * 2 ^ k)
    rw [e28_8, hc.1.2.2.1, if_pos (nI_lt (by omega) (by omega)), h14, s18 L hB (by omega), zbI_some]
    unfold wms
    by_cases c1 : B / 2 ^ k % 2 = 1
    · rw [if_neg (nI_ne0 (by omega) (by omega)), h14, hcl, s25 hb hc hT (by omega), zbI_some]
      by_cases c2 : wfr t (B - B / 2 ^ k % 2 * 2 ^ k) < f
      · rw [if_pos (nI_lt c2 (by omega)), if_pos ⟨c1, c2⟩, e28_63, nI_1]
        exact ih (k + 1) (by omega) _ _ _ (by omega)
      · rw [if_neg (nI_nlt (by omega) (by omega)), if_neg (fun h => c2 h.2), e28_63, nI_1]
        exact ih (k + 1) (by omega) _ _ _ hf
    · rw [if_pos (show nI (B / 2 ^ k % 2) = 0 by rw [show B / 2 ^ k % 2 = 0 by omega]; rfl), if_neg (fun h => c1 h.1), e28_63, nI_1]
      exact ih (k + 1) (by omega) _ _ _ hf
theorem s220_l {B : Nat} (hb : zTb t) (hm : zTm M 49 t) (hB : B < 128) : ∀ d k, d + k = t 2 → ∀ (b : Int32) (f : Nat) (P : zM), f ≤ 1000000 → (∀ i, i ≠ 61 → P i = M i) → ∃ P', zden (L + 1) 220 14 [some (.ref 48), some (.int (nI B)), some (.int b), some (.int (nI f)), some (.int (nI k))] [] P = some (some (.int (wms t B d k b f)), P') ∧ ∀ i, i ≠ 61 → P' i = M i := by
  have h7 := wT2 hb
  intro d
  induction d with
  | zero =>
    intro k hd b f P hf hP
    refine ⟨P, ?_, hP⟩
    rw [e220_14, zTm_61 hm hP 2 (by omega), if_neg (nI_nlt (by omega) (by omega))]; rfl
  | succ d ih =>
    intro k hd b f P hf hP
    have hmP := zTm_61 hm hP
    have h2 : B / 2 ^ k % 2 < 2 := Nat.mod_lt _ (by omega)
    have hcl := zclr_all ⟨B, hB⟩ ⟨k, by omega⟩
    have hz := zbit_get ⟨B, hB⟩ ⟨k, by omega⟩
    dsimp only at hcl hz
    have hfr := wfr_le hb (B - B / 2 ^ k % 2 * 2 ^ k)
    unfold wms
    by_cases c1 : B / 2 ^ k % 2 = 1
    · obtain ⟨P1, p1, p2⟩ := s216 (L := L) (B := B - B / 2 ^ k % 2 * 2 ^ k) hb hmP (by omega)
      have hP1 : ∀ i, i ≠ 61 → P1 i = M i := fun i hi => by rw [p2 i hi, hP i hi]
      by_cases c2 : wfr t (B - B / 2 ^ k % 2 * 2 ^ k) < f
      · obtain ⟨P2, q1, q2⟩ := s216 (L := L) (B := B - B / 2 ^ k % 2 * 2 ^ k) hb (zTm_61 hm hP1) (by omega)
        obtain ⟨P', g1, g2⟩ := ih (k + 1) (by omega) (nI k) (wfr t (B - B / 2 ^ k % 2 * 2 ^ k)) P2 (by omega) (fun i hi => by rw [q2 i hi, hP1 i hi])
        refine ⟨P', ?_, g2⟩
        rw [e220_14, hmP 2 (by omega), if_pos (nI_lt (by omega) (by omega)), hz, if_pos (show nI (B / 2 ^ k % 2) = 1 by rw [c1]; rfl), hcl, p1, zbI_some, if_pos (nI_lt c2 (by omega)), q1, zbI_some, e220_67, nI_1, if_pos ⟨c1, c2⟩]
        exact g1
      · obtain ⟨P', g1, g2⟩ := ih (k + 1) (by omega) b f P1 hf hP1
        refine ⟨P', ?_, g2⟩
        rw [e220_14, hmP 2 (by omega), if_pos (nI_lt (by omega) (by omega)), hz, if_pos (show nI (B / 2 ^ k % 2) = 1 by rw [c1]; rfl), hcl, p1, zbI_some, if_neg (nI_nlt (by omega) (by omega)), e220_67, nI_1, if_neg (fun h => c2 h.2)]
        exact g1
    · obtain ⟨P', g1, g2⟩ := ih (k + 1) (by omega) b f P hf hP
      refine ⟨P', ?_, g2⟩
      rw [e220_14, hmP 2 (by omega), if_pos (nI_lt (by omega) (by omega)), hz, if_neg (show ¬ nI (B / 2 ^ k % 2) = 1 by rw [show B / 2 ^ k % 2 = 0 by omega]; decide), e220_67, nI_1, if_neg (fun h => c1 h.1)]
      exact g1
theorem k_missed (hR : zRel M) (hro : ∀ i, zNW ≤ i → M i = ro i) : zSame L ro 131 220 [some (.ref 0)] [some (.ref 48), none, none, none, none] M := by
  obtain ⟨t, hb, hc, hm, -⟩ := id hR
  obtain ⟨M1, a1, a2, a3⟩ := s22 (L := L) hb hc
  have hc1 := zTc_39 hc a2
  have hm1 : zTm M1 49 t := zTm_c hm (a2 49 (by omega))
  obtain ⟨M2, b1, b2⟩ := s220_l (L := L) (B := zbits (fun q => t (79 + q)) (t 2)) hb hm1 (zbits_128 hb) (t 2) 0 (by omega) (-4) 1000000 M1 (by omega) (fun i _ => rfl)
  obtain ⟨r1, r2⟩ := zRel_39 hR hro a2 b2
  refine ⟨wms t (zbits (fun q => t (79 + q)) (t 2)) (t 2) 0 (-4) 1000000, M1, M2, ?_, ?_, r1, r2⟩
  · rw [e131_0, a1, zbV_some, e28_0]
    rw [show zden (L + 1) 28 8 [some (.ref 38), some (.int (-4)), some (.int 1000000), some (.int 0), none] [] M1 = _ from s28_l hb hc1 a3 (zbits_128 hb) hc1.1.2.2.2.2 (t 2) 0 (by omega) (-4) 1000000 none (by omega), zbI_some]
  · rw [e220_0, s213 hb hm1, zbI_some]
    exact b1
end KR
