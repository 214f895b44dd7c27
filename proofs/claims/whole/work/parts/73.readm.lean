section KP
variable {L : Nat} {ro M : zM} {n : Nat} {X t : Nat → Nat}
def wTm (M : zM) (n : Nat) (X : Nat → Nat) : Prop := M 48 3 = nI n ∧ ∀ j, j < n → M 51 j = nI (X j)
/-- only the place, the numbers, the town read -/
def wFm (P M : zM) : Prop := (∀ i, i ≠ 48 → i ≠ 50 → i ≠ 56 → P i = M i) ∧ ∀ j, j ≠ 11 → P 48 j = M 48 j
theorem wFm_t {A B C : zM} (h1 : wFm A B) (h2 : wFm B C) : wFm A C := ⟨fun i a b c => by rw [h1.1 i a b c, h2.1 i a b c], fun j h => by rw [h1.2 j h, h2.2 j h]⟩
theorem wFm_r (A : zM) : wFm A A := ⟨fun _ _ _ _ => rfl, fun _ _ => rfl⟩
theorem wTm_f {P : zM} (h : wFm P M) (hM : wTm M n X) : wTm P n X := ⟨by rw [h.2 3 (by omega)]; exact hM.1, fun j hj => by rw [h.1 51 (by omega) (by omega) (by omega)]; exact hM.2 j hj⟩
theorem wFm_at (P : zM) (x : Int32) : wFm (zput P 48 11 x) P := ⟨fun i a _ _ => zput_ne a, fun j h => zput_o _ _ (Or.inr h)⟩
theorem wFm_56 (P : zM) (k : Nat) (x : Int32) : wFm (zput P 56 k x) P := ⟨fun i _ _ c => zput_ne c, fun j _ => by rw [zput_ne (by omega)]⟩
theorem wFm_50 (P : zM) (k : Nat) (x : Int32) : wFm (zput P 50 k x) P := ⟨fun i _ b _ => zput_ne b, fun j _ => by rw [zput_ne (by omega)]⟩
theorem wdg_rng {c : Nat} (h : c < 127) : zrng (nI c) 48 57 = wdg c := zrng_nn (lo := 48) (hi := 57) (by omega) (by omega) (by omega)
theorem s146_d {m k q v f : Nat} (hX : wTxt n X) (hM : wTm M n X) (hq : q ≤ n) (h11 : M 48 11 = nI q) (hf : f ≤ 1000) (o5 : Option Value) : zden (L + 1) 146 12 [some (.ref 48), some (.int (nI m)), some (.int (nI k)), some (.int (nI v)), some (.int (nI f)), o5] [] M = if wdg (X q) = true then zden (L + 1) 146 12 [some (.ref 48), some (.int (nI m)), some (.int (nI k)), some (.int (nI (if f < 2 then 10 * v + (X q - 48) else v))), some (.int (nI (f + 1))), o5] [] (zput M 48 11 (nI (q + 1))) else zden (L + 1) 146 89 [some (.ref 48), some (.int (nI m)), some (.int (nI k)), some (.int (nI v)), some (.int (nI f)), o5] [] M := by
  have h200 := hX.1
  have hlt := wTxt_lt hX q
  rw [e146_12, h11, hM.1]
  by_cases h : q < n
  · rw [if_pos (nI_lt h (by omega)), if_pos ((zinb_nI (by omega)).mpr (by omega)), nI_clamp (by omega), hM.2 q h, s143r L _ 48 57 (by decide) (by decide), zbI_some, wdg_rng hlt]
    cases hd : wdg (X q)
    · rw [if_pos (show zb false = 0 from rfl)]; rfl
    · have d1 := wdg_iff.mp hd
      rw [if_neg (show ¬ zb true = 0 by decide), if_pos rfl]
      by_cases h2 : f < 2
      · rw [if_pos (show nI f < 2 from nI_lt (b := 2) h2 (by omega)), h11, if_pos ((zinb_nI (by omega)).mpr (by omega)), nI_clamp (by omega), hM.2 q h, nI_dig d1.1, e146_72, h11, nI_1, nI_1, if_pos h2]
      · rw [if_neg (show ¬ nI f < 2 from nI_nlt (b := 2) (by omega) (by omega)), e146_72, h11, nI_1, nI_1, if_neg h2]
  · have h0 := hX.2.2 q (by omega)
    rw [if_neg (nI_nlt (by omega) (by omega)), h0]
    rfl
theorem s146_r {m k v : Nat} (hX : wTxt n X) (o5 : Option Value) : ∀ e q, e + q = n → ∀ (f : Nat) (P : zM), wTm P n X → P 48 11 = nI q → 2 ≤ f → f + e ≤ 900 → ∃ P' q' f', zden (L + 1) 146 12 [some (.ref 48), some (.int (nI m)), some (.int (nI k)), some (.int (nI v)), some (.int (nI f)), o5] [] P = zden (L + 1) 146 89 [some (.ref 48), some (.int (nI m)), some (.int (nI k)), some (.int (nI v)), some (.int (nI f')), o5] [] P' ∧ wFm P' P ∧ q' ≤ n ∧ P' 48 11 = nI q' ∧ f ≤ f' ∧ f' ≤ 900 ∧ P' 50 = P 50 := by
  intro e
  induction e with
  | zero =>
    intro q hq f P hM h11 hf hf9
    have h0 := hX.2.2 q (by omega)
    refine ⟨P, q, f, ?_, wFm_r P, by omega, h11, Nat.le_refl _, by omega, rfl⟩
    rw [s146_d hX hM (by omega) h11 (by omega), h0]
    rfl
  | succ e ih =>
    intro q hq f P hM h11 hf hf9
    cases hd : wdg (X q)
    · refine ⟨P, q, f, ?_, wFm_r P, by omega, h11, Nat.le_refl _, by omega, rfl⟩
      rw [s146_d hX hM (by omega) h11 (by omega), hd]
      rfl
    · obtain ⟨P', q', f', g1, g2, g3, g4, g5, g6, g7⟩ := ih (q + 1) (by omega) (f + 1) (zput P 48 11 (nI (q + 1))) (wTm_f (wFm_at P _) hM) (zput_at _ _ _ _) (by omega) (by omega)
      refine ⟨P', q', f', ?_, wFm_t g2 (wFm_at P _), g3, g4, by omega, g6, by rw [g7, zput_ne (by omega)]⟩
      rw [s146_d hX hM (by omega) h11 (by omega), hd, if_pos rfl, if_neg (by omega)]
      exact g1
theorem s146_e {m k d q v f : Nat} (hX : wTxt n X) (hM : wTm M n X) (hm : m ≤ 3) (hk : k + d + 1 = m) (hq : q ≤ n) (h11 : M 48 11 = nI q) (hf : f ≤ 1000) (o5 : Option Value) : zden (L + 1) 146 89 [some (.ref 48), some (.int (nI m)), some (.int (nI k)), some (.int (nI v)), some (.int (nI f)), o5] [] M = if (1 ≤ f ∧ f ≤ 2) ∧ X q = wsep d then zden (L + 1) 146 2 [some (.ref 48), some (.int (nI m)), some (.int (nI (k + 1))), some (.int (nI v)), some (.int (nI f)), some (.int 1)] [] (zput (zput M 56 k (nI v)) 48 11 (nI (q + 1))) else some (some (.int 0), M) := by
  have h200 := hX.1
  have hlt := wTxt_lt hX q
  have hsp := wsep_n d
  have fin : ∀ s : Bool, (s = true ↔ X q = wsep d) → zden (L + 1) 146 131 [some (.ref 48), some (.int (nI m)), some (.int (nI k)), some (.int (nI v)), some (.int (nI f)), o5] [.int (zb s)] M = if (1 ≤ f ∧ f ≤ 2) ∧ X q = wsep d then zden (L + 1) 146 2 [some (.ref 48), some (.int (nI m)), some (.int (nI (k + 1))), some (.int (nI v)), some (.int (nI f)), some (.int 1)] [] (zput (zput M 56 k (nI v)) 48 11 (nI (q + 1))) else some (some (.int 0), M) := by
    intro s hs
    rw [e146_131, s143r L _ 1 2 (by decide) (by decide), zbI_some, show zrng (nI f) 1 2 = (decide (1 ≤ f) && decide (f ≤ 2)) from zrng_nn (lo := 1) (hi := 2) (by omega) (by omega) (by omega)]
    by_cases hf2 : 1 ≤ f ∧ f ≤ 2
    · rw [decide_eq_true hf2.1, decide_eq_true hf2.2, if_neg (show ¬ zb (true && true) = 0 by decide)]
      cases s
      · rw [if_pos (show zb false = 0 from rfl), e146_151, if_neg (fun q2 => by have := hs.mpr q2.2; cases this)]
      · rw [if_neg (show ¬ zb true = 0 by decide), if_pos ((zinb_nI (by omega)).mpr (by omega)), nI_clamp (by omega), zput_ne (show 48 ≠ 56 by omega), h11, nI_1, nI_1, if_pos ⟨hf2, hs.mp rfl⟩]
        rfl
    · have e : (decide (1 ≤ f) && decide (f ≤ 2)) = false := by
        by_cases h1 : 1 ≤ f
        · rw [decide_eq_true h1, decide_eq_false (show ¬ f ≤ 2 by omega)]; rfl
        · rw [decide_eq_false h1]; rfl
      rw [e, if_pos (show zb false = 0 from rfl), e146_151, if_neg (fun q2 => hf2 q2.1)]
  rw [e146_89, h11, hM.1]
  by_cases h : q < n
  · rw [if_pos (nI_lt h (by omega)), if_pos ((zinb_nI (by omega)).mpr (by omega)), nI_clamp (by omega), hM.2 q h]
    have sep : ∀ s, s = wsep d → zden (L + 1) 146 123 [some (.ref 48), some (.int (nI m)), some (.int (nI k)), some (.int (nI v)), some (.int (nI f)), o5] [.int (nI s), .int (nI (X q))] M = if (1 ≤ f ∧ f ≤ 2) ∧ X q = wsep d then zden (L + 1) 146 2 [some (.ref 48), some (.int (nI m)), some (.int (nI (k + 1))), some (.int (nI v)), some (.int (nI f)), some (.int 1)] [] (zput (zput M 56 k (nI v)) 48 11 (nI (q + 1))) else some (some (.int 0), M) := by
      intro s hs
      rw [e146_123, hs]
      by_cases hc : X q = wsep d
      · rw [if_pos (by rw [hc])]
        exact fin true ⟨fun _ => hc, fun _ => rfl⟩
      · rw [if_neg (fun q2 => hc ((nI_eq (by omega) (by omega)).mp q2)), e146_130]
        exact fin false ⟨fun q2 => (by cases q2), fun q2 => absurd q2 hc⟩
    have e1 : nI m - 1 = nI (m - 1) := nI_sub (b := 1) (by omega)
    rw [e1]
    by_cases hd0 : d = 0
    · rw [if_neg (nI_nlt (by omega) (by omega))]
      exact sep 59 (by unfold wsep; rw [if_pos hd0])
    · rw [if_pos (nI_lt (by omega) (by omega))]
      exact sep 44 (by unfold wsep; rw [if_neg hd0])
  · have h0 := hX.2.2 q (by omega)
    rw [if_neg (nI_nlt (by omega) (by omega)), e146_130]
    exact fin false ⟨fun q2 => (by cases q2), fun q2 => by rw [h0] at q2; omega⟩
theorem s146_n {m k d p : Nat} (hX : wTxt n X) (hM : wTm M n X) (hm : m ≤ 3) (hk : k + d + 1 = m) (hp : p ≤ n) (h11 : M 48 11 = nI p) (o5 : Option Value) : match wn1 X p (wsep d) with
    | none => ∃ P, zden (L + 1) 146 12 [some (.ref 48), some (.int (nI m)), some (.int (nI k)), some (.int 0), some (.int 0), o5] [] M = some (some (.int 0), P) ∧ wFm P M ∧ P 50 = M 50
    | some r => ∃ P x3 x4 x5, zden (L + 1) 146 12 [some (.ref 48), some (.int (nI m)), some (.int (nI k)), some (.int 0), some (.int 0), o5] [] M = zden (L + 1) 146 2 [some (.ref 48), some (.int (nI m)), some (.int (nI (k + 1))), x3, x4, x5] [] P ∧ wFm P M ∧ P 50 = M 50 ∧ P 48 11 = nI r.2 ∧ P 56 k = nI r.1 ∧ ∀ j, j ≠ k → P 56 j = M 56 j := by
  have h200 := hX.1
  have hsp := wsep_n d
  have c50 : ∀ (P : zM) (x : Int32), zput P 48 11 x 50 = P 50 := fun P x => zput_ne (by omega)
  have c56 : ∀ (P : zM) (x : Int32), zput P 48 11 x 56 = P 56 := fun P x => zput_ne (by omega)
  have good : ∀ (P : zM) (q v f : Nat), wFm P M → P 50 = M 50 → P 56 = M 56 → wTm P n X → q ≤ n → P 48 11 = nI q → (f = 1 ∨ f = 2) → X q = wsep d → ∃ P' x3 x4 x5, zden (L + 1) 146 89 [some (.ref 48), some (.int (nI m)), some (.int (nI k)), some (.int (nI v)), some (.int (nI f)), o5] [] P = zden (L + 1) 146 2 [some (.ref 48), some (.int (nI m)), some (.int (nI (k + 1))), x3, x4, x5] [] P' ∧ wFm P' M ∧ P' 50 = M 50 ∧ P' 48 11 = nI (q + 1) ∧ P' 56 k = nI v ∧ ∀ j, j ≠ k → P' 56 j = M 56 j := by
    intro P q v f hF h50 h56 hMP hq hq11 hf hs
    refine ⟨zput (zput P 56 k (nI v)) 48 11 (nI (q + 1)), some (.int (nI v)), some (.int (nI f)), some (.int 1), ?_, wFm_t (wFm_at _ _) (wFm_t (wFm_56 P _ _) hF), ?_, zput_at _ _ _ _, ?_, fun j hj => ?_⟩
    · rw [s146_e hX hMP hm hk hq hq11 (by omega), if_pos ⟨by omega, hs⟩]
    · rw [zput_ne (by omega), zput_ne (by omega), h50]
    · rw [zput_ne (show 56 ≠ 48 by omega), zput_at]
    · rw [zput_ne (show 56 ≠ 48 by omega), zput_o _ _ (Or.inr hj), h56]
  have bad : ∀ (P : zM) (q v f : Nat), wFm P M → P 50 = M 50 → wTm P n X → q ≤ n → P 48 11 = nI q → f ≤ 1000 → ¬ ((1 ≤ f ∧ f ≤ 2) ∧ X q = wsep d) → ∃ P', zden (L + 1) 146 89 [some (.ref 48), some (.int (nI m)), some (.int (nI k)), some (.int (nI v)), some (.int (nI f)), o5] [] P = some (some (.int 0), P') ∧ wFm P' M ∧ P' 50 = M 50 := by
    intro P q v f hF h50 hMP hq hq11 hf hs
    refine ⟨P, ?_, hF, h50⟩
    rw [s146_e hX hMP hm hk hq hq11 hf, if_neg hs]
  have st0 := s146_d (L := L) (m := m) (k := k) (v := 0) (f := 0) hX hM hp h11 (by omega) o5
  rw [nI_0] at st0
  have F1 := wFm_at M (nI (p + 1))
  have M1 := wTm_f F1 hM
  by_cases d0 : wdg (X p) = true
  · have dd0 := wdg_iff.mp d0
    have hpn : p < n := by
      by_cases c : n ≤ p
      · have := hX.2.2 p c; omega
      · omega
    rw [if_pos d0, if_pos (by omega)] at st0
    have st1 := s146_d (L := L) (m := m) (k := k) (v := 10 * 0 + (X p - 48)) (f := 0 + 1) hX M1 (show p + 1 ≤ n by omega) (zput_at _ _ _ _) (by omega) o5
    by_cases d1 : wdg (X (p + 1)) = true
    · have dd1 := wdg_iff.mp d1
      have hpn1 : p + 1 < n := by
        by_cases c : n ≤ p + 1
        · have := hX.2.2 (p + 1) c; omega
        · omega
      rw [if_pos d1, if_pos (by omega)] at st1
      have F2 : wFm (zput (zput M 48 11 (nI (p + 1))) 48 11 (nI (p + 1 + 1))) M := wFm_t (wFm_at _ _) F1
      have M2 := wTm_f F2 hM
      have ef : wfg X p = 2 := by unfold wfg; rw [if_pos d0, if_pos d1]
      have en : wnu X p = 10 * (10 * 0 + (X p - 48)) + (X (p + 1) - 48) := by unfold wnu; rw [if_pos d0, if_pos d1]; omega
      by_cases d2 : wdg (X (p + 2)) = true
      · have dd2 := wdg_iff.mp d2
        have hpn2 : p + 2 < n := by
          by_cases c : n ≤ p + 2
          · have := hX.2.2 (p + 2) c; omega
          · omega
        have hno : wn1 X p (wsep d) = none := by
          unfold wn1
          rw [ef, if_neg (by omega), if_neg (by omega)]
        rw [hno]
        dsimp only
        have st2 := s146_d (L := L) (m := m) (k := k) (v := 10 * (10 * 0 + (X p - 48)) + (X (p + 1) - 48)) (f := 0 + 1 + 1) hX M2 (show p + 2 ≤ n by omega) (zput_at _ _ _ _) (by omega) o5
        rw [if_pos d2, if_neg (by omega)] at st2
        obtain ⟨P', q', f', g1, g2, g3, g4, g5, g6, g7⟩ := s146_r (L := L) (m := m) (k := k) (v := 10 * (10 * 0 + (X p - 48)) + (X (p + 1) - 48)) hX o5 (n - (p + 3)) (p + 3) (by omega) (0 + 1 + 1 + 1) _ (wTm_f (wFm_at _ _) M2) (zput_at _ _ _ _) (by omega) (by omega)
        have F3 : wFm P' M := wFm_t g2 (wFm_t (wFm_at _ _) F2)
        rw [st0, st1, st2]
        rw [show zden (L + 1) 146 12 [some (.ref 48), some (.int (nI m)), some (.int (nI k)), some (.int (nI (10 * (10 * 0 + (X p - 48)) + (X (p + 1) - 48)))), some (.int (nI (0 + 1 + 1 + 1))), o5] [] _ = _ from g1]
        exact bad P' q' _ f' F3 (by rw [g7, c50, c50, c50]) (wTm_f F3 hM) g3 g4 (by omega) (by omega)
      · have st2 := s146_d (L := L) (m := m) (k := k) (v := 10 * (10 * 0 + (X p - 48)) + (X (p + 1) - 48)) (f := 0 + 1 + 1) hX M2 (show p + 2 ≤ n by omega) (zput_at _ _ _ _) (by omega) o5
        rw [if_neg d2] at st2
        rw [st0, st1, st2]
        unfold wn1
        rw [ef, if_neg (by omega)]
        by_cases hs : X (p + 2) = wsep d
        · rw [if_pos hs]
          dsimp only
          rw [en]
          exact good _ (p + 2) _ 2 F2 (by rw [c50, c50]) (by rw [c56, c56]) M2 (by omega) (zput_at _ _ _ _) (Or.inr rfl) hs
        · rw [if_neg hs]
          dsimp only
          exact bad _ (p + 2) _ 2 F2 (by rw [c50, c50]) M2 (by omega) (zput_at _ _ _ _) (by omega) (fun q => hs q.2)
    · have ef : wfg X p = 1 := by unfold wfg; rw [if_pos d0, if_neg d1]
      have en : wnu X p = 10 * 0 + (X p - 48) := by unfold wnu; rw [if_pos d0, if_neg d1]; omega
      rw [if_neg d1] at st1
      rw [st0, st1]
      unfold wn1
      rw [ef, if_neg (by omega)]
      by_cases hs : X (p + 1) = wsep d
      · rw [if_pos hs]
        dsimp only
        rw [en]
        exact good _ (p + 1) _ 1 F1 (c50 _ _) (c56 _ _) M1 (by omega) (zput_at _ _ _ _) (Or.inl rfl) hs
      · rw [if_neg hs]
        dsimp only
        exact bad _ (p + 1) _ 1 F1 (c50 _ _) M1 (by omega) (zput_at _ _ _ _) (by omega) (fun q => hs q.2)
  · have ef : wfg X p = 0 := by unfold wfg; rw [if_neg d0]
    rw [if_neg d0] at st0
    rw [st0]
    unfold wn1
    rw [ef, if_pos rfl]
    dsimp only
    have := bad M p 0 0 (wFm_r M) rfl hM hp h11 (by omega) (by omega)
    rw [nI_0] at this
    exact this
end KP
