section KZ
variable {L : Nat} {ro M : zM} {t : Nat → Nat}
theorem s195_f {v a i : Int32} {x5 x6 : Option Value} : ∀ d k, d + k = 72100 → zden (L + 1) 195 141 [some (.ref 48), some (.int v), some (.int a), some (.int i), some (.int (nI k)), x5, x6] [] (zfl M 60 k 1000000) = zden (L + 1) 195 166 [some (.ref 48), some (.int v), some (.int a), some (.int i), some (.int 0), x5, x6] [] (zfl M 60 72100 1000000) := by
  intro d
  induction d with
  | zero =>
    intro k hd
    have e : k = 72100 := by omega
    subst e
    rw [e195_141, if_neg (by decide)]
  | succ d ih =>
    intro k hd
    rw [e195_141, if_pos (show nI k < 72100 from nI_lt (b := 72100) (by omega) (by omega)), if_pos ((zinb_nI (by omega)).mpr (by omega)), nI_clamp (by omega), zfl_s, nI_1]
    exact ih (k + 1) (by omega)
theorem s195_c {v a i : Int32} {x5 x6 : Option Value} : ∀ d k, d + k = 72100 → zden (L + 1) 195 194 [some (.ref 48), some (.int v), some (.int a), some (.int i), some (.int (nI k)), x5, x6] [] (zcp2 M 60 0 59 0 k) = zden (L + 1) 195 43 [some (.ref 48), some (.int v), some (.int a), some (.int (i + 1)), some (.int (nI 72100)), x5, x6] [] (zcp2 M 60 0 59 0 72100) := by
  intro d
  induction d with
  | zero =>
    intro k hd
    have e : k = 72100 := by omega
    subst e
    rw [e195_194, if_neg (by decide)]
  | succ d ih =>
    intro k hd
    have hs := zcp2_s M (a := 60) (i := 0) (b := 59) (j := 0) (n := k) (by omega)
    rw [Nat.zero_add] at hs
    rw [e195_194, if_pos (show nI k < 72100 from nI_lt (b := 72100) (by omega) (by omega)), if_pos ((zinb_nI (by omega)).mpr (by omega)), if_pos ((zinb_nI (by omega)).mpr (by omega)), nI_clamp (by omega), zcp2_a M (by omega), hs, nI_1]
    exact ih (k + 1) (by omega)
theorem s195_e {G : Nat → Nat → Nat} (hG : ∀ k b, G k b ≤ 1000000) (hH : wH (M 59) G) (o1 o5 o6 : Option Value) : ∀ d k, d + k = 72100 → ∀ o2, zden (L + 1) 195 233 [some (.ref 48), o1, o2, some (.int (nI (wmn (fun j => G (j / 721) (j % 721)) k))), some (.int (nI k)), o5, o6] [] M = some (some (.int (if wmn (fun j => G (j / 721) (j % 721)) 72100 = 1000000 then -4 else nI (wmn (fun j => G (j / 721) (j % 721)) 72100))), M) := by
  intro d
  induction d with
  | zero =>
    intro k hd o2
    have e : k = 72100 := by omega
    subst e
    have ht := wmn_top (fun j => G (j / 721) (j % 721)) 72100
    rw [e195_233, if_neg (by decide)]
    by_cases h : wmn (fun j => G (j / 721) (j % 721)) 72100 = 1000000
    · rw [if_pos (show nI (wmn (fun j => G (j / 721) (j % 721)) 72100) = 1000000 by rw [h]; rfl), e195_281, if_pos h]
    · rw [if_neg (show ¬ nI (wmn (fun j => G (j / 721) (j % 721)) 72100) = 1000000 from fun q => h ((nI_eq (b := 1000000) (by omega) (by omega)).mp q)), e195_281, if_neg h]
  | succ d ih =>
    intro k hd o2
    have hv : M 59 k = nI (G (k / 721) (k % 721)) := by
      have := hH (k / 721) (k % 721) (by omega) (Nat.mod_lt _ (by omega))
      rw [Nat.div_add_mod] at this
      exact this
    have ht := wmn_top (fun j => G (j / 721) (j % 721)) k
    have hg := hG (k / 721) (k % 721)
    have hn : wmn (fun j => G (j / 721) (j % 721)) (k + 1) = min (wmn (fun j => G (j / 721) (j % 721)) k) (G (k / 721) (k % 721)) := rfl
    have g := ih (k + 1) (by omega)
    rw [hn] at g
    rw [e195_233, if_pos (show nI k < 72100 from nI_lt (b := 72100) (by omega) (by omega)), if_pos ((zinb_nI (by omega)).mpr (by omega)), nI_clamp (by omega), hv]
    by_cases h : G (k / 721) (k % 721) < wmn (fun j => G (j / 721) (j % 721)) k
    · rw [if_pos (nI_lt h (by omega)), if_pos ((zinb_nI (by omega)).mpr (by omega)), e195_262, nI_1]
      rw [Nat.min_eq_right (by omega)] at g
      exact g _
    · rw [if_neg (nI_nlt (by omega) (by omega)), e195_262, nI_1]
      rw [Nat.min_eq_left (by omega)] at g
      exact g _
theorem s195_m {i : Nat} {v : Int32} {G : Nat → Nat → Nat} (hb : zTb t) (hm : zTm M 49 t) (hi : i < t 0) (hG : ∀ k b, G k b ≤ 1000000) (h59 : wH (M 59) (wRR t i G)) (x5 x6 : Option Value) : ∃ P, zden (L + 1) 195 141 [some (.ref 48), some (.int v), some (.int (nI (t 11))), some (.int (nI i)), some (.int 0), x5, x6] [] M = zden (L + 1) 195 43 [some (.ref 48), some (.int v), some (.int (nI (t 11))), some (.int (nI (i + 1))), some (.int (nI 72100)), x5, x6] [] P ∧ (∀ x, x ≠ 59 → x ≠ 60 → P x = M x) ∧ wH (P 59) (wNx t v i G) := by
  have st : ∀ (m : Nat) (P : zM) (T : Nat → Nat → Nat), m < 3 → (∀ x, x ≠ 60 → P x = M x) → (∀ k b, T k b ≤ 1000000) → wH (P 60) T → ∃ P', zden (L + 1) 195 166 [some (.ref 48), some (.int v), some (.int (nI (t 11))), some (.int (nI i)), some (.int (nI m)), x5, x6] [] P = zden (L + 1) 195 166 [some (.ref 48), some (.int v), some (.int (nI (t 11))), some (.int (nI i)), some (.int (nI (m + 1))), x5, x6] [] P' ∧ (∀ x, x ≠ 60 → P' x = M x) ∧ wH (P' 60) (fun p q => min (T p q) (wcM t v i G m p q)) := by
    intro m P T hm3 hP hT hH
    have hmP : zTm P 49 t := zTm_c hm (hP 49 (by omega))
    have h59' : wH (P 59) (wRR t i G) := by rw [hP 59 (by omega)]; exact h59
    obtain ⟨P', g1, g2, g3⟩ := s194 (L := L) (v := v) hb hmP hi hm3 hG hT h59' hH
    refine ⟨P', ?_, fun x hx => by rw [g2 x hx, hP x hx], g3⟩
    rw [e195_166, if_pos (show nI m < 3 from nI_lt (b := 3) hm3 (by omega)), s178 v hmP hi, zbI_some, g1, zbV_some, nI_1]
  obtain ⟨P0, a1, a2, a3⟩ := st 0 (zfl M 60 72100 1000000) (fun _ _ => 1000000) (by omega) (fun x hx => zfl_row M hx) (fun _ _ => Nat.le_refl _) (fun k b hk hb2 => by rw [zfl_in _ (by omega)]; rfl)
  obtain ⟨P1, b1, b2, b3⟩ := st 1 P0 _ (by omega) a2 (fun k b => Nat.le_trans (Nat.min_le_left _ _) (Nat.le_refl _)) a3
  obtain ⟨P2, c1, c2, c3⟩ := st 2 P1 _ (by omega) b2 (fun k b => Nat.le_trans (Nat.min_le_left _ _) (Nat.min_le_left _ _)) b3
  refine ⟨zcp2 P2 60 0 59 0 72100, ?_, fun x h1 h2 => by rw [zcp2_row P2 h1, c2 x h2], fun k b hk hb2 => ?_⟩
  · have f := s195_f (L := L) (M := M) (v := v) (a := nI (t 11)) (i := nI i) (x5 := x5) (x6 := x6) 72100 0 (by omega)
    rw [zfl_0, nI_0] at f
    have g := s195_c (L := L) (M := P2) (v := v) (a := nI (t 11)) (i := nI i) (x5 := x5) (x6 := x6) 72100 0 (by omega)
    rw [zcp2_0, nI_0] at g
    rw [nI_0] at a1
    rw [f, a1, b1, c1, e195_166, if_neg (by decide), g, nI_1]
  · rw [zcp2_in P2 (by omega) (by omega), show 0 + (721 * k + b - 0) = 721 * k + b by omega, c3 k b hk hb2]
    rfl
theorem s195_i {v : Int32} (hb : zTb t) (hm : zTm M 49 t) : ∀ d i, d + i = t 0 → ∀ (P : zM) (o4 o5 o6 : Option Value), (∀ x, x ≠ 59 → x ≠ 60 → P x = M x) → wH (P 59) (wG t v i) → ∃ P', zden (L + 1) 195 43 [some (.ref 48), some (.int v), some (.int (nI (t 11))), some (.int (nI i)), o4, o5, o6] [] P = some (some (.int (if wAs t v = 1000000 then -4 else nI (wAs t v))), P') ∧ ∀ x, x ≠ 59 → x ≠ 60 → P' x = M x := by
  have h12 : t 0 ≤ 12 := hb.1.2.1
  have hst := wSt hb
  intro d
  induction d with
  | zero =>
    intro i hd P o4 o5 o6 hP hH
    have e : i = t 0 := by omega
    subst e
    refine ⟨P, ?_, hP⟩
    have g := s195_e (L := L) (wG_top t v (t 0)) hH (some (.int v)) o5 o6 72100 0 (by omega) (some (.int (nI (t 11))))
    rw [nI_0] at g
    rw [e195_43, zTm_60 hm hP 0 (by omega), if_neg (nI_nlt (by omega) (by omega))]
    exact g
  | succ d ih =>
    intro i hd P o4 o5 o6 hP hH
    have hmP := zTm_60 hm hP
    have hG := wG_top t v i
    have key : ∃ P1 x5 x6, zden (L + 1) 195 56 [some (.ref 48), some (.int v), some (.int (nI (t 11))), some (.int (nI i)), some (.int 0), o5, o6] [] P = zden (L + 1) 195 141 [some (.ref 48), some (.int v), some (.int (nI (t 11))), some (.int (nI i)), some (.int 0), x5, x6] [] P1 ∧ (∀ x, x ≠ 59 → P1 x = P x) ∧ wH (P1 59) (wRR t i (wG t v i)) := by
      by_cases hi0 : 0 < i
      · have := s195_r (L := L) (v := v) hb hmP hi0 (by omega) hG (721 * t 11) 0 (by omega) P o5 o6 (fun x _ => rfl) (wH_c hH fun k b hk hb2 => by
          unfold wRp
          rw [show (0 + 720 - b) / 721 = 0 by omega]
          by_cases c : k = t 11
          · have := hG (t 11) b
            rw [if_pos c, c]
            show _ = min (wG t v i (t 11) b) (1000000 + t 12)
            omega
          · rw [if_neg c])
        rw [nI_0] at this
        exact this
      · have e : i = 0 := by omega
        subst e
        refine ⟨P, o5, o6, ?_, fun x _ => rfl, wH_c hH fun k b hk hb2 => by unfold wRR; rw [if_neg (fun q => by omega)]⟩
        rw [e195_56, show (721 : Int32) = nI 721 from rfl, nI_mul, if_pos (show (0 : Int32) < nI (721 * t 11) from nI_lt (a := 0) (by omega) (by omega)), if_neg (by decide), e195_138]
    obtain ⟨P1, x5, x6, a1, a2, a3⟩ := key
    have hm1 : zTm P1 49 t := zTm_c hmP (a2 49 (by omega))
    obtain ⟨P2, b1, b2, b3⟩ := s195_m (L := L) (v := v) hb hm1 (by omega) hG a3 x5 x6
    obtain ⟨P3, c1, c2⟩ := ih (i + 1) (by omega) P2 (some (.int (nI 72100))) x5 x6 (fun x h1 h2 => by rw [b2 x h1 h2, a2 x h1, hP x h1 h2]) b3
    refine ⟨P3, ?_, c2⟩
    rw [e195_43, hmP 0 (by omega), if_pos (nI_lt (by omega) (by omega)), a1, b1, c1]
theorem s195_z {v : Int32} (hb : zTb t) (hm : zTm M 49 t) : ∀ d k, d + k = 72100 → ∃ P', zden (L + 1) 195 10 [some (.ref 48), some (.int v), some (.int (nI (t 11))), some (.int (nI k)), none, none, none] [] (zfl M 59 k 1000000) = some (some (.int (if wAs t v = 1000000 then -4 else nI (wAs t v))), P') ∧ ∀ x, x ≠ 59 → x ≠ 60 → P' x = M x := by
  have hst := wSt hb
  intro d
  induction d with
  | zero =>
    intro k hd
    have e : k = 72100 := by omega
    subst e
    obtain ⟨P', g1, g2⟩ := s195_i (L := L) (v := v) hb hm (t 0) 0 (by omega) (zput (zfl M 59 72100 1000000) 59 (721 * t 11) 0) none none none (fun x h1 h2 => by rw [zput_ne h1, zfl_row M h1]) (fun p q hp hq => by
      show zput (zfl M 59 72100 1000000) 59 (721 * t 11) 0 59 (721 * p + q) = nI (if p = t 11 ∧ q = 0 then 0 else 1000000)
      by_cases e : p = t 11 ∧ q = 0
      · rw [if_pos e, e.1, e.2, Nat.add_zero, zput_at]; rfl
      · rw [if_neg e, zput_o _ _ (Or.inr (by omega)), zfl_in _ (by omega)]; rfl)
    refine ⟨P', ?_, g2⟩
    rw [e195_10, if_neg (by decide), show (721 : Int32) = nI 721 from rfl, nI_mul, if_pos ((zinb_nI (by omega)).mpr (by omega)), nI_clamp (by omega)]
    exact g1
  | succ d ih =>
    intro k hd
    obtain ⟨P', g1, g2⟩ := ih (k + 1) (by omega)
    refine ⟨P', ?_, g2⟩
    rw [e195_10, if_pos (show nI k < 72100 from nI_lt (b := 72100) (by omega) (by omega)), if_pos ((zinb_nI (by omega)).mpr (by omega)), nI_clamp (by omega), zfl_s, nI_1]
    exact g1
theorem s195 {v : Int32} (hb : zTb t) (hm : zTm M 49 t) : ∃ P', zden (L + 1) 195 0 [some (.ref 48), some (.int v), none, none, none, none, none] [] M = some (some (.int (if wAs t v = 1000000 then -4 else nI (wAs t v))), P') ∧ ∀ x, x ≠ 59 → x ≠ 60 → P' x = M x := by
  obtain ⟨P', g1, g2⟩ := s195_z (L := L) (v := v) hb hm 72100 0 (by omega)
  rw [zfl_0, nI_0] at g1
  refine ⟨P', ?_, g2⟩
  rw [e195_0, hm 11 (by omega)]
  exact g1
end KZ
