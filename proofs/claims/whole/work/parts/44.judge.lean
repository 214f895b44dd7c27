/-- the first of the row that can not be -/
def wjd (t r : Nat → Nat) : Nat → Nat → (Nat → Nat) → Int32
  | 0, _, _ => -4
  | d + 1, k, n => if wmC t n (r k) = true then wjd t r d (k + 1) (wmo t n (r k)) else nI k
section KJ
variable {L : Nat} {ro M : zM} {t : Nat → Nat}
theorem s114_l {r : Nat → Nat} {q : Nat} (hb : zTb t) (hc : zTc M 1 t) (hk : zRo M) (hq : q ≤ 20) (h15 : M 0 15 = nI q) (hr : ∀ j, j < q → r j ≤ 3 ∧ M 47 j = nI (r j)) : ∀ d k, d + k = q → ∀ (P : zM) (n : Nat → Nat), (∀ i, i ≠ 41 → P i = M i) → wRw (P 41) n → wOk t n → ∃ P', zden (L + 1) 114 13 [some (.ref 0), some (.int (nI k))] [] P = some (some (.int (wjd t r d k n)), P') ∧ ∀ i, i ≠ 41 → P' i = M i := by
  intro d
  induction d with
  | zero =>
    intro k hd P n hP h41 ho
    have : k = q := by omega
    subst this
    rw [e114_13, hP 0 (by decide), h15, if_neg (nI_nlt (by omega) (by omega))]
    exact ⟨P, rfl, hP⟩
  | succ d ih =>
    intro k hd P n hP h41 ho
    obtain ⟨P2, g1, g2, g3⟩ := s77 (L := L) (M := P) (m := r k) hb (zTc_41 hc hP (by omega)) (zRo_of hk (fun i hi => hP i (zn62 hi (by omega)))) h41 ho (hr k (by omega)).1
    rw [e114_13, hP 0 (by decide), h15, if_pos (nI_lt (by omega) (by omega)), s4_47, zbI_some, zrd_nI (by omega), if_pos (by omega), hP 47 (by decide), (hr k (by omega)).2, g1, zbI_some]
    have hP2 : ∀ i, i ≠ 41 → P2 i = M i := fun i hi => by rw [g2 i hi, hP i hi]
    unfold wjd
    cases hw : wmC t n (r k) with
    | false =>
      rw [if_pos (show zb false = 0 from rfl), if_neg (by decide)]
      exact ⟨P2, rfl, hP2⟩
    | true =>
      rw [if_neg (show ¬ zb true = 0 by decide), if_pos rfl, nI_1]
      exact ih (k + 1) (by omega) P2 _ hP2 (g3 hw) (wmo_ok hb ho hw)
theorem s188_l {r : Nat → Nat} {q : Nat} (hb : zTb t) (hm : zTm M 49 t) (hq : q ≤ 20) (h8 : M 48 8 = nI q) (hr : ∀ j, j < q → r j ≤ 3 ∧ M 54 j = nI (r j)) : ∀ d k, d + k = q → ∀ (P : zM) (n : Nat → Nat) (o : Option Value), (∀ i, i ≠ 57 → P i = M i) → wRw (P 57) n → wOk t n → ∃ P', zden (L + 1) 188 16 [some (.ref 48), some (.int (nI k)), o] [] P = some (some (.int (wjd t r d k n)), P') ∧ ∀ i, i ≠ 57 → P' i = M i := by
  intro d
  induction d with
  | zero =>
    intro k hd P n o hP h57 ho
    have : k = q := by omega
    subst this
    rw [e188_16, hP 48 (by decide), h8, if_neg (nI_nlt (by omega) (by omega))]
    exact ⟨P, rfl, hP⟩
  | succ d ih =>
    intro k hd P n o hP h57 ho
    have hrk := hr k (by omega)
    rw [e188_16, hP 48 (by decide), h8, if_pos (nI_lt (by omega) (by omega)), if_pos ((zinb_nI (by omega)).mpr (by omega)), nI_clamp (by omega), hP 54 (by decide), hrk.2]
    have hT : zTm P 49 t := zTm_c hm (hP 49 (by decide))
    have hend : ∀ (P2 : zM), (∀ i, i ≠ 57 → P2 i = P i) → (wmC t n (r k) = true → wRw (P2 57) (wmo t n (r k))) → ∃ P', zden (L + 1) 188 59 [some (.ref 48), some (.int (nI k)), o] [.int (zb (wmC t n (r k)))] P2 = some (some (.int (wjd t r (d + 1) k n)), P') ∧ ∀ i, i ≠ 57 → P' i = M i := by
      intro P2 a1 a2
      have hP2 : ∀ i, i ≠ 57 → P2 i = M i := fun i hi => by rw [a1 i hi, hP i hi]
      rw [e188_59]
      unfold wjd
      cases hw : wmC t n (r k) with
      | false =>
        rw [if_pos (show zb false = 0 from rfl), if_neg (by decide)]
        exact ⟨P2, rfl, hP2⟩
      | true =>
        rw [if_neg (show ¬ zb true = 0 by decide), if_pos rfl, nI_1]
        exact ih (k + 1) (by omega) P2 _ _ hP2 (a2 hw) (wmo_ok hb ho hw)
    by_cases h3 : r k = 3
    · obtain ⟨P2, g1, g2, g3⟩ := s182 (L := L) (M := P) hb hT h57 ho
      have e1 : wmC t n (r k) = decide (n 2 < t 11) := if_pos h3
      have e2 : wmo t n (r k) = wrs t n := if_pos h3
      rw [if_pos (show nI (r k) = 3 by rw [h3]; rfl), g1, zbI_some, ← e1]
      exact hend P2 g2 (fun q => by rw [e2]; exact g3 (by rw [e1] at q; simpa using q))
    · obtain ⟨P2, g1, g2, g3⟩ := s179 (L := L) (M := P) (m := r k) hb hT h57 ho (by omega)
      have e1 : wmC t n (r k) = wgC t n (r k) := if_neg h3
      have e2 : wmo t n (r k) = wgo t n (r k) := if_neg h3
      rw [if_neg (show ¬ nI (r k) = 3 from fun q => h3 ((nI_eq (b := 3) (by omega) (by omega)).mp q)), g1, zbI_some, if_pos ((zinb_nI (by omega)).mpr (by omega)), ← e1]
      exact hend P2 g2 (fun q => by rw [e2]; exact g3 (by rw [← e1]; exact q))
theorem k_judge (hk : zRo ro) (hR : zRel M) (hro : ∀ i, zNW ≤ i → M i = ro i) : zSame L ro 114 188 [some (.ref 0), none] [some (.ref 48), none, none] M := by
  obtain ⟨t, hb, hc, hm, htx, hnw, hfx, hps, htd, hkp⟩ := id hR
  obtain ⟨n, hr, ho⟩ := wst_of hnw.1
  obtain ⟨q, hq, t1, t2, t3⟩ := htd
  have hkm := zRo_of hk hro
  have hex : ∃ r : Nat → Nat, ∀ j, j < q → r j ≤ 3 ∧ M 47 j = nI (r j) ∧ M 54 j = nI (r j) := by
    refine ⟨fun j => if h : j < q then Classical.choose (t3 j h) else 0, fun j hj => ?_⟩
    simp only [dif_pos hj]
    exact Classical.choose_spec (t3 j hj)
  obtain ⟨r, hrr⟩ := hex
  obtain ⟨M1, g1, g2⟩ := s114_l (L := L) hb hc hkm hq t1 (fun j hj => ⟨(hrr j hj).1, (hrr j hj).2.1⟩) q 0 (by omega) (zcp2 M 40 0 41 0 6) n (fun i hi => zcp2_row M hi) (fun j hj => by rw [zcp2_in M (by omega) (by omega), Nat.zero_add, Nat.sub_zero, hnw.2 j hj]; exact hr j hj) ho
  have h54 : M1 54 = M 54 := g2 54 (by decide)
  obtain ⟨M2, f1, f2⟩ := s188_l (L := L) (M := M1) hb (zTm_c hm (g2 49 (by decide))) hq (by rw [g2 48 (by decide)]; exact t2) (fun j hj => ⟨(hrr j hj).1, by rw [h54]; exact (hrr j hj).2.2⟩) q 0 (by omega) (zcp2 M1 52 0 57 0 6) n none (fun i hi => zcp2_row M1 hi) (fun j hj => by rw [zcp2_in M1 (by omega) (by omega), Nat.zero_add, Nat.sub_zero, g2 52 (by decide)]; exact hr j hj) ho
  refine ⟨wjd t r q 0 n, M1, M2, ?_, ?_, zRel_s hR (fun i h1 h2 => ?_) (fun j hj => ?_), fun i hi => ?_⟩
  · rw [e114_0, s31_40_41, zbV_some]; exact g1
  · rw [e188_0, show (0 : Int32) = nI 0 from rfl, s177_48_52_57 L (i := 0) (j := 0) (by omega) (by omega), zbV_some]; exact f1
  · have a : i ≠ 57 := fun q => by rw [q] at h1; exact absurd h1 (by decide)
    have b : i ≠ 41 := fun q => by rw [q] at h1; exact absurd h1 (by decide)
    rw [f2 i a, g2 i b]
  · rw [f2 48 (by decide), g2 48 (by decide)]
  · rw [f2 i (zn62 hi (by omega)), g2 i (zn62 hi (by omega)), hro i hi]
end KJ
