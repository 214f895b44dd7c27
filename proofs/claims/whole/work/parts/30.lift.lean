theorem zNw_t {M : zM} {t t' : Nat → Nat} (h0 : t' 0 = t 0) (h1 : t' 11 = t 11) (h : zNw t M) : zNw t' M := ⟨zStAt_t h0 h1 h.1, h.2⟩
theorem zPs_t {M : zM} {t t' : Nat → Nat} (h0 : t' 0 = t 0) (h1 : t' 11 = t 11) (h : zPs t M) : zPs t' M := by
  obtain ⟨n, g1, g2, g3, g4, g5⟩ := h
  exact ⟨n, g1, g2, g3, fun i hi => zStAt_t h0 h1 (g4 i hi), g5⟩
theorem zKp_t {M : zM} {t t' : Nat → Nat} (h0 : t' 0 = t 0) (h1 : t' 11 = t 11) (h2 : t' 2 = t 2) (h : zKp t M) : zKp t' M := by
  obtain ⟨n, g1, g2, g3, g4, g5⟩ := h
  refine ⟨n, g1, g2, g3, fun i hi => ?_, g5⟩
  obtain ⟨q1, b, f, q2, q3, q4, q5⟩ := g4 i hi
  exact ⟨zStAt_t h0 h1 q1, b, f, q2, q3, by rw [h2]; exact q4, by rw [h2]; exact q5⟩
/-- a town with other bags and lifts -/
def zmod (t : Nat → Nat) (b : Nat) (f : Nat → Nat) : Nat → Nat := fun k => if k = 7 then b else if 79 ≤ k ∧ k < 79 + t 2 then f (k - 79) else t k
theorem zmod_7 (t : Nat → Nat) (b : Nat) (f : Nat → Nat) : zmod t b f 7 = b := by simp [zmod]
theorem zmod_o {t : Nat → Nat} {b : Nat} {f : Nat → Nat} {k : Nat} (h7 : k ≠ 7) (h : k < 79 ∨ 86 ≤ k) (h2 : t 2 ≤ 7) : zmod t b f k = t k := by
  unfold zmod
  rw [if_neg h7, if_neg (by omega)]
theorem zmod_l {t : Nat → Nat} {b : Nat} {f : Nat → Nat} {q : Nat} (h : q < t 2) : zmod t b f (79 + q) = f q := by
  unfold zmod
  rw [if_neg (by omega), if_pos (by omega)]
  congr 1
  omega
theorem zbits_congr {f g : Nat → Nat} : ∀ {n : Nat}, (∀ q, q < n → f q = g q) → zbits f n = zbits g n
  | 0, _ => rfl
  | n + 1, h => by
    unfold zbits
    rw [zbits_congr (n := n) (fun q hq => h q (by omega)), h n (by omega)]
theorem zmod_b {t : Nat → Nat} {b : Nat} {f : Nat → Nat} (hb : zTb t) (h40 : b ≤ 40) (hf : ∀ q, q < t 2 → f q ≤ 1) : zTb (zmod t b f) := by
  obtain ⟨g1, g2, g3, g4, g5, g6, g7⟩ := hb
  have h7 : t 2 ≤ 7 := g1.2.2.2.1
  have o : ∀ k, k ≠ 7 → (k < 79 ∨ 86 ≤ k) → zmod t b f k = t k := fun k q1 q2 => zmod_o q1 q2 h7
  unfold zTb
  rw [zmod_7, o 0 (by omega) (by omega), o 1 (by omega) (by omega), o 2 (by omega) (by omega), o 3 (by omega) (by omega), o 4 (by omega) (by omega), o 5 (by omega) (by omega), o 6 (by omega) (by omega), o 8 (by omega) (by omega), o 9 (by omega) (by omega), o 10 (by omega) (by omega), o 11 (by omega) (by omega), o 12 (by omega) (by omega), o 13 (by omega) (by omega), o 14 (by omega) (by omega), o 15 (by omega) (by omega)]
  refine ⟨g1, by omega, fun s hs => ?_, fun h hh => ?_, fun h hh => ?_, fun q hq => ?_, fun e he => ?_⟩
  · rw [o _ (by omega) (by omega), o _ (by omega) (by omega)]; exact g3 s hs
  · rw [o _ (by omega) (by omega), o _ (by omega) (by omega)]; exact g4 h hh
  · rw [o _ (by omega) (by omega)]; exact g5 h hh
  · rw [o _ (by omega) (by omega), zmod_l hq]; exact ⟨(g6 q hq).1, hf q hq⟩
  · rw [o _ (by omega) (by omega), o _ (by omega) (by omega), o _ (by omega) (by omega)]; exact g7 e he
theorem zmod_c {M M' : zM} {t : Nat → Nat} {b : Nat} {f : Nat → Nat} (hb : zTb t) (hc : zTc M 1 t) (h1 : ∀ k, k ≠ 14 → M' 1 k = M 1 k) (h14 : M' 1 14 = nI (zbits f (t 2))) (h4 : ∀ k, k ≠ 3 → M' 4 k = M 4 k) (h43 : M' 4 3 = nI b) (ho : ∀ i, 2 ≤ i → i ≤ 11 → i ≠ 4 → M' i = M i) : zTc M' 1 (zmod t b f) := by
  obtain ⟨g1, g2, g3, g4, g5, g6, g7⟩ := hc
  obtain ⟨b1, b2, b3, b4, b5, b6, b7⟩ := hb
  have h7 : t 2 ≤ 7 := b1.2.2.2.1
  have o : ∀ k, k ≠ 7 → (k < 79 ∨ 86 ≤ k) → zmod t b f k = t k := fun k q1 q2 => zmod_o q1 q2 h7
  unfold zTc
  rw [o 0 (by omega) (by omega), o 1 (by omega) (by omega), o 2 (by omega) (by omega), o 3 (by omega) (by omega), h1 2 (by omega), h1 6 (by omega), h1 9 (by omega), h1 13 (by omega), h14, zbits_congr (f := fun q => zmod t b f (79 + q)) (g := f) (fun q hq => zmod_l hq)]
  refine ⟨⟨g1.1, g1.2.1, g1.2.2.1, g1.2.2.2.1, rfl⟩, fun k hk => ?_, fun s hs => ?_, fun h hh => ?_, fun h hh => ?_, fun q hq => ?_, fun e he => ?_⟩
  · show M' 4 k = _
    by_cases k3 : k = 3
    · subst k3
      rw [show 4 + 3 = 7 by omega, zmod_7]; exact h43
    · rw [h4 k k3, o _ (by omega) (by omega)]; exact g2 k hk
  · rw [o _ (by omega) (by omega), o _ (by omega) (by omega), ho (1 + 1) (by omega) (by omega) (by omega), ho (1 + 2) (by omega) (by omega) (by omega)]; exact g3 s hs
  · rw [o _ (by omega) (by omega), o _ (by omega) (by omega), ho (1 + 4) (by omega) (by omega) (by omega), ho (1 + 5) (by omega) (by omega) (by omega)]; exact g4 h hh
  · rw [o _ (by omega) (by omega), ho (1 + 6) (by omega) (by omega) (by omega)]; exact g5 h hh
  · rw [o _ (by omega) (by omega), ho (1 + 7) (by omega) (by omega) (by omega)]; exact g6 q hq
  · rw [o _ (by omega) (by omega), o _ (by omega) (by omega), o _ (by omega) (by omega), ho (1 + 8) (by omega) (by omega) (by omega), ho (1 + 9) (by omega) (by omega) (by omega), ho (1 + 10) (by omega) (by omega) (by omega)]; exact g7 e he
section KT
variable {L : Nat} {ro M : zM}
theorem k_lift (v w : Int32) (hR : zRel M) (hro : ∀ i, zNW ≤ i → M i = ro i) : zSame L ro 135 224 [some (.ref 0), some (.int v), some (.int w), none] [some (.ref 48), some (.int v), some (.int w)] M := by
  obtain ⟨t, hb, hc, hm, htx, hnw, hfx, hps, htd, hkp⟩ := id hR
  have e1 : M 1 9 = nI (t 2) := hc.1.2.2.1
  have e2 : M 49 2 = nI (t 2) := hm 2 (by omega)
  have e14 := hc.1.2.2.2.2
  have h7 : t 2 ≤ 7 := hb.1.2.2.2.1
  rcases zrng_cases v 0 (nI (t 2) - 1) with hs | hs
  · obtain ⟨q, hq, rfl⟩ := zrng_cnt (by omega) hs
    obtain ⟨b, hb1, eb⟩ : ∃ b : Nat, b ≤ 1 ∧ (if w = 0 then (0 : Int32) else 1) = nI b := by
      by_cases h : w = 0
      · exact ⟨0, by omega, by rw [if_pos h]; rfl⟩
      · exact ⟨1, by omega, by rw [if_neg h]; rfl⟩
    obtain ⟨f, hf⟩ : ∃ f : Nat → Nat, f = fun k => if k = q then b else t (79 + k) := ⟨_, rfl⟩
    have hf1 : ∀ k, k < t 2 → f k ≤ 1 := by
      intro k hk
      rw [hf]
      dsimp only
      by_cases h : k = q
      · rw [if_pos h]; exact hb1
      · rw [if_neg h]; exact (hb.2.2.2.2.2.1 k hk).2
    have hB := zbits_128 hb
    have hbit := zbits_get (f := fun q => t (79 + q)) (n := t 2) (fun q hq => (hb.2.2.2.2.2.1 q hq).2) q hq
    have hup := (zbits_upd (f := fun q => t (79 + q)) (q := q) (b := b) (n := t 2)).2 hq
    rw [← hf] at hup
    have hle := (hb.2.2.2.2.2.1 q hq).2
    have hlt : zbits f (t 2) < 128 := by
      have := zbits_lt hf1
      have : 2 ^ t 2 ≤ 2 ^ 7 := Nat.pow_le_pow_right (by omega) h7
      omega
    have hcomp : (if w = 0 then (nI (zbits (fun q => t (79 + q)) (t 2)) &&& ((1 <<< (nI q &&& 31)) ^^^ (-1))) else (nI (zbits (fun q => t (79 + q)) (t 2)) ||| (1 <<< (nI q &&& 31)))) = nI (zbits f (t 2)) := by
      by_cases h : w = 0
      · rw [if_pos h] at eb ⊢
        have b0 : b = 0 := by
          have := (nI_eq (a := 0) (b := b) (by omega) (by omega)).mp eb
          omega
        have := zclr_all ⟨zbits (fun q => t (79 + q)) (t 2), hB⟩ ⟨q, by omega⟩
        dsimp only at this
        rw [this, hbit]
        congr 1
        rw [b0] at hup
        omega
      · rw [if_neg h] at eb ⊢
        have b1 : b = 1 := by
          have := (nI_eq (a := 1) (b := b) (by omega) (by omega)).mp eb
          omega
        have := zset_all ⟨zbits (fun q => t (79 + q)) (t 2), hB⟩ ⟨q, by omega⟩
        dsimp only at this
        rw [this, hbit]
        congr 1
        rw [b1] at hup
        rcases Nat.le_one_iff_eq_zero_or_eq_one.mp hle with h9 | h9
        · rw [h9] at hup ⊢; omega
        · rw [h9] at hup ⊢; omega
    have tb := zmod_b (b := t 7) (f := f) hb hb.2.1.2.2.2.2.2.2.1 hf1
    have hm1 : zTm (zput (zput M 1 14 (nI (zbits f (t 2)))) 49 (79 + q) (nI b)) 49 (zmod t (t 7) f) := by
      intro j hj
      by_cases jq : j = 79 + q
      · subst jq
        rw [zput_at, zmod_l hq, hf]
        simp
      · rw [zput_o _ _ (Or.inr jq), zput_o _ _ (Or.inl (by decide)), hm j hj]
        congr 1
        unfold zmod
        by_cases j7 : j = 7
        · rw [if_pos j7, j7]
        · rw [if_neg j7]
          by_cases jl : 79 ≤ j ∧ j < 79 + t 2
          · rw [if_pos jl, hf]
            dsimp only
            rw [if_neg (by omega)]
            congr 1
            omega
          · rw [if_neg jl]
    have e2' : zmod t (t 7) f 2 = t 2 := zmod_o (by omega) (by omega) h7
    have hz : zbits (fun q => zmod t (t 7) f (79 + q)) (t 2) = zbits f (t 2) := zbits_congr (fun q hq => zmod_l hq)
    refine ⟨nI (zpc (zbits f (t 2))), zput M 1 14 (nI (zbits f (t 2))), zput (zput M 1 14 (nI (zbits f (t 2)))) 49 (79 + q) (nI b), ?_, ?_, ⟨zmod t (t 7) f, tb, ?_, hm1, zTx_c htx (by simp [zput]) (by simp [zput]) (by simp [zput_row]) (by simp [zput_row]), zNw_t (zmod_o (by omega) (by omega) h7) (zmod_o (by omega) (by omega) h7) (zNw_c hnw (by simp [zput_row]) (by simp [zput_row])), zFx_c hfx (by simp [zput]) (by simp [zput]) (by simp [zput]) (by simp [zput]), zPs_t (zmod_o (by omega) (by omega) h7) (zmod_o (by omega) (by omega) h7) (zPs_c hps (by simp [zput]) (by simp [zput]) (by simp [zput_row]) (by simp [zput_row])), zTd_c htd (by simp [zput]) (by simp [zput]) (by simp [zput_row]) (by simp [zput_row]), zKp_t (zmod_o (by omega) (by omega) h7) (zmod_o (by omega) (by omega) h7) e2' (zKp_c hkp (by simp [zput]) (by simp [zput]) (by simp [zput_row]) (by simp [zput_row]))⟩, zro_put (by decide) (zro_put (by decide) hro)⟩
    · rw [e135_0, s46r, zbI_some, e1, hs, if_neg (by decide), e14]
      by_cases h : w = 0
      · rw [if_pos h] at hcomp ⊢
        rw [e135_54, zput_at, hcomp, s26 hlt, zbI_some]
      · rw [if_neg h] at hcomp ⊢
        rw [e135_54, zput_at, hcomp, s26 hlt, zbI_some]
    · rw [e224_0, s169, zbI_some, zput_o _ _ (Or.inl (by decide)), e2, hs, if_neg (by decide), show (79 : Int32) + nI q = nI (79 + q) from nI_add 79 q]
      have hlast : zden (L + 1) 224 27 [some (.ref 48), some (.int (nI q)), some (.int w)] [.int (nI b), .int (nI (79 + q)), .ref 49] (zput M 1 14 (nI (zbits f (t 2)))) = some (some (.int (nI (zpc (zbits f (t 2))))), zput (zput M 1 14 (nI (zbits f (t 2)))) 49 (79 + q) (nI b)) := by
        rw [e224_27, if_pos ((zinb_nI (by omega)).mpr (by omega)), nI_clamp (by omega), s213 tb hm1, zbI_some, e2', hz, s218 hlt, zbI_some]
      by_cases h : w = 0
      · rw [if_pos h] at eb ⊢
        rw [eb]
        exact hlast
      · rw [if_neg h] at eb ⊢
        rw [eb]
        exact hlast
    · refine zmod_c hb hc (fun k hk => by simp [zput, hk]) (by simp [zput]) (fun k hk => by simp [zput]) ?_ (fun i h1 h2 h3 => by rw [zput_ne (by omega), zput_ne (by omega)])
      rw [zput_o _ _ (Or.inl (by decide)), zput_o _ _ (Or.inl (by decide))]
      exact hc.2.1 3 (by omega)
  · refine ⟨-1, M, M, ?_, ?_, hR, hro⟩
    · rw [e135_0, s46r, zbI_some, e1, hs, if_pos (by decide)]
    · rw [e224_0, s169, zbI_some, e2, hs, if_pos (by decide)]
end KT
