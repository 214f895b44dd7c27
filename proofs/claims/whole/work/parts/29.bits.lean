def zbc (v0 : Int32) : Int32 := ((((((((v0 - (((v0.toUInt32 >>> ((1 : Int32).toUInt32 &&& Int32.toUInt32 31)).toInt32) &&& 1431655765)) &&& 858993459) + ((((v0 - (((v0.toUInt32 >>> ((1 : Int32).toUInt32 &&& Int32.toUInt32 31)).toInt32) &&& 1431655765)).toUInt32 >>> ((2 : Int32).toUInt32 &&& Int32.toUInt32 31)).toInt32) &&& 858993459)) + (((((v0 - (((v0.toUInt32 >>> ((1 : Int32).toUInt32 &&& Int32.toUInt32 31)).toInt32) &&& 1431655765)) &&& 858993459) + ((((v0 - (((v0.toUInt32 >>> ((1 : Int32).toUInt32 &&& Int32.toUInt32 31)).toInt32) &&& 1431655765)).toUInt32 >>> ((2 : Int32).toUInt32 &&& Int32.toUInt32 31)).toInt32) &&& 858993459)).toUInt32 >>> ((4 : Int32).toUInt32 &&& Int32.toUInt32 31)).toInt32)) &&& 252645135) + (((((((v0 - (((v0.toUInt32 >>> ((1 : Int32).toUInt32 &&& Int32.toUInt32 31)).toInt32) &&& 1431655765)) &&& 858993459) + ((((v0 - (((v0.toUInt32 >>> ((1 : Int32).toUInt32 &&& Int32.toUInt32 31)).toInt32) &&& 1431655765)).toUInt32 >>> ((2 : Int32).toUInt32 &&& Int32.toUInt32 31)).toInt32) &&& 858993459)) + (((((v0 - (((v0.toUInt32 >>> ((1 : Int32).toUInt32 &&& Int32.toUInt32 31)).toInt32) &&& 1431655765)) &&& 858993459) + ((((v0 - (((v0.toUInt32 >>> ((1 : Int32).toUInt32 &&& Int32.toUInt32 31)).toInt32) &&& 1431655765)).toUInt32 >>> ((2 : Int32).toUInt32 &&& Int32.toUInt32 31)).toInt32) &&& 858993459)).toUInt32 >>> ((4 : Int32).toUInt32 &&& Int32.toUInt32 31)).toInt32)) &&& 252645135).toUInt32 >>> ((8 : Int32).toUInt32 &&& Int32.toUInt32 31)).toInt32)) + ((((((((v0 - (((v0.toUInt32 >>> ((1 : Int32).toUInt32 &&& Int32.toUInt32 31)).toInt32) &&& 1431655765)) &&& 858993459) + ((((v0 - (((v0.toUInt32 >>> ((1 : Int32).toUInt32 &&& Int32.toUInt32 31)).toInt32) &&& 1431655765)).toUInt32 >>> ((2 : Int32).toUInt32 &&& Int32.toUInt32 31)).toInt32) &&& 858993459)) + (((((v0 - (((v0.toUInt32 >>> ((1 : Int32).toUInt32 &&& Int32.toUInt32 31)).toInt32) &&& 1431655765)) &&& 858993459) + ((((v0 - (((v0.toUInt32 >>> ((1 : Int32).toUInt32 &&& Int32.toUInt32 31)).toInt32) &&& 1431655765)).toUInt32 >>> ((2 : Int32).toUInt32 &&& Int32.toUInt32 31)).toInt32) &&& 858993459)).toUInt32 >>> ((4 : Int32).toUInt32 &&& Int32.toUInt32 31)).toInt32)) &&& 252645135) + (((((((v0 - (((v0.toUInt32 >>> ((1 : Int32).toUInt32 &&& Int32.toUInt32 31)).toInt32) &&& 1431655765)) &&& 858993459) + ((((v0 - (((v0.toUInt32 >>> ((1 : Int32).toUInt32 &&& Int32.toUInt32 31)).toInt32) &&& 1431655765)).toUInt32 >>> ((2 : Int32).toUInt32 &&& Int32.toUInt32 31)).toInt32) &&& 858993459)) + (((((v0 - (((v0.toUInt32 >>> ((1 : Int32).toUInt32 &&& Int32.toUInt32 31)).toInt32) &&& 1431655765)) &&& 858993459) + ((((v0 - (((v0.toUInt32 >>> ((1 : Int32).toUInt32 &&& Int32.toUInt32 31)).toInt32) &&& 1431655765)).toUInt32 >>> ((2 : Int32).toUInt32 &&& Int32.toUInt32 31)).toInt32) &&& 858993459)).toUInt32 >>> ((4 : Int32).toUInt32 &&& Int32.toUInt32 31)).toInt32)) &&& 252645135).toUInt32 >>> ((8 : Int32).toUInt32 &&& Int32.toUInt32 31)).toInt32)).toUInt32 >>> ((16 : Int32).toUInt32 &&& Int32.toUInt32 31)).toInt32)) &&& 63)
def zpc (B : Nat) : Nat := B % 2 + B / 2 % 2 + B / 4 % 2 + B / 8 % 2 + B / 16 % 2 + B / 32 % 2 + B / 64 % 2
theorem zbc_all : ∀ B : Fin 128, zbc (nI B.val) = nI (zpc B.val) := by decide +kernel
theorem zkr_all : ∀ B : Fin 128, (nI B.val &&& (nI B.val - 1)) = nI (B.val &&& (B.val - 1)) ∧ (B.val = 0 ∨ ((B.val &&& (B.val - 1)) < B.val ∧ zpc (B.val &&& (B.val - 1)) + 1 = zpc B.val)) := by decide +kernel
theorem zor_all : ∀ V : Fin 128, ∀ b : Fin 2, ∀ q : Fin 7, V.val < 2 ^ q.val → (nI V.val ||| (nI b.val <<< (nI q.val &&& 31))) = nI (V.val + b.val * 2 ^ q.val) := by decide +kernel
theorem zset_all : ∀ B : Fin 128, ∀ q : Fin 7, (nI B.val ||| (1 <<< (nI q.val &&& 31))) = nI (B.val + (1 - B.val / 2 ^ q.val % 2) * 2 ^ q.val) := by decide +kernel
theorem zclr_all : ∀ B : Fin 128, ∀ q : Fin 7, (nI B.val &&& ((1 <<< (nI q.val &&& 31)) ^^^ (-1))) = nI (B.val - B.val / 2 ^ q.val % 2 * 2 ^ q.val) := by decide +kernel
section KL
variable {L : Nat} {ro M : zM}
theorem s26 {B : Nat} (h : B < 128) (M : zM) : zden (L + 1) 26 0 [some (.int (nI B))] [] M = some (some (.int (nI (zpc B))), M) := by
  have := e26_0 L (nI B) M
  rw [this]
  show some (some (Value.int (zbc (nI B))), M) = _
  rw [zbc_all ⟨B, h⟩]
theorem s218_l (M : zM) : ∀ n B, B ≤ n → B < 128 → ∀ (k : Nat) (o : Option Value), zden (L + 1) 218 4 [o, some (.int (nI k)), some (.int (nI B))] [] M = some (some (.int (nI (k + zpc B))), M) := by
  intro n
  induction n with
  | zero =>
    intro B hB _ k o
    have : B = 0 := by omega
    subst this
    rw [e218_4, if_pos (by decide)]
    rfl
  | succ n ih =>
    intro B hB hB2 k o
    by_cases h0 : B = 0
    · subst h0
      rw [e218_4, if_pos (by decide)]
      rfl
    · obtain ⟨h1, h2⟩ := zkr_all ⟨B, hB2⟩
      dsimp only at h1 h2
      rcases h2 with h2 | ⟨h2, h3⟩
      · exact absurd h2 h0
      · rw [e218_4, if_neg (nI_ne0 (by omega) (by omega)), h1, nI_1, ih (B &&& (B - 1)) (by omega) (by omega) (k + 1), ← h3]
        rw [show k + 1 + zpc (B &&& (B - 1)) = k + (zpc (B &&& (B - 1)) + 1) by omega]
theorem s218 {B : Nat} (h : B < 128) (M : zM) : zden (L + 1) 218 0 [some (.int (nI B)), none, none] [] M = some (some (.int (nI (zpc B))), M) := by
  rw [e218_0, show (0 : Int32) = nI 0 from rfl, s218_l M B B (by omega) h 0, Nat.zero_add]
theorem s213_l {t : Nat → Nat} (hb : zTb t) (hm : zTm M 49 t) : ∀ d k, d + k = t 2 → zden (L + 1) 213 4 [some (.ref 48), some (.int (nI (zbits (fun q => t (79 + q)) k))), some (.int (nI k))] [] M = some (some (.int (nI (zbits (fun q => t (79 + q)) (t 2)))), M) := by
  have h7 : t 2 ≤ 7 := hb.1.2.2.2.1
  intro d
  induction d with
  | zero =>
    intro k hk
    have : k = t 2 := by omega
    subst this
    rw [e213_4, hm 2 (by omega), if_neg (nI_nlt (by omega) (by omega))]
  | succ d ih =>
    intro k hk
    have hlt : zbits (fun q => t (79 + q)) k < 2 ^ k := zbits_lt (fun q hq => (hb.2.2.2.2.2.1 q (by omega)).2)
    have hle : t (79 + k) ≤ 1 := (hb.2.2.2.2.2.1 k (by omega)).2
    have hp : 2 ^ k ≤ 2 ^ 6 := Nat.pow_le_pow_right (by omega) (by omega)
    rw [e213_4, hm 2 (by omega), if_pos (nI_lt (by omega) (by omega)), show (79 : Int32) + nI k = nI (79 + k) from nI_add 79 k, if_pos ((zinb_nI (by omega)).mpr (by omega)), nI_clamp (by omega), hm (79 + k) (by omega), zor_all ⟨zbits (fun q => t (79 + q)) k, by omega⟩ ⟨t (79 + k), by omega⟩ ⟨k, by omega⟩ hlt, nI_1]
    exact ih (k + 1) (by omega)
theorem s213 {t : Nat → Nat} (hb : zTb t) (hm : zTm M 49 t) : zden (L + 1) 213 0 [some (.ref 48), none, none] [] M = some (some (.int (nI (zbits (fun q => t (79 + q)) (t 2)))), M) := by
  rw [e213_0]
  exact s213_l hb hm (t 2) 0 (by omega)
theorem k_count (w : Int32) (hR : zRel M) (hro : ∀ i, zNW ≤ i → M i = ro i) : zSame L ro 140 230 [some (.ref 0), some (.int w)] [some (.ref 48), some (.int w)] M := by
  obtain ⟨t, hb, hc, hm, htx, hnw, hfx, hps, htd, hkp⟩ := id hR
  obtain ⟨n1, -, x1, x2, -⟩ := htx
  obtain ⟨n2, -, p1, p2, -⟩ := hps
  obtain ⟨n3, -, d1, d2, -⟩ := htd
  obtain ⟨n4, -, q1, q2, -⟩ := hkp
  have c0 := hc.1.1
  have c1 := hc.1.2.1
  have c2 := hc.1.2.2.1
  have c3 := hc.1.2.2.2.1
  have c4 := hc.1.2.2.2.2
  by_cases h0 : w = 0
  · subst h0
    exact ⟨nI (t 0), M, M, by rw [e140_0, if_pos rfl, e140_52, c0], by rw [e230_0, if_pos rfl, e230_52, if_pos (by decide)]; rw [show ((0 : Int32).toNatClampNeg) = 0 from by decide, hm 0 (by omega)], hR, hro⟩
  by_cases h1 : w = 1
  · subst h1
    exact ⟨nI (t 1), M, M, by rw [e140_0, if_neg h0, if_pos rfl, e140_60, c1], by rw [e230_0, if_neg h0, if_pos rfl, e230_52, if_pos (by decide)]; rw [show ((1 : Int32).toNatClampNeg) = 1 from by decide, hm 1 (by omega)], hR, hro⟩
  by_cases h2 : w = 2
  · subst h2
    exact ⟨nI (t 2), M, M, by rw [e140_0, if_neg h0, if_neg h1, if_pos rfl, e140_68, c2], by rw [e230_0, if_neg h0, if_neg h1, if_pos rfl, e230_52, if_pos (by decide)]; rw [show ((2 : Int32).toNatClampNeg) = 2 from by decide, hm 2 (by omega)], hR, hro⟩
  by_cases h3 : w = 3
  · subst h3
    exact ⟨nI (t 3), M, M, by rw [e140_0, if_neg h0, if_neg h1, if_neg h2, if_pos rfl, e140_76, c3], by rw [e230_0, if_neg h0, if_neg h1, if_neg h2, if_pos rfl, e230_52, if_pos (by decide)]; rw [show ((3 : Int32).toNatClampNeg) = 3 from by decide, hm 3 (by omega)], hR, hro⟩
  by_cases h4 : w = 4
  · subst h4
    exact ⟨nI (zpc (zbits (fun q => t (79 + q)) (t 2))), M, M, by rw [e140_0, if_neg h0, if_neg h1, if_neg h2, if_neg h3, if_pos rfl, e140_84, c4, s26 (zbits_128 hb), zbI_some], by rw [e230_0, if_neg h0, if_neg h1, if_neg h2, if_neg h3, if_pos rfl, e230_59, s213 hb hm, zbI_some, s218 (zbits_128 hb), zbI_some], hR, hro⟩
  by_cases h5 : w = 5
  · subst h5
    exact ⟨nI n3, M, M, by rw [e140_0, if_neg h0, if_neg h1, if_neg h2, if_neg h3, if_neg h4, if_pos rfl, e140_95, d1], by rw [e230_0, if_neg h0, if_neg h1, if_neg h2, if_neg h3, if_neg h4, if_pos rfl, e230_67, d2], hR, hro⟩
  by_cases h6 : w = 6
  · subst h6
    exact ⟨nI n2, M, M, by rw [e140_0, if_neg h0, if_neg h1, if_neg h2, if_neg h3, if_neg h4, if_neg h5, if_pos rfl, e140_100, p1], by rw [e230_0, if_neg h0, if_neg h1, if_neg h2, if_neg h3, if_neg h4, if_neg h5, if_pos rfl, e230_72, p2], hR, hro⟩
  by_cases h7 : w = 7
  · subst h7
    exact ⟨nI n4, M, M, by rw [e140_0, if_neg h0, if_neg h1, if_neg h2, if_neg h3, if_neg h4, if_neg h5, if_neg h6, if_pos rfl, e140_108, q1], by rw [e230_0, if_neg h0, if_neg h1, if_neg h2, if_neg h3, if_neg h4, if_neg h5, if_neg h6, if_pos rfl, e230_77, q2], hR, hro⟩
  by_cases h8 : w = 8
  · subst h8
    exact ⟨nI n1, M, M, by rw [e140_0, if_neg h0, if_neg h1, if_neg h2, if_neg h3, if_neg h4, if_neg h5, if_neg h6, if_neg h7, if_pos rfl, e140_116, x1], by rw [e230_0, if_neg h0, if_neg h1, if_neg h2, if_neg h3, if_neg h4, if_neg h5, if_neg h6, if_neg h7, if_pos rfl, e230_82, x2], hR, hro⟩
  exact ⟨-1, M, M, by rw [e140_0, if_neg h0, if_neg h1, if_neg h2, if_neg h3, if_neg h4, if_neg h5, if_neg h6, if_neg h7, if_neg h8, e140_124], by rw [e230_0, if_neg h0, if_neg h1, if_neg h2, if_neg h3, if_neg h4, if_neg h5, if_neg h6, if_neg h7, if_neg h8, e230_87], hR, hro⟩
end KL
theorem zbits_upd {f : Nat → Nat} {q b : Nat} : ∀ {n : Nat}, (n ≤ q → zbits (fun k => if k = q then b else f k) n = zbits f n) ∧ (q < n → zbits (fun k => if k = q then b else f k) n + f q * 2 ^ q = zbits f n + b * 2 ^ q)
  | 0 => ⟨fun _ => rfl, fun h => by omega⟩
  | n + 1 => by
    obtain ⟨h1, h2⟩ := zbits_upd (f := f) (q := q) (b := b) (n := n)
    refine ⟨fun h => ?_, fun h => ?_⟩
    · unfold zbits
      rw [h1 (by omega), if_neg (by omega)]
    · unfold zbits
      by_cases e : n = q
      · subst e
        rw [h1 (Nat.le_refl n), if_pos rfl]
        omega
      · rw [if_neg e]
        have := h2 (by omega)
        omega
