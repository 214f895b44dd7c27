def zSameL (L : Nat) (ro : zM) (kc km : Nat) (ac am : zLo) (M : zM) : Prop :=
  ∃ (r : Int64) (M1 M2 : zM), zden (L + 1) kc 0 ac [] M = some (some (.long r), M1) ∧ zden (L + 1) km 0 am [] M1 = some (some (.long r), M2) ∧ zRel M2 ∧ ∀ i, zNW ≤ i → M2 i = ro i
theorem wgcd (a b n : Nat) : (a ^ n).gcd (b ^ n) = (a.gcd b) ^ n := Nat.pow_gcd_pow
theorem wdvp {a g n : Nat} (h : g ∣ a) (hg : 0 < g) : a ^ n / g ^ n = (a / g) ^ n := by
  obtain ⟨c, rfl⟩ := h
  rw [Nat.mul_pow, Nat.mul_div_cancel_left _ (Nat.pow_pos hg), Nat.mul_div_cancel_left _ hg]
theorem w10 {a n : Nat} (ha : a ≤ 10) (hn : n ≤ 12) : a ^ n ≤ 1000000000000 :=
  Nat.le_trans (Nat.pow_le_pow_left ha n) (Nat.le_trans (Nat.pow_le_pow_right (by omega) hn) (by decide))
theorem lgc_eq {a b : Int64} : lg_cmp a b = 0 ↔ a = b := by
  unfold lg_cmp
  by_cases h1 : b < a
  · simp only [h1, if_true]
    constructor
    · intro h; exact absurd h (by decide)
    · intro h; subst h; exact absurd h1 Int64.lt_irrefl
  · by_cases h2 : a = b
    · simp [h1, h2]
    · simp only [if_neg h1, if_neg h2]
      constructor
      · intro h; exact absurd h (by decide)
      · intro h; exact absurd h h2
section KI
variable {L : Nat} {ro M : zM} {t : Nat → Nat}
theorem s84 : ∀ a : Fin 11, zden (L + 1) 84 0 [some (.int (nI a.val)), some (.int 10), none, none] [] M = some (some (.int (nI (a.val.gcd 10))), M) := by
  intro a
  have hs : ∀ (x c k : Int32), zden (L + 1) 84 4 [some (.int x), some (.int 10), some (.int c), some (.int k)] [] M = if 10 < k then (some (some (.int c), M)) else (if k = 0 then none else if x - x / k * k = 0 ∧ (10 : Int32) - 10 / k * k = 0 then zden (L + 1) 84 4 [some (.int x), some (.int 10), some (.int k), some (.int (k + 1))] [] M else zden (L + 1) 84 4 [some (.int x), some (.int 10), some (.int c), some (.int (k + 1))] [] M) := by
    intro x c k
    rw [e84_4]
    by_cases h1 : 10 < k
    · rw [if_pos h1, if_pos h1]
    · rw [if_neg h1, if_neg h1]
      by_cases h2 : k = 0
      · rw [if_pos h2, if_pos h2]
      · rw [if_neg h2, if_neg h2]
        by_cases h3 : x - x / k * k = 0
        · rw [if_pos h3, if_neg h2]
          by_cases h4 : (10 : Int32) - 10 / k * k = 0
          · rw [if_pos h4, if_pos ⟨h3, h4⟩, e84_24]
          · rw [if_neg h4, if_neg (fun q => h4 q.2), e84_24]
        · rw [if_neg h3, e84_24, if_neg (show ¬ (x - x / k * k = 0 ∧ (10 : Int32) - 10 / k * k = 0) from fun q => h3 q.1), if_neg h2]
  rw [e84_0]
  have h11 : a.val = 0 ∨ a.val = 1 ∨ a.val = 2 ∨ a.val = 3 ∨ a.val = 4 ∨ a.val = 5 ∨ a.val = 6 ∨ a.val = 7 ∨ a.val = 8 ∨ a.val = 9 ∨ a.val = 10 := by omega
  rcases h11 with h | h | h | h | h | h | h | h | h | h | h <;> rw [h] <;> (rw [hs, if_neg (by decide), if_neg (by decide)]; first | rw [if_pos (by decide)] | rw [if_neg (by decide)]) <;> (rw [hs, if_neg (by decide), if_neg (by decide)]; first | rw [if_pos (by decide)] | rw [if_neg (by decide)]) <;> (rw [hs, if_neg (by decide), if_neg (by decide)]; first | rw [if_pos (by decide)] | rw [if_neg (by decide)]) <;> (rw [hs, if_neg (by decide), if_neg (by decide)]; first | rw [if_pos (by decide)] | rw [if_neg (by decide)]) <;> (rw [hs, if_neg (by decide), if_neg (by decide)]; first | rw [if_pos (by decide)] | rw [if_neg (by decide)]) <;> (rw [hs, if_neg (by decide), if_neg (by decide)]; first | rw [if_pos (by decide)] | rw [if_neg (by decide)]) <;> (rw [hs, if_neg (by decide), if_neg (by decide)]; first | rw [if_pos (by decide)] | rw [if_neg (by decide)]) <;> (rw [hs, if_neg (by decide), if_neg (by decide)]; first | rw [if_pos (by decide)] | rw [if_neg (by decide)]) <;> (rw [hs, if_neg (by decide), if_neg (by decide)]; first | rw [if_pos (by decide)] | rw [if_neg (by decide)]) <;> rw [hs, if_pos (by decide)] <;> rfl
theorem s85_l {x : Nat} (hx : x ≤ 10) (hb : zTb t) (hc : zTc M 1 t) : ∀ d k, d + k = t 0 → ∀ (o1 o2 o3 o4 o7 : Option Value), zden (L + 1) 85 48 [some (.ref 35), o1, o2, o3, o4, some (.int (nI x)), some (.long (lN (x ^ k))), o7, some (.int (nI k))] [] M = some (some (.long (lN (x ^ t 0))), M) := by
  have h0 : t 0 ≤ 12 := hb.1.2.1
  intro d
  induction d with
  | zero =>
    intro k hk o1 o2 o3 o4 o7
    have : k = t 0 := by omega
    rw [e85_48, hc.1.1, if_neg (nI_nlt (by omega) (by omega)), this]
  | succ d ih =>
    intro k hk o1 o2 o3 o4 o7
    rw [e85_48, hc.1.1, if_pos (nI_lt (by omega) (by omega)), nI_l (by omega), lN_mul, ← Nat.pow_succ, nI_1]
    exact ih (k + 1) (by omega) _ _ _ _ _
/-- ten less the lateness, by what parts both -/
def wti (t : Nat → Nat) (h w : Nat) : Nat := ((if w = 0 then 10 - t (44 + h) else 10) / (10 - t (44 + h)).gcd 10) ^ t 0
theorem s85 {h w : Nat} (hb : zTb t) (hc : zTc M 1 t) (hh : h < t 1) (hw : w ≤ 1) : zden (L + 1) 85 0 [some (.ref 35), some (.int (nI h)), some (.int (nI w)), none, none, none, none, none, none] [] M = some (some (.long (lN (wti t h w))), M) := by
  have h1 : t 1 ≤ 4 := hb.1.2.2.1
  have h44 := (hb.2.2.2.1 h hh).2.2
  have hg : 0 < (10 - t (44 + h)).gcd 10 := Nat.gcd_pos_of_pos_right _ (by omega)
  have hg2 : (10 - t (44 + h)).gcd 10 ≤ 10 := Nat.gcd_le_right _ (by omega)
  have hgg : max 1 ((10 - t (44 + h)).gcd 10) = (10 - t (44 + h)).gcd 10 := Nat.max_eq_right hg
  have key : ∀ (x : Nat) (o1 o2 o3 o5 o6 o7 o8 : Option Value), x ≤ 10 → zden (L + 1) 85 33 [some (.ref 35), o1, o2, o3, some (.int (nI ((10 - t (44 + h)).gcd 10))), o5, o6, o7, o8] [.int (nI x)] M = some (some (.long (lN ((x / (10 - t (44 + h)).gcd 10) ^ t 0))), M) := by
    intro x o1 o2 o3 o5 o6 o7 o8 hx
    have hq := Nat.div_le_self x ((10 - t (44 + h)).gcd 10)
    rw [e85_33, s13, zbI_some, show (1 : Int32) = nI 1 from rfl, nI_max (by omega) (by omega), hgg, if_neg (nI_ne0 hg (by omega)), nI_div (by omega) hg (by omega)]
    exact s85_l (x := x / (10 - t (44 + h)).gcd 10) (by omega) hb hc (t 0) 0 (by omega) _ _ _ _ _
  have h84 := s84 (L := L) (M := M) ⟨10 - t (44 + h), by omega⟩
  dsimp only at h84
  rw [e85_0, s4_6, zbI_some, zrd_nI (by omega), if_pos (by omega), (hc.2.2.2.1 h hh).2, show (10 : Int32) - nI (t (44 + h)) = nI (10 - t (44 + h)) from nI_sub h44, h84, zbI_some]
  unfold wti
  by_cases hw0 : w = 0
  · subst hw0
    rw [if_pos (show nI 0 = 0 from rfl), if_pos rfl]
    exact key _ _ _ _ _ _ _ _ (by omega)
  · rw [if_neg (nI_ne0 (by omega) (by omega)), if_neg hw0]
    exact key 10 _ _ _ _ _ _ _ (by omega)
theorem s200_e {w a b : Nat} (hw : w ≤ 1) (hb0 : 0 < b) (ha : a ≤ 1000000000000) (hbb : b ≤ 1000000000000) (o0 o1 : Option Value) : ∀ n x y, y ≤ n → x ≤ 1000000000000 → y ≤ 1000000000000 → x.gcd y = a.gcd b → ∀ (o4 o6 o8 o10 o11 o12 : Option Value), zden (L + 1) 200 75 [o0, o1, some (.int (nI w)), some (.long (lN a)), o4, some (.long (lN b)), o6, some (.long (lN x)), o8, some (.long (lN y)), o10, o11, o12] [] M = some (some (.long (lN ((if w = 0 then a else b) / a.gcd b))), M) := by
  have hg : 0 < a.gcd b := Nat.gcd_pos_of_pos_right _ hb0
  intro n
  induction n with
  | zero =>
    intro x y hy hx hyy hgcd o4 o6 o8 o10 o11 o12
    have : y = 0 := by omega
    subst this
    rw [Nat.gcd_zero_right] at hgcd
    rw [e200_75, if_pos (show lg_cmp (lN 0) 0 = 0 from lgc_eq.mpr rfl), hgcd]
    have hne : ¬ lN (a.gcd b) = 0 := fun q => by
      have := (pk_lEQ (b := 0) (by omega) (by omega)).mp q
      omega
    by_cases hw0 : w = 0
    · subst hw0
      rw [if_pos (show nI 0 = 0 from rfl), if_neg hne, e200_116, pk_lDiv (by omega) hg (by omega), if_pos rfl]
    · rw [if_neg (nI_ne0 (by omega) (by omega)), if_neg hne, e200_116, pk_lDiv (by omega) hg (by omega), if_neg hw0]
  | succ n ih =>
    intro x y hy hx hyy hgcd o4 o6 o8 o10 o11 o12
    by_cases hy0 : y = 0
    · exact ih x y (by omega) hx hyy hgcd _ _ _ _ _ _
    · have hne : ¬ lN y = 0 := fun q => hy0 ((pk_lEQ (b := 0) (by omega) (by omega)).mp q)
      have hlt : x % y < y := Nat.mod_lt _ (by omega)
      rw [e200_75, if_neg (fun q => hne (lgc_eq.mp q)), if_neg hne, pk_lRem (by omega) (by omega) (by omega)]
      exact ih y (x % y) (by omega) hyy (by omega) (by rw [Nat.gcd_comm y, ← Nat.gcd_rec, Nat.gcd_comm]; exact hgcd) _ _ _ _ _ _
theorem s200_l {h w : Nat} (hb : zTb t) (hm : zTm M 49 t) (hh : h < t 1) (hw : w ≤ 1) : ∀ d k, d + k = t 0 → ∀ (o4 o6 o8 o9 o10 o11 o12 : Option Value), zden (L + 1) 200 27 [some (.ref 48), some (.int (nI h)), some (.int (nI w)), some (.long (lN ((10 - t (44 + h)) ^ k))), o4, some (.long (lN (10 ^ k))), o6, some (.int (nI k)), o8, o9, o10, o11, o12] [] M = some (some (.long (lN (wti t h w))), M) := by
  have h0 : t 0 ≤ 12 := hb.1.2.1
  have h1 : t 1 ≤ 4 := hb.1.2.2.1
  have h44 := (hb.2.2.2.1 h hh).2.2
  have hg : 0 < (10 - t (44 + h)).gcd 10 := Nat.gcd_pos_of_pos_right _ (by omega)
  intro d
  induction d with
  | zero =>
    intro k hk o4 o6 o8 o9 o10 o11 o12
    have hk' : k = t 0 := by omega
    subst hk'
    have ha := w10 (a := 10 - t (44 + h)) (n := t 0) (by omega) h0
    have hb' := w10 (a := 10) (n := t 0) (by omega) h0
    have hp : 0 < 10 ^ t 0 := Nat.pow_pos (by omega)
    rw [e200_27, hm 0 (by omega), if_neg (nI_nlt (by omega) (by omega)), s200_e hw hp ha hb' _ _ (10 ^ t 0) _ _ (Nat.le_refl _) ha hb' rfl, wgcd]
    unfold wti
    by_cases hw0 : w = 0
    · rw [if_pos hw0, if_pos hw0, wdvp (Nat.gcd_dvd_left _ _) hg]
    · rw [if_neg hw0, if_neg hw0, wdvp (Nat.gcd_dvd_right _ _) hg]
  | succ d ih =>
    intro k hk o4 o6 o8 o9 o10 o11 o12
    rw [e200_27, hm 0 (by omega), if_pos (nI_lt (by omega) (by omega)), show (44 : Int32) + nI h = nI (44 + h) from nI_add 44 h, if_pos ((zinb_nI (by omega)).mpr (by omega)), nI_clamp (by omega), hm (44 + h) (by omega), show (10 : Int32) - nI (t (44 + h)) = nI (10 - t (44 + h)) from nI_sub h44, nI_l (by omega), lN_mul, show (10 : Int64) = lN 10 from rfl, lN_mul, ← Nat.pow_succ, ← Nat.pow_succ, nI_1]
    exact ih (k + 1) (by omega) _ _ _ _ _ _ _
theorem k_time (a b : Int32) (hR : zRel M) (hro : ∀ i, zNW ≤ i → M i = ro i) : zSameL L ro 119 200 [some (.ref 0), some (.int a), some (.int b)] [some (.ref 48), some (.int a), some (.int b), none, none, none, none, none, none, none, none, none, none] M := by
  obtain ⟨t, hb, hc, hm, -⟩ := id hR
  have h0 : M 1 6 = nI (t 1) := hc.1.2.1
  have h0' : M 49 1 = nI (t 1) := hm 1 (by omega)
  have ht : t 1 ≤ 4 := hb.1.2.2.1
  rcases zrng_cases a 0 (nI (t 1) - 1) with ha | ha
  · rcases zrng_cases b 0 1 with hbb | hbb
    · obtain ⟨h, hh, rfl⟩ := zrng_cnt (by omega) ha
      obtain ⟨w, hw, rfl⟩ := zrng_nI (b := 1) (by omega) hbb
      refine ⟨lN (wti t h w), M, M, ?_, ?_, hR, hro⟩
      · rw [e119_0, h0, s46r, zbI_some, ha, if_neg (show ¬ zb true = 0 by decide), s46r, zbI_some, hbb, if_neg (show ¬ zb true = 0 by decide), s85 hb hc hh hw, zbL_some]
      · rw [e200_0, s165, zbI_some, h0', ha, if_neg (show ¬ zb true = 0 by decide), s161, zbI_some, hbb, if_neg (show ¬ zb true = 0 by decide)]
        exact s200_l hb hm hh hw (t 0) 0 (by omega) _ _ _ _ _ _ _
    · refine ⟨-1, M, M, ?_, ?_, hR, hro⟩
      · rw [e119_0, h0, s46r, zbI_some, ha, if_neg (show ¬ zb true = 0 by decide), s46r, zbI_some, hbb, if_pos (show zb false = 0 from rfl), e119_26]
      · rw [e200_0, s165, zbI_some, h0', ha, if_neg (show ¬ zb true = 0 by decide), s161, zbI_some, hbb, if_pos (show zb false = 0 from rfl), e200_15]
  · refine ⟨-1, M, M, ?_, ?_, hR, hro⟩
    · rw [e119_0, h0, s46r, zbI_some, ha, if_pos (show zb false = 0 from rfl), e119_26]
    · rw [e200_0, s165, zbI_some, h0', ha, if_pos (show zb false = 0 from rfl), e200_15]
end KI
