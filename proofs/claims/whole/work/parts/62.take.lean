section KZ
variable {L : Nat} {ro M : zM} {t : Nat → Nat} {v : Int32}
theorem zTc_34 {M' : zM} (hc : zTc M 1 t) (h : ∀ i, i ≠ 34 → M' i = M i) : zTc M' 1 t := zTc_41 hc h (by omega)
theorem zRo_34 {M' : zM} (hk : zRo M) (h : ∀ i, i ≠ 34 → M' i = M i) : zRo M' := zRo_of hk fun i hi => h i (zn62 hi (by omega))
theorem wLk_34 {M' : zM} {s : Nat} (hl : wLk M t s v) (h : ∀ i, i ≠ 34 → M' i = M i) : wLk M' t s v := fun m hm => by rw [h 27 (by omega), h 28 (by omega)]; exact hl m hm
theorem aM_top (i ls z p u s k : Nat) : aM t v i ls z p u s k ≤ 1000000 := by
  unfold aM
  split
  · exact a3_top _ _ _ _ _ _
  · exact aX_top _ _ _ _ _
theorem s69_m {i ls z c m : Nat} {room : Int32} (hb : zTb t) (hc : zTc M 1 t) (hk : zRo M) (hi : i < t 0) (hlk : wLk M t (wst t v i) v) (hz : z ≤ 240) (hcc : c ≤ t 11) (hm : m < 3) (hg : qg t v i < 1000000) (hroom : ∀ n, n ≤ 1000 → (room < nI n ↔ ¬ (n ≤ 240 ∧ ls + qg t v i + n ≤ 10 * t 10))) (hT : wC (M 34) (aM t v i ls z (aP z c) m)) (o5 o8 o9 o10 : Option Value) : ∃ M' x8 x9 x10, zden (L + 1) 69 41 [some (.ref 33), some (.int (nI z)), some (.int (nI c)), some (.int (nI (qg t v i))), some (.int room), o5, some (.int (nI (wRR t i (wG t v i) c (ls + z)))), some (.int (nI m)), o8, o9, o10] [] M = zden (L + 1) 69 41 [some (.ref 33), some (.int (nI z)), some (.int (nI c)), some (.int (nI (qg t v i))), some (.int room), o5, some (.int (nI (wRR t i (wG t v i) c (ls + z)))), some (.int (nI (m + 1))), x8, x9, x10] [] M' ∧ (∀ j, j ≠ 34 → M' j = M j) ∧ wC (M' 34) (aM t v i ls z (aP z c) (m + 1)) := by
  have hst := wSt hb
  have hF := qF_le (v := v) (m := m) hb hi
  have hB := qB_60 (v := v) (m := m) hb hi
  have hU := qU_le (t := t) (v := v) (i := i) (m := m)
  have hR := wRR_top (t := t) (i := i) (wG_top t v i) c (ls + z)
  have hbe := wbe_le m
  have hs := fun s k (h1 : s ≤ 240) (h2 : k < 100) => aM_s (v := v) (ls := ls) (m := m) hb hi hz hcc hm h1 h2 hg
  have skip : ¬ (qF t v i m ≤ c ∧ (z + (qB t v i m - qg t v i) ≤ 240 ∧ ls + qg t v i + (z + (qB t v i m - qg t v i)) ≤ 10 * t 10) ∧ qQ t v i m = true) → wC (M 34) (aM t v i ls z (aP z c) (m + 1)) := by
    intro hn
    refine wC_c hT fun s k h1 h2 => ?_
    rw [hs s k h1 h2, if_neg (fun q => hn q.1)]
  have e27 : M 27 m = nI (qF t v i m) := (hlk m hm).1
  have e28 : M 28 m = nI (qB t v i m) := (hlk m hm).2
  by_cases c1 : c < qF t v i m
  · refine ⟨M, some (.int (nI (qF t v i m))), some (.int (nI z + nI (qB t v i m) - nI (qg t v i))), o10, ?_, fun j _ => rfl, skip (fun q => by omega)⟩
    rw [e69_41, if_pos (show nI m < 3 from nI_lt (b := 3) hm (by omega)), s4_27, zbI_some, zrd_nI (by omega), if_pos hm, e27, s4_28, zbI_some, zrd_nI (by omega), if_pos hm, e28, if_pos (nI_lt c1 (by omega)), e69_145, nI_1]
  · have hgB := qB_ge hm hg (show qF t v i m < 1000000 by omega)
    have e0 : nI z + nI (qB t v i m) - nI (qg t v i) = nI (z + (qB t v i m - qg t v i)) := by
      rw [nI_add, nI_sub (by omega)]
      congr 1; omega
    by_cases c2 : z + (qB t v i m - qg t v i) ≤ 240 ∧ ls + qg t v i + (z + (qB t v i m - qg t v i)) ≤ 10 * t 10
    · by_cases c3 : qQ t v i m = true
      · have hval := hT (z + (qB t v i m - qg t v i)) (c - qU t v i m) c2.1 (by omega)
        have htop := aM_top (t := t) (v := v) i ls z (aP z c) m (z + (qB t v i m - qg t v i)) (c - qU t v i m)
        have hnew := wC_put (x := min (aM t v i ls z (aP z c) m (z + (qB t v i m - qg t v i)) (c - qU t v i m)) (wRR t i (wG t v i) c (ls + z) + wbe m)) c2.1 (show c - qU t v i m < 100 by omega) hT
        refine ⟨zput M 34 (100 * (z + (qB t v i m - qg t v i)) + (c - qU t v i m)) (nI (min (aM t v i ls z (aP z c) m (z + (qB t v i m - qg t v i)) (c - qU t v i m)) (wRR t i (wG t v i) c (ls + z) + wbe m))), some (.int (nI (qF t v i m))), some (.int (nI (z + (qB t v i m - qg t v i)))), some (.int (nI (100 * (z + (qB t v i m - qg t v i)) + (c - qU t v i m)))), ?_, fun j hj => zput_ne hj, wC_c hnew fun s k h1 h2 => ?_⟩
        · have eidx : nI (z + (qB t v i m - qg t v i)) * 100 + nI c - nI (qU t v i m) = nI (100 * (z + (qB t v i m - qg t v i)) + (c - qU t v i m)) := by
            rw [show (100 : Int32) = nI 100 from rfl, nI_mul, nI_add, nI_sub (by omega)]
            congr 1; omega
          rw [e69_41, if_pos (show nI m < 3 from nI_lt (b := 3) hm (by omega)), s4_27, zbI_some, zrd_nI (by omega), if_pos hm, e27, s4_28, zbI_some, zrd_nI (by omega), if_pos hm, e28, if_neg (nI_nlt (by omega) (by omega)), e0, if_neg (fun q => ((hroom _ (by omega)).mp q) c2), s64 hb hc hi hm hlk, zbI_some, c3, if_neg (show ¬ zb true = 0 by decide), s67 (by omega), zbI_some, show wup (qF t v i m) 8 = qU t v i m from rfl, eidx, s4_34, zbI_some, zrd_nI (by omega), if_pos (by omega), hval, s68 hk hm, zbI_some, nI_add, s38, zbI_some, nI_min (by omega) (by omega), s5_34, zbV_some, zwr_nI (by omega) (by omega), e69_145, nI_1]
        · rw [hs s k h1 h2]
          by_cases e : s = z + (qB t v i m - qg t v i) ∧ k = c - qU t v i m
          · rw [if_pos e, if_pos ⟨⟨by omega, c2, c3⟩, e⟩, e.1, e.2]
          · rw [if_neg e, if_neg (fun q => e q.2)]
      · have c3' : qQ t v i m = false := by simpa using c3
        refine ⟨M, some (.int (nI (qF t v i m))), some (.int (nI (z + (qB t v i m - qg t v i)))), o10, ?_, fun j _ => rfl, skip (fun q => c3 q.2.2)⟩
        rw [e69_41, if_pos (show nI m < 3 from nI_lt (b := 3) hm (by omega)), s4_27, zbI_some, zrd_nI (by omega), if_pos hm, e27, s4_28, zbI_some, zrd_nI (by omega), if_pos hm, e28, if_neg (nI_nlt (by omega) (by omega)), e0, if_neg (fun q => ((hroom _ (by omega)).mp q) c2), s64 hb hc hi hm hlk, zbI_some, c3', if_pos (show zb false = 0 from rfl), e69_145, nI_1]
    · refine ⟨M, some (.int (nI (qF t v i m))), some (.int (nI (z + (qB t v i m - qg t v i)))), o10, ?_, fun j _ => rfl, skip (fun q => c2 q.2.1)⟩
      rw [e69_41, if_pos (show nI m < 3 from nI_lt (b := 3) hm (by omega)), s4_27, zbI_some, zrd_nI (by omega), if_pos hm, e27, s4_28, zbI_some, zrd_nI (by omega), if_pos hm, e28, if_neg (nI_nlt (by omega) (by omega)), e0, if_pos ((hroom _ (by omega)).mpr c2), e69_145, nI_1]
theorem s69 {i ls z c : Nat} {room : Int32} (hb : zTb t) (hc : zTc M 1 t) (hk : zRo M) (hi : i < t 0) (hlk : wLk M t (wst t v i) v) (hz : z ≤ 240) (hcc : c ≤ t 11) (hg : qg t v i < 1000000) (hroom : ∀ n, n ≤ 1000 → (room < nI n ↔ ¬ (n ≤ 240 ∧ ls + qg t v i + n ≤ 10 * t 10))) (hT : wC (M 34) (aG t v i ls z (aP z c))) : ∃ M', zden (L + 1) 69 0 [some (.ref 33), some (.int (nI z)), some (.int (nI c)), some (.int (nI (qg t v i))), some (.int room), none, none, none, none, none, none] [] M = some (none, M') ∧ (∀ j, j ≠ 34 → M' j = M j) ∧ wC (M' 34) (aG t v i ls z (aP z c + 1)) := by
  have hst := wSt hb
  have hR := wRR_top (t := t) (i := i) (wG_top t v i) c (ls + z)
  have hv : M 34 (100 * z + c) = nI (wRR t i (wG t v i) c (ls + z)) := by
    rw [hT z c hz (by omega)]
    unfold aG aX
    rw [if_neg (by omega), if_pos rfl]
  have eidx : nI z * 100 + nI c = nI (100 * z + c) := by
    rw [show (100 : Int32) = nI 100 from rfl, nI_mul, nI_add, Nat.mul_comm]
  by_cases h : wRR t i (wG t v i) c (ls + z) = 1000000
  · refine ⟨M, ?_, fun j _ => rfl, wC_c hT fun s k h1 h2 => aG_no hb hi hz hcc h1 h2 h⟩
    rw [e69_0, eidx, s4_34, zbI_some, zrd_nI (by omega), if_pos (show 100 * z + c < 24100 by omega), hv, if_neg (show ¬ nI (wRR t i (wG t v i) c (ls + z)) < 1000000 from nI_nlt (b := 1000000) (by omega) (by omega))]
  · have h0 := wC_put (x := 1000000) hz (show c < 100 by omega) hT
    have t0 : wC (zput M 34 (100 * z + c) (nI 1000000) 34) (aM t v i ls z (aP z c) 0) := wC_c h0 fun s k h1 h2 => aM_0 hb hi hz (by omega) h1 h2
    have f0 : ∀ j, j ≠ 34 → zput M 34 (100 * z + c) (nI 1000000) j = M j := fun j hj => zput_ne hj
    obtain ⟨M1, a8, a9, a10, p1, p2, p3⟩ := s69_m (L := L) (m := 0) (room := room) hb (zTc_34 hc f0) (zRo_34 hk f0) hi (wLk_34 hlk f0) hz hcc (by omega) hg hroom t0 (some (.int (nI (100 * z + c)))) none none none
    have f1 : ∀ j, j ≠ 34 → M1 j = M j := fun j hj => by rw [p2 j hj, f0 j hj]
    obtain ⟨M2, b8, b9, b10, q1, q2, q3⟩ := s69_m (L := L) (m := 1) (room := room) hb (zTc_34 hc f1) (zRo_34 hk f1) hi (wLk_34 hlk f1) hz hcc (by omega) hg hroom p3 (some (.int (nI (100 * z + c)))) a8 a9 a10
    have f2 : ∀ j, j ≠ 34 → M2 j = M j := fun j hj => by rw [q2 j hj, f1 j hj]
    obtain ⟨M3, d8, d9, d10, r1, r2, r3⟩ := s69_m (L := L) (m := 2) (room := room) hb (zTc_34 hc f2) (zRo_34 hk f2) hi (wLk_34 hlk f2) hz hcc (by omega) hg hroom q3 (some (.int (nI (100 * z + c)))) b8 b9 b10
    refine ⟨M3, ?_, fun j hj => by rw [r2 j hj, f2 j hj], wC_c r3 fun s k _ _ => aM_3 _ _ _ _ _ _⟩
    rw [nI_0] at p1
    rw [e69_0, eidx, s4_34, zbI_some, zrd_nI (by omega), if_pos (show 100 * z + c < 24100 by omega), hv, if_pos (show nI (wRR t i (wG t v i) c (ls + z)) < 1000000 from nI_lt (b := 1000000) (by omega) (by omega)), s5_34, zbV_some, zwr_nI (by omega) (by omega)]
    rw [show (1000000 : Int32) = nI 1000000 from rfl, p1, q1, r1, e69_41, if_neg (by decide)]
theorem s66 {z : Nat} {C : Nat → Nat → Nat} (hz : z ≤ 240) (hC : ∀ s k, C s k ≤ 1000000) (hT : wC (M 34) C) : zden (L + 1) 66 0 [some (.ref 33), some (.int (nI z)), none, none] [] M = some (some (.int (nI (wmn (C z) 100))), M) := by
  have lp : ∀ d k, d + k = 100 → zden (L + 1) 66 5 [some (.ref 33), some (.int (nI z)), some (.int (nI (wmn (C z) k))), some (.int (nI k))] [] M = some (some (.int (nI (wmn (C z) 100))), M) := by
    intro d
    induction d with
    | zero =>
      intro k hd
      have e : k = 100 := by omega
      subst e
      rw [e66_5, if_neg (by decide)]
    | succ d ih =>
      intro k hd
      have h1 := wmn_top (C z) k
      have h2 := hC z k
      have eidx : nI z * 100 + nI k = nI (100 * z + k) := by
        rw [show (100 : Int32) = nI 100 from rfl, nI_mul, nI_add, Nat.mul_comm]
      rw [e66_5, if_pos (zlt_100 (by omega)), eidx, s4_34, zbI_some, zrd_nI (by omega), if_pos (by omega), hT z k hz (by omega), s38, zbI_some, nI_min (by omega) (by omega), nI_1]
      exact ih (k + 1) (by omega)
  rw [e66_0]
  exact lp 100 0 (by omega)
theorem s65 {i : Nat} (hb : zTb t) (hc : zTc M 1 t) (hi : i < t 0) (hlk : wLk M t (wst t v i) v) : zden (L + 1) 65 0 [some (.ref 33), none, none] [] M = some (some (.int (nI (qg t v i))), M) := by
  have st : ∀ m x, m < 3 → x ≤ 1000000 → zden (L + 1) 65 5 [some (.ref 33), some (.int (nI x)), some (.int (nI m))] [] M = zden (L + 1) 65 5 [some (.ref 33), some (.int (nI (min x (qg1 t v i m)))), some (.int (nI (m + 1)))] [] M := by
    intro m x hm hx
    have hB := qB_60 (v := v) (m := m) hb hi
    have e28 : M 28 m = nI (qB t v i m) := (hlk m hm).2
    rw [e65_5, if_pos (show nI m < 3 from nI_lt (b := 3) hm (by omega)), s64 hb hc hi hm hlk, zbI_some]
    unfold qg1
    cases hq : qQ t v i m
    · rw [if_pos (show zb false = 0 from rfl), e65_34, nI_1]
      have : min x (if false = true then qB t v i m else 1000000) = x := by simp; omega
      rw [this]
    · rw [if_neg (show ¬ zb true = 0 by decide), s4_28, zbI_some, zrd_nI (by omega), if_pos hm, e28, s38, zbI_some, nI_min (by omega) (by omega), e65_34, nI_1]
      rfl
  have q1 : ∀ m, qg1 t v i m ≤ 1000000 := fun m => by
    have hB := qB_60 (v := v) (m := m) hb hi
    unfold qg1; split <;> omega
  rw [e65_0, show (1000000 : Int32) = nI 1000000 from rfl, show (0 : Int32) = nI 0 from rfl, st 0 _ (by omega) (by omega), st 1 _ (by omega) (by omega), st 2 _ (by omega) (by omega), e65_5, if_neg (by decide)]
  rfl
theorem s71 {i : Nat} (hb : zTb t) (hc : zTc M 1 t) (hi : i < t 0) (hlk : wLk M t (wst t v i) v) : zden (L + 1) 71 0 [some (.ref 33), none, none] [] M = some (some (.int (nI (qh t v i))), M) := by
  have q1 : ∀ m, qh1 t v i m ≤ 60 := fun m => by
    have hB := qB_60 (v := v) (m := m) hb hi
    unfold qh1; split <;> omega
  have st : ∀ m x, m < 3 → x ≤ 60 → zden (L + 1) 71 4 [some (.ref 33), some (.int (nI x)), some (.int (nI m))] [] M = zden (L + 1) 71 4 [some (.ref 33), some (.int (nI (max x (qh1 t v i m)))), some (.int (nI (m + 1)))] [] M := by
    intro m x hm hx
    have hB := qB_60 (v := v) (m := m) hb hi
    have e28 : M 28 m = nI (qB t v i m) := (hlk m hm).2
    rw [e71_4, if_pos (show nI m < 3 from nI_lt (b := 3) hm (by omega)), s64 hb hc hi hm hlk, zbI_some]
    unfold qh1
    cases hq : qQ t v i m
    · rw [if_pos (show zb false = 0 from rfl), e71_33, nI_1]
      have : max x (if false = true then qB t v i m else 0) = x := by simp
      rw [this]
    · rw [if_neg (show ¬ zb true = 0 by decide), s4_28, zbI_some, zrd_nI (by omega), if_pos hm, e28, s13, zbI_some, nI_max (by omega) (by omega), e71_33, nI_1]
      rfl
  have a0 := q1 0
  have a1 := q1 1
  rw [e71_0, show (0 : Int32) = nI 0 from rfl, st 0 _ (by omega) (by omega), st 1 _ (by omega) (by omega), st 2 _ (by omega) (by omega), e71_4, if_neg (by decide)]
  rfl
theorem s72 {n : Nat} {C : Nat → Nat → Nat} (hn : n ≤ 240) (hC : ∀ s k, C s k ≤ 1000000) (hT : wC (M 34) C) : zden (L + 1) 72 0 [some (.ref 33), some (.int (nI n)), none, none] [] M = some (some (.int (nI (wmn (fun s => wmn (C s) 100) (n + 1)))), M) := by
  have lp : ∀ d k, d + k = n + 1 → zden (L + 1) 72 5 [some (.ref 33), some (.int (nI n)), some (.int (nI (wmn (fun s => wmn (C s) 100) k))), some (.int (nI k))] [] M = some (some (.int (nI (wmn (fun s => wmn (C s) 100) (n + 1)))), M) := by
    intro d
    induction d with
    | zero =>
      intro k hd
      have e : k = n + 1 := by omega
      subst e
      rw [e72_5, if_pos (nI_lt (by omega) (by omega))]
    | succ d ih =>
      intro k hd
      have h1 := wmn_top (fun s => wmn (C s) 100) k
      have h2 := wmn_top (C k) 100
      rw [e72_5, if_neg (nI_nlt (by omega) (by omega)), s66 (by omega) hC hT, zbI_some, s38, zbI_some, nI_min (by omega) (by omega), nI_1]
      exact ih (k + 1) (by omega)
  rw [e72_0]
  exact lp (n + 1) 0 (by omega)
end KZ
