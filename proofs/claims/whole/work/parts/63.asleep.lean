section KZ
variable {L : Nat} {ro M : zM} {t : Nat → Nat} {v : Int32}
/-- n sums are left -/
def aB (t : Nat → Nat) (v : Int32) (i ls n s k : Nat) : Nat := if n ≤ s then a3 t v i ls (100 * (241 - n)) 0 s k else wG t v i k (ls + s)
theorem aB_top (i ls n s k : Nat) : aB t v i ls n s k ≤ 1000000 := by
  unfold aB
  split
  · exact a3_top _ _ _ _ _ _
  · exact wG_top t v i _ _
theorem aT_pos {i ls m s k : Nat} (hs : s ≤ 240) (h : aT t v i ls m s k ≠ 1000000) : ∃ z c, z ≤ s ∧ c ≤ t 11 ∧ aS t v i m s k = aP z c ∧ k + qU t v i m = c ∧ aT t v i ls m s k = wRR t i (wG t v i) c (ls + z) + wbe m := by
  unfold aT at h ⊢
  by_cases hc : qQ t v i m = true ∧ qB t v i m - qg t v i ≤ s ∧ ls + qg t v i + s ≤ 10 * t 10 ∧ qF t v i m ≤ k + qU t v i m ∧ k + qU t v i m ≤ t 11
  · rw [if_pos hc]
    refine ⟨s - (qB t v i m - qg t v i), k + qU t v i m, by omega, by omega, ?_, rfl, rfl⟩
    unfold aS aP
    omega
  · rw [if_neg hc] at h
    exact absurd rfl h
/-- sums without a way bring nothing -/
theorem aK_eq {i ls p q s k m : Nat} (hs : s ≤ 240) (hpq : p ≤ q) (h : ∀ z c, z ≤ s → c ≤ t 11 → p ≤ aP z c → aP z c < q → wRR t i (wG t v i) c (ls + z) = 1000000) : min 1000000 (aK t v i ls p 0 s k m) = min 1000000 (aK t v i ls q 0 s k m) := by
  unfold aK
  by_cases c1 : aS t v i m s k < p
  · rw [if_pos (Or.inl c1), if_pos (by omega)]
  · rw [if_neg (by omega)]
    by_cases c2 : aS t v i m s k < q
    · rw [if_pos (Or.inl c2)]
      by_cases c3 : aT t v i ls m s k = 1000000
      · rw [c3]
      · obtain ⟨z, c, h1, h2, h3, _, h4⟩ := aT_pos hs c3
        have := h z c h1 h2 (by omega) (by omega)
        rw [this] at h4
        omega
    · rw [if_neg (by omega)]
theorem a3_eq {i ls p q s k : Nat} (hs : s ≤ 240) (hpq : p ≤ q) (h : ∀ z c, z ≤ s → c ≤ t 11 → p ≤ aP z c → aP z c < q → wRR t i (wG t v i) c (ls + z) = 1000000) : a3 t v i ls p 0 s k = a3 t v i ls q 0 s k := by
  have k0 := aK_eq (k := k) (m := 0) hs hpq h
  have k1 := aK_eq (k := k) (m := 1) hs hpq h
  have k2 := aK_eq (k := k) (m := 2) hs hpq h
  unfold a3
  omega
theorem a3_none {i ls p s k : Nat} (h : p ≤ aP s k + 1) (hb : zTb t) (hi : i < t 0) : a3 t v i ls p 0 s k = 1000000 := by
  have hK : ∀ m, aK t v i ls p 0 s k m = 1000000 := by
    intro m
    have := qU_1 (v := v) (i := i) (m := m) hb hi
    unfold aK
    rw [if_neg (by unfold aS; omega)]
  unfold a3
  rw [hK, hK, hK]
  rfl
theorem wG_big {i k b : Nat} (hb : zTb t) (hi : i ≤ t 0) (hk : t 11 < k) : wG t v i k b = 1000000 := by
  have h1 := wG_top t v i k b
  by_cases h : wG t v i k b < 1000000
  · have := (wG_k hb i hi k b h).1
    omega
  · omega
theorem aB_skip {i ls n s k : Nat} (hb : zTb t) (hi : i < t 0) (hn : n ≤ 240) (hs : s ≤ 240) (hk : k < 100) (h : ∀ k, wG t v i k (ls + n) = 1000000) : aB t v i ls (n + 1) s k = aB t v i ls n s k := by
  have hst := wSt hb
  have hz : ∀ z c, z ≤ s → c ≤ t 11 → 100 * (241 - (n + 1)) ≤ aP z c → aP z c < 100 * (241 - n) → wRR t i (wG t v i) c (ls + z) = 1000000 := by
    intro z c h1 h2 h3 h4
    have e : z = n := by unfold aP at *; omega
    rw [e]
    exact wRR_no (wG_top t v i) h
  unfold aB
  by_cases c1 : n + 1 ≤ s
  · rw [if_pos c1, if_pos (by omega)]
    exact a3_eq hs (by omega) hz
  · rw [if_neg c1]
    by_cases c2 : n ≤ s
    · have e : s = n := by omega
      rw [if_pos c2, ← a3_eq (p := 100 * (241 - (n + 1))) hs (by omega) hz, a3_none (by unfold aP; omega) hb hi, e, h]
    · rw [if_neg c2]
theorem aB_end {i ls n s k : Nat} (hb : zTb t) (hi : i < t 0) (hn : n ≤ 240) (hs : s ≤ 240) (hk : k < 100) : aG t v i ls n (aP n (t 11 + 1)) s k = aB t v i ls n s k := by
  have hst := wSt hb
  have hz : ∀ z c, z ≤ s → c ≤ t 11 → aP n (t 11 + 1) ≤ aP z c → aP z c < 100 * (241 - n) → wRR t i (wG t v i) c (ls + z) = 1000000 := by
    intro z c h1 h2 h3 h4
    exfalso
    unfold aP at *
    omega
  have hpq : aP n (t 11 + 1) ≤ 100 * (241 - n) := by unfold aP; omega
  unfold aG aB
  by_cases c1 : aP s k < aP n (t 11 + 1)
  · rw [if_pos c1, if_pos (by unfold aP at c1; omega)]
    exact a3_eq hs hpq hz
  · rw [if_neg c1]
    unfold aX
    by_cases c2 : n ≤ s
    · have e : s = n ∧ t 11 < k := by unfold aP at c1; omega
      rw [if_pos c2, if_pos e.1, ← a3_eq (p := aP n (t 11 + 1)) hs hpq hz, a3_none (by omega) hb hi]
      unfold wRR
      rw [if_neg (by omega)]
      exact wG_big hb (by omega) e.2
    · rw [if_neg c2, if_neg (by omega)]
theorem aB_start {i ls n s k : Nat} (hb : zTb t) (hi : i < t 0) (hn : n ≤ 240) (hs : s ≤ 240) (h : ∀ k b, wG t v i k b < 1000000 → ls ≤ b ∧ b ≤ ls + n) : wG t v i k (ls + s) = aB t v i ls (n + 1) s k := by
  have hst := wSt hb
  have hno : ∀ z, n < z → ∀ k, wG t v i k (ls + z) = 1000000 := by
    intro z hz k
    have h1 := wG_top t v i k (ls + z)
    by_cases h2 : wG t v i k (ls + z) < 1000000
    · have := h _ _ h2
      omega
    · omega
  unfold aB
  by_cases c1 : n + 1 ≤ s
  · rw [if_pos c1, ← a3_eq (p := 0) hs (by omega) (fun z c h1 h2 h3 h4 => wRR_no (wG_top t v i) (hno z (by unfold aP at h4; omega))), a3_none (by omega) hb hi, hno s (by omega)]
  · rw [if_neg c1]
theorem aB_fin {i ls s k : Nat} (hb : zTb t) (hi : i < t 0) (hs : s ≤ 240) (hg : qg t v i < 1000000) (h : ∀ k b, wG t v i k b < 1000000 → ls ≤ b) : aB t v i ls 0 s k = wG t v (i + 1) k (ls + qg t v i + s) := by
  have hst := wSt hb
  have key : ∀ m, m < 3 → min 1000000 (aK t v i ls (100 * (241 - 0)) 0 s k m) = min 1000000 (wcM t v i (wG t v i) m k (ls + qg t v i + s)) := by
    intro m hm
    have hbe := wbe_le m
    unfold aK wcM
    by_cases c1 : qQ t v i m = true ∧ qB t v i m - qg t v i ≤ s ∧ ls + qg t v i + s ≤ 10 * t 10 ∧ qF t v i m ≤ k + qU t v i m ∧ k + qU t v i m ≤ t 11
    · have hgl := qg_le hm c1.1
      have eT : aT t v i ls m s k = wRR t i (wG t v i) (k + qU t v i m) (ls + (s - (qB t v i m - qg t v i))) + wbe m := by unfold aT; rw [if_pos c1]
      rw [if_pos (by unfold aS aP; omega), eT, if_pos ⟨c1.1, by omega, c1.2.2.1, c1.2.2.2.1, c1.2.2.2.2⟩, show ls + qg t v i + s - qB t v i m = ls + (s - (qB t v i m - qg t v i)) by omega]
    · have eT : aT t v i ls m s k = 1000000 := by unfold aT; rw [if_neg c1]
      have e1 : (if aS t v i m s k < 100 * (241 - 0) ∨ (aS t v i m s k = 100 * (241 - 0) ∧ m < 0) then aT t v i ls m s k else 1000000) = 1000000 := by
        split
        · exact eT
        · rfl
      rw [e1]
      by_cases c2 : qQ t v i m = true ∧ qB t v i m ≤ ls + qg t v i + s ∧ ls + qg t v i + s ≤ 10 * t 10 ∧ qF t v i m ≤ k + qU t v i m ∧ k + qU t v i m ≤ t 11
      · have hd : ¬ qB t v i m - qg t v i ≤ s := fun q => c1 ⟨c2.1, q, c2.2.2.1, c2.2.2.2.1, c2.2.2.2.2⟩
        rw [if_pos c2, wRR_no (wG_top t v i) (fun j => by
          have h1 := wG_top t v i j (ls + qg t v i + s - qB t v i m)
          by_cases h2 : wG t v i j (ls + qg t v i + s - qB t v i m) < 1000000
          · have := h _ _ h2
            omega
          · omega)]
        omega
      · rw [if_neg c2]
  have k0 := key 0 (by omega)
  have k1 := key 1 (by omega)
  have k2 := key 2 (by omega)
  unfold aB
  rw [if_pos (Nat.zero_le _)]
  show a3 t v i ls (100 * (241 - 0)) 0 s k = wNx t v i (wG t v i) k (ls + qg t v i + s)
  unfold a3 wNx
  omega
theorem wmn_100 {i b : Nat} (hb : zTb t) (hi : i ≤ t 0) (h0 : 0 < i) : wmn (fun k => wG t v i k b) (t 11) = wmn (fun k => wG t v i k b) 100 := by
  have hst := wSt hb
  refine Nat.le_antisymm (wmn_ge (wmn_top _ _) (fun j hj => ?_)) (wmn_ge (wmn_top _ _) (fun j hj => wmn_le (f := fun k => wG t v i k b) (by omega)))
  by_cases c : j < t 11
  · exact wmn_le (f := fun k => wG t v i k b) c
  · have h1 := wG_top t v i j b
    by_cases h2 : wG t v i j b < 1000000
    · have := (wG_k hb i hi j b h2).2 h0
      omega
    · have := wmn_top (fun k => wG t v i k b) (t 11)
      omega
theorem aB_rest {i ls n s k : Nat} (hb : zTb t) (hi : i < t 0) (hn : n ≤ 240) (hs : s ≤ 240) (hk : k < 100) (hF : wmn (fun k => wG t v i k (ls + n)) 100 < 1000000) : aG t v i ls n (aP n 0) s k = if 0 < i ∧ (s = n ∧ k = t 11) then wmn (fun k => wG t v i k (ls + n)) 100 + t 12 else aB t v i ls (n + 1) s k := by
  have hst := wSt hb
  have h12 : t 0 ≤ 12 := hb.1.2.1
  have h99 : t 12 ≤ 99 := by have := hb.2.1; omega
  have eP : aP n 0 = 100 * (241 - (n + 1)) := by unfold aP; omega
  unfold aG aB
  by_cases c1 : aP s k < aP n 0
  · have c2 : n + 1 ≤ s := by unfold aP at c1; omega
    rw [if_pos c1, if_neg (by omega), if_pos c2, eP]
  · have c2 : ¬ n + 1 ≤ s := by unfold aP at c1; omega
    rw [if_neg c1, if_neg c2]
    unfold aX
    by_cases c3 : s = n
    · rw [if_pos c3, c3]
      unfold wRR
      by_cases c4 : 0 < i ∧ k = t 11
      · have e1 : wG t v i (t 11) (ls + n) = 1000000 := by
          have h1 := wG_top t v i (t 11) (ls + n)
          by_cases h2 : wG t v i (t 11) (ls + n) < 1000000
          · have := (wG_k hb i (by omega) _ _ h2).2 c4.1
            omega
          · omega
        have e2 := wmn_100 (v := v) (b := ls + n) hb (show i ≤ t 0 by omega) c4.1
        have e3 : wSm (110 * i) (wmn (fun k => wG t v i k (ls + n)) 100) := wmn_sm (by omega) (fun j _ => wG_sm hb i (by omega) j _)
        rw [if_pos c4, if_pos ⟨c4.1, rfl, c4.2⟩, e1, e2]
        unfold wSm at e3
        omega
      · rw [if_neg c4, if_neg (fun q => c4 ⟨q.1, q.2.2⟩)]
    · rw [if_neg c3, if_neg (fun q => c3 q.2.1)]
theorem s70_c {i ls n : Nat} {room fl : Int32} (hb : zTb t) (hi : i < t 0) (hn : n ≤ 240) (hg : qg t v i < 1000000) (hroom : ∀ n, n ≤ 1000 → (room < nI n ↔ ¬ (n ≤ 240 ∧ ls + qg t v i + n ≤ 10 * t 10))) (hc : zTc M 1 t) (hk : zRo M) (hlk : wLk M t (wst t v i) v) (o1 : Option Value) : ∀ d c, d + c = t 11 + 1 → ∀ (P : zM) (o7 : Option Value), (∀ j, j ≠ 34 → P j = M j) → wC (P 34) (aG t v i ls n (aP n c)) → ∃ P' x7 x8, zden (L + 1) 70 72 [some (.ref 33), o1, some (.int (nI (qg t v i))), some (.int room), some (.int fl), some (.int (nI (t 11))), some (.int (nI n)), o7, some (.int (nI c))] [] P = zden (L + 1) 70 14 [some (.ref 33), o1, some (.int (nI (qg t v i))), some (.int room), some (.int fl), some (.int (nI (t 11))), some (.int (nI n + (-1))), x7, x8] [] P' ∧ (∀ j, j ≠ 34 → P' j = M j) ∧ wC (P' 34) (aB t v i ls n) := by
  have hst := wSt hb
  intro d
  induction d with
  | zero =>
    intro c hd P o7 hP hT
    have e : c = t 11 + 1 := by omega
    subst e
    refine ⟨P, o7, some (.int (nI (t 11 + 1))), ?_, hP, wC_c hT fun s k h1 h2 => aB_end hb hi hn h1 h2⟩
    rw [e70_72, if_pos (nI_lt (by omega) (by omega)), e70_95]
  | succ d ih =>
    intro c hd P o7 hP hT
    obtain ⟨P1, a1, a2, a3⟩ := s69 (L := L) (room := room) hb (zTc_34 hc hP) (zRo_34 hk hP) hi (wLk_34 hlk hP) hn (show c ≤ t 11 by omega) hg hroom hT
    rw [show aP n c + 1 = aP n (c + 1) from rfl] at a3
    obtain ⟨P2, x7, x8, b1, b2, b3⟩ := ih (c + 1) (by omega) P1 (zkl o7) (fun j hj => by rw [a2 j hj, hP j hj]) a3
    refine ⟨P2, x7, x8, ?_, b2, b3⟩
    rw [e70_72, if_neg (nI_nlt (by omega) (by omega)), a1, zbV_some, nI_1, b1]
theorem s70_n {i ls : Nat} {room : Int32} (hb : zTb t) (hi : i < t 0) (hg : qg t v i < 1000000) (hroom : ∀ n, n ≤ 1000 → (room < nI n ↔ ¬ (n ≤ 240 ∧ ls + qg t v i + n ≤ 10 * t 10))) (hc : zTc M 1 t) (hk : zRo M) (hlk : wLk M t (wst t v i) v) (o1 : Option Value) : ∀ n, n ≤ 241 → ∀ (P : zM) (o7 o8 : Option Value), (∀ j, j ≠ 34 → P j = M j) → wC (P 34) (aB t v i ls n) → ∃ P', zden (L + 1) 70 14 [some (.ref 33), o1, some (.int (nI (qg t v i))), some (.int room), some (.int (if 0 < i then 1 else 0)), some (.int (nI (t 11))), some (.int (nI n + (-1))), o7, o8] [] P = some (none, P') ∧ (∀ j, j ≠ 34 → P' j = M j) ∧ wC (P' 34) (aB t v i ls 0) := by
  have hst := wSt hb
  have h12 : t 0 ≤ 12 := hb.1.2.1
  have h99 : t 12 ≤ 99 := by have := hb.2.1; omega
  intro n
  induction n with
  | zero =>
    intro _ P o7 o8 hP hT
    refine ⟨P, ?_, hP, hT⟩
    rw [e70_14, if_pos (by decide)]
  | succ n ih =>
    intro hn P o7 o8 hP hT
    have hrow : wmn (aB t v i ls (n + 1) n) 100 = wmn (fun k => wG t v i k (ls + n)) 100 := wmn_c fun j _ => by
      unfold aB
      rw [if_neg (by omega)]
    have htop := wmn_top (fun k => wG t v i k (ls + n)) 100
    have h66 := s66 (L := L) (z := n) (by omega) (fun s k => aB_top (t := t) (v := v) i ls (n + 1) s k) hT
    rw [hrow] at h66
    have hcP := zTc_34 hc hP
    by_cases hF : wmn (fun k => wG t v i k (ls + n)) 100 < 1000000
    · by_cases h0 : 0 < i
      · have hput := wC_put (x := wmn (fun k => wG t v i k (ls + n)) 100 + t 12) (show n ≤ 240 by omega) (show t 11 < 100 by omega) hT
        have hT2 : wC (zput P 34 (100 * n + t 11) (nI (wmn (fun k => wG t v i k (ls + n)) 100 + t 12)) 34) (aG t v i ls n (aP n 0)) := wC_c hput fun s k h1 h2 => by
          rw [aB_rest hb hi (by omega) h1 h2 hF]
          by_cases e : s = n ∧ k = t 11
          · rw [if_pos e, if_pos ⟨h0, e⟩]
          · rw [if_neg e, if_neg (fun q => e q.2)]
        obtain ⟨P1, x7, x8, a1, a2, a3⟩ := s70_c (L := L) (fl := if 0 < i then 1 else 0) (room := room) hb hi (show n ≤ 240 by omega) hg hroom hc hk hlk o1 (t 11 + 1) 0 (by omega) (zput P 34 (100 * n + t 11) (nI (wmn (fun k => wG t v i k (ls + n)) 100 + t 12))) (some (.int (nI (wmn (fun k => wG t v i k (ls + n)) 100)))) (fun j hj => by rw [zput_ne hj, hP j hj]) hT2
        obtain ⟨P2, b1, b2, b3⟩ := ih (by omega) P1 x7 x8 a2 a3
        refine ⟨P2, ?_, b2, b3⟩
        have eidx : nI n * 100 + nI (t 11) = nI (100 * n + t 11) := by
          rw [show (100 : Int32) = nI 100 from rfl, nI_mul, nI_add, Nat.mul_comm]
        have hfl : ¬ (if 0 < i then (1 : Int32) else 0) = 0 := by rw [if_pos h0]; decide
        rw [nI_dn, e70_14, if_neg (nI_pos (by omega)), h66, zbI_some, if_pos (show nI (wmn (fun k => wG t v i k (ls + n)) 100) < 1000000 from nI_lt (b := 1000000) hF (by omega)), if_neg hfl, s0_8, zbI_some, show P 4 8 = nI (t 12) from hcP.2.1 8 (by omega), nI_add, eidx, s5_34, zbV_some, zwr_nI (by omega) (by omega), e70_69]
        rw [nI_0] at a1
        rw [show zkl (some (.int (nI (wmn (fun k => wG t v i k (ls + n)) 100)))) = some (.int (nI (wmn (fun k => wG t v i k (ls + n)) 100))) from rfl, a1, b1]
      · have hT2 : wC (P 34) (aG t v i ls n (aP n 0)) := wC_c hT fun s k h1 h2 => by
          rw [aB_rest hb hi (by omega) h1 h2 hF, if_neg (fun q => h0 q.1)]
        obtain ⟨P1, x7, x8, a1, a2, a3⟩ := s70_c (L := L) (fl := if 0 < i then 1 else 0) (room := room) hb hi (show n ≤ 240 by omega) hg hroom hc hk hlk o1 (t 11 + 1) 0 (by omega) P (some (.int (nI (wmn (fun k => wG t v i k (ls + n)) 100)))) hP hT2
        obtain ⟨P2, b1, b2, b3⟩ := ih (by omega) P1 x7 x8 a2 a3
        refine ⟨P2, ?_, b2, b3⟩
        have hfl : (if 0 < i then (1 : Int32) else 0) = 0 := by rw [if_neg h0]
        rw [nI_dn, e70_14, if_neg (nI_pos (by omega)), h66, zbI_some, if_pos (show nI (wmn (fun k => wG t v i k (ls + n)) 100) < 1000000 from nI_lt (b := 1000000) hF (by omega)), if_pos hfl, e70_69]
        rw [nI_0] at a1
        rw [show zkl (some (.int (nI (wmn (fun k => wG t v i k (ls + n)) 100)))) = some (.int (nI (wmn (fun k => wG t v i k (ls + n)) 100))) from rfl, a1, b1]
    · have hall : ∀ k, wG t v i k (ls + n) = 1000000 := by
        intro k
        have h1 := wG_top t v i k (ls + n)
        by_cases hk1 : k < 100
        · have := wmn_le (f := fun k => wG t v i k (ls + n)) hk1
          omega
        · exact wG_big hb (by omega) (by omega)
      obtain ⟨P2, b1, b2, b3⟩ := ih (by omega) P (some (.int (nI (wmn (fun k => wG t v i k (ls + n)) 100)))) o8 hP (wC_c hT fun s k h1 h2 => aB_skip hb hi (by omega) h1 h2 hall)
      refine ⟨P2, ?_, b2, b3⟩
      rw [nI_dn, e70_14, if_neg (nI_pos (by omega)), h66, zbI_some, if_neg (show ¬ nI (wmn (fun k => wG t v i k (ls + n)) 100) < 1000000 from nI_nlt (b := 1000000) (by omega) (by omega)), e70_95, b1]
end KZ
