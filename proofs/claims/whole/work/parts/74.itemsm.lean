section KP
variable {L : Nat} {ro M : zM} {n : Nat} {X t : Nat → Nat}
theorem s146_l {m : Nat} (hX : wTxt n X) (hM : wTm M n X) (hm : m ≤ 3) : ∀ d k, d + k = m → ∀ (p : Nat) (a : Nat → Nat) (P : zM) (x3 x4 x5 : Option Value), p ≤ n → wFm P M → P 50 = M 50 → P 48 11 = nI p → (∀ j, j < k → P 56 j = nI (a j)) → match wtk X d k p a with
    | none => ∃ P', zden (L + 1) 146 2 [some (.ref 48), some (.int (nI m)), some (.int (nI k)), x3, x4, x5] [] P = some (some (.int 0), P') ∧ wFm P' M ∧ P' 50 = M 50
    | some r => ∃ P', zden (L + 1) 146 2 [some (.ref 48), some (.int (nI m)), some (.int (nI k)), x3, x4, x5] [] P = some (some (.int 1), P') ∧ wFm P' M ∧ P' 50 = M 50 ∧ P' 48 11 = nI r.2 ∧ ∀ j, j < m → P' 56 j = nI (r.1 j) := by
  intro d
  induction d with
  | zero =>
    intro k hd p a P x3 x4 x5 hp hF h50 h11 ha
    have e : k = m := by omega
    subst e
    refine ⟨P, ?_, hF, h50, h11, ha⟩
    rw [e146_2, if_neg (nI_nlt (by omega) (by omega))]
  | succ d ih =>
    intro k hd p a P x3 x4 x5 hp hF h50 h11 ha
    have hMP := wTm_f hF hM
    have hn := s146_n (L := L) (m := m) (k := k) (d := d) hX hMP hm (by omega) hp h11 x5
    have e0 : zden (L + 1) 146 2 [some (.ref 48), some (.int (nI m)), some (.int (nI k)), x3, x4, x5] [] P = zden (L + 1) 146 12 [some (.ref 48), some (.int (nI m)), some (.int (nI k)), some (.int 0), some (.int 0), x5] [] P := by
      rw [e146_2, if_pos (nI_lt (by omega) (by omega))]
    rw [e0]
    unfold wtk
    cases hw : wn1 X p (wsep d) with
    | none =>
      rw [hw] at hn
      obtain ⟨Q, q1, q2, q3⟩ := hn
      dsimp only
      exact ⟨Q, q1, wFm_t q2 hF, by rw [q3, h50]⟩
    | some r =>
      rw [hw] at hn
      dsimp only at hn ⊢
      obtain ⟨Q, y3, y4, y5, q1, q2, q3, q4, q5, q6⟩ := hn
      rw [q1]
      exact ih (k + 1) (by omega) r.2 (wup1 a k r.1) Q y3 y4 y5 (wn1_lt hX hw).2.2.1 (wFm_t q2 hF) (by rw [q3, h50]) q4 (fun j hj => by
        by_cases e : j = k
        · rw [e, q5, wup1_at]
        · rw [q6 j e, wup1_o e, ha j (by omega)])
theorem s146 {m p : Nat} (hX : wTxt n X) (hM : wTm M n X) (hm : m ≤ 3) (hp : p ≤ n) (h11 : M 48 11 = nI p) : match wtk X m 0 p (fun _ => 0) with
    | none => ∃ P', zden (L + 1) 146 0 [some (.ref 48), some (.int (nI m)), none, none, none, none] [] M = some (some (.int 0), P') ∧ wFm P' M ∧ P' 50 = M 50
    | some r => ∃ P', zden (L + 1) 146 0 [some (.ref 48), some (.int (nI m)), none, none, none, none] [] M = some (some (.int 1), P') ∧ wFm P' M ∧ P' 50 = M 50 ∧ P' 48 11 = nI r.2 ∧ ∀ j, j < m → P' 56 j = nI (r.1 j) := by
  have h := s146_l (L := L) hX hM hm m 0 (by omega) p (fun _ => 0) M none none none hp (wFm_r M) rfl h11 (fun j hj => by omega)
  rw [nI_0] at h
  rw [e146_0]
  exact h
theorem s147 {k x : Nat} {i lo hi : Int32} (hi3 : i = nI k) (hk : k < 3) (h : M 56 k = nI x) : zden (L + 1) 147 0 [some (.ref 48), some (.int i), some (.int lo), some (.int hi)] [] M = some (some (.int (zb (zrng (nI x) lo hi))), M) := by
  rw [e147_0, hi3, if_pos ((zinb_nI (by omega)).mpr hk), nI_clamp (by omega), h, s143r L _ lo hi rfl rfl, zbI_some, if_pos (zfit_zb _)]
theorem s147w {kd k x : Nat} {i lo hi : Int32} (hi3 : i = nI k) (hk : k < 3) (hkd : kd < 12) (h : M 56 k = nI x) (hx : x ≤ 99) (hlo : lo = nI (wLo (3 * kd + k))) (hhi : hi = nI (wHi (3 * kd + k))) : zden (L + 1) 147 0 [some (.ref 48), some (.int i), some (.int lo), some (.int hi)] [] M = some (some (.int (zb (wbd kd k x))), M) := by
  have := wLo_le (3 * kd + k) (by omega)
  rw [s147 hi3 hk h, hlo, hhi, zrng_nn (by omega) (by omega) (by omega)]
  rfl
theorem s148 {j x : Nat} {i : Int32} (hi : i = nI j) (hj : j < 116) (h : M 50 j = nI x) : zden (L + 1) 148 0 [some (.ref 48), some (.int i)] [] M = some (some (.int (nI x)), zput M 50 j (nI (x + 1))) := by
  rw [e148_0, hi, if_pos ((zinb_nI (by omega)).mpr hj), if_pos ((zinb_nI (by omega)).mpr hj), if_pos ((zinb_nI (by omega)).mpr hj), nI_clamp (by omega), zput_at, h, nI_1, nI_pred]
theorem s150_k {j m : Nat} (hm : m ≤ 3) (hj : j + m ≤ 116) (P : zM) {k x : Nat} (hk : k < m) (h : P 56 k = nI x) : zden (L + 1) 150 2 [some (.ref 48), some (.int (nI j)), some (.int (nI m)), some (.int (nI k))] [] P = zden (L + 1) 150 2 [some (.ref 48), some (.int (nI j)), some (.int (nI m)), some (.int (nI (k + 1)))] [] (zput P 50 (j + k) (nI x)) := by
  rw [e150_2, if_pos (nI_lt hk (by omega)), if_pos ((zinb_nI (by omega)).mpr (by omega)), nI_add, if_pos ((zinb_nI (by omega)).mpr (by omega)), nI_clamp (by omega), nI_clamp (by omega), h, nI_1]
theorem s150_e {j m : Nat} (hm : m ≤ 3) (P : zM) : zden (L + 1) 150 2 [some (.ref 48), some (.int (nI j)), some (.int (nI m)), some (.int (nI m))] [] P = some (some (.int 1), P) := by
  rw [e150_2, if_neg (nI_nlt (by omega) (by omega))]
theorem s150_1 {j x : Nat} {i : Int32} (hi : i = nI j) (hj : j + 1 ≤ 116) (h0 : M 56 0 = nI x) : zden (L + 1) 150 0 [some (.ref 48), some (.int i), some (.int 1), none] [] M = some (some (.int 1), zput M 50 j (nI x)) := by
  rw [e150_0, hi, show (1 : Int32) = nI 1 from rfl, show (0 : Int32) = nI 0 from rfl, s150_k (by omega) (by omega) M (k := 0) (by omega) h0, s150_e (by omega)]
  rfl
theorem s150_2 {j x y : Nat} {i : Int32} (hi : i = nI j) (hj : j + 2 ≤ 116) (h0 : M 56 0 = nI x) (h1 : M 56 1 = nI y) : zden (L + 1) 150 0 [some (.ref 48), some (.int i), some (.int 2), none] [] M = some (some (.int 1), zput (zput M 50 j (nI x)) 50 (j + 1) (nI y)) := by
  rw [e150_0, hi, show (2 : Int32) = nI 2 from rfl, show (0 : Int32) = nI 0 from rfl, s150_k (by omega) (by omega) M (k := 0) (by omega) h0, s150_k (by omega) (by omega) _ (k := 0 + 1) (by omega) (by rw [zput_ne (by omega)]; exact h1), s150_e (m := 2) (by omega)]
  rfl
theorem s150_3 {j x y z : Nat} {i : Int32} (hi : i = nI j) (hj : j + 3 ≤ 116) (h0 : M 56 0 = nI x) (h1 : M 56 1 = nI y) (h2 : M 56 2 = nI z) : zden (L + 1) 150 0 [some (.ref 48), some (.int i), some (.int 3), none] [] M = some (some (.int 1), zput (zput (zput M 50 j (nI x)) 50 (j + 1) (nI y)) 50 (j + 2) (nI z)) := by
  rw [e150_0, hi, show (3 : Int32) = nI 3 from rfl, show (0 : Int32) = nI 0 from rfl, s150_k (by omega) (by omega) M (k := 0) (by omega) h0, s150_k (by omega) (by omega) _ (k := 0 + 1) (by omega) (by rw [zput_ne (by omega)]; exact h1), s150_k (by omega) (by omega) _ (k := 0 + 1 + 1) (by omega) (by rw [zput_ne (by omega), zput_ne (by omega)]; exact h2), s150_e (m := 3) (by omega)]
  rfl
/-- an item behind its letter -/
def wI2 (X : Nat → Nat) (kd p : Nat) (t : Nat → Nat) : Option (Nat × (Nat → Nat)) := match wtk X (wNm kd) 0 p (fun _ => 0) with
  | none => none
  | some r => if wall kd r.1 (wNm kd) 0 = true then (match wTk t kd r.1 with
    | none => none
    | some u => some (r.2, u)) else none
theorem wIt_2 (X : Nat → Nat) (p : Nat) (t : Nat → Nat) : wIt X p t = if wki (X p) = 12 then none else wI2 X (wki (X p)) (p + 1) t := by
  unfold wIt wI2
  rw [wtb_eq]
  by_cases h : wki (X p) = 12
  · rw [if_pos h, if_pos h]
  · rw [if_neg h, if_neg h]
    cases wtk X (wNm (wki (X p))) 0 (p + 1) (fun _ => 0) with
    | none => rfl
    | some r =>
      dsimp only
      by_cases hw : wall (wki (X p)) r.1 (wNm (wki (X p))) 0 = true
      · rw [if_pos hw, if_pos hw]; rfl
      · rw [if_neg hw, if_neg hw]
/-- how the reference's item ends -/
def wEn (L : Nat) (M : zM) (t : Nat → Nat) (pc : Nat) (o1 : Option Value) (w : Option (Nat × (Nat → Nat))) : Prop := match w with
  | none => ∃ P, zden (L + 1) 156 pc [some (.ref 48), o1] [] M = some (some (.int 0), P) ∧ wFm P M ∧ zTm P 50 t
  | some s => ∃ P, zden (L + 1) 156 pc [some (.ref 48), o1] [] M = some (some (.int 1), P) ∧ wFm P M ∧ zTm P 50 s.2 ∧ P 48 11 = nI s.1
theorem wI2_none {X : Nat → Nat} {kd p : Nat} {t : Nat → Nat} (h : wtk X (wNm kd) 0 p (fun _ => 0) = none) : wI2 X kd p t = none := by unfold wI2; rw [h]
theorem wI2_wall {X : Nat → Nat} {kd p : Nat} {t : Nat → Nat} {r : (Nat → Nat) × Nat} (h : wtk X (wNm kd) 0 p (fun _ => 0) = some r) (hw : ¬ wall kd r.1 (wNm kd) 0 = true) : wI2 X kd p t = none := by unfold wI2; rw [h]; dsimp only; rw [if_neg hw]
theorem wI2_no {X : Nat → Nat} {kd p : Nat} {t : Nat → Nat} {r : (Nat → Nat) × Nat} (h : wtk X (wNm kd) 0 p (fun _ => 0) = some r) (hT : wTk t kd r.1 = none) : wI2 X kd p t = none := by
  unfold wI2; rw [h]; dsimp only; rw [hT]; split <;> rfl
theorem wI2_some {X : Nat → Nat} {kd p : Nat} {t u : Nat → Nat} {r : (Nat → Nat) × Nat} (h : wtk X (wNm kd) 0 p (fun _ => 0) = some r) (hw : wall kd r.1 (wNm kd) 0 = true) (hT : wTk t kd r.1 = some u) : wI2 X kd p t = some (r.2, u) := by unfold wI2; rw [h]; dsimp only; rw [if_pos hw, hT]

theorem s156_0 {p : Nat} (hX : wTxt n X) (hM : wTm M n X) (hm : zTm M 50 t) (hp : zTp t) (hpn : p ≤ n) (h11 : M 48 11 = nI p) (o1 : Option Value) : wEn L M t 116 o1 (wI2 X 0 p t) := by
  obtain ⟨⟨g0, g1, g2, g3⟩, -⟩ := id hp
  have h146 := s146 (L := L) (m := 2) hX hM (by omega) hpn h11
  rw [show nI 2 = (2 : Int32) from rfl] at h146
  cases hk : wtk X 2 0 p (fun _ => 0) with
  | none =>
    rw [hk] at h146
    obtain ⟨P, q1, q2, q3⟩ := h146
    rw [wI2_none (kd := 0) hk]
    refine ⟨P, ?_, q2, zTm_c hm q3⟩
    rw [e156_116, e149_0, q1, zbI_some, if_pos rfl, e149_42, zbI_some, if_pos zfit_0]
  | some r =>
    rw [hk] at h146
    obtain ⟨P, q1, q2, q3, q4, q5⟩ := h146
    have hmP : zTm P 50 t := zTm_c hm q3
    have h99 := (wtk_lt hX (b := r.1) (q := r.2) hpn hk).2.2
    have n0 : P 56 0 = nI (r.1 0) := q5 0 (by omega)
    have l0 : r.1 0 ≤ 99 := h99 0 (by omega) (by omega)
    have n1 : P 56 1 = nI (r.1 1) := q5 1 (by omega)
    have l1 : r.1 1 ≤ 99 := h99 1 (by omega) (by omega)
    cases b0 : wbd 0 0 (r.1 0)
    · rw [wI2_wall (kd := 0) hk (fun q => by have q2 : (wbd 0 0 (r.1 0) && (wbd 0 1 (r.1 1) && true)) = true := q; simp [b0] at q2)]
      refine ⟨P, ?_, q2, hmP⟩
      rw [e156_116, e149_0, q1, zbI_some, if_neg (show ¬ (1 : Int32) = 0 by decide), s147w (kd := 0) (k := 0) (i := 0) (lo := 1) (hi := 30) rfl (by omega) (by omega) n0 l0 rfl rfl, zbI_some, b0, if_pos (show zb false = 0 from rfl), e149_42, zbI_some, if_pos zfit_0]
    · cases b1 : wbd 0 1 (r.1 1)
      · rw [wI2_wall (kd := 0) hk (fun q => by have q2 : (wbd 0 0 (r.1 0) && (wbd 0 1 (r.1 1) && true)) = true := q; simp [b0, b1] at q2)]
        refine ⟨P, ?_, q2, hmP⟩
        rw [e156_116, e149_0, q1, zbI_some, if_neg (show ¬ (1 : Int32) = 0 by decide), s147w (kd := 0) (k := 0) (i := 0) (lo := 1) (hi := 30) rfl (by omega) (by omega) n0 l0 rfl rfl, zbI_some, b0, if_neg (show ¬ zb true = 0 by decide), s147w (kd := 0) (k := 1) (i := 1) (lo := 10) (hi := 60) rfl (by omega) (by omega) n1 l1 rfl rfl, zbI_some, b1, if_pos (show zb false = 0 from rfl), e149_42, zbI_some, if_pos zfit_0]
      · have hw : wall 0 r.1 (wNm 0) 0 = true := by
          show (wbd 0 0 (r.1 0) && (wbd 0 1 (r.1 1) && true)) = true
          rw [b0, b1]; rfl
        by_cases hg : t 0 < 12
        · have hT : wTk t 0 r.1 = some (wup1 (wup1 (wup1 t 0 (t 0 + 1)) (16 + t 0) (r.1 0)) (28 + t 0) (r.1 1)) := by unfold wTk; exact if_pos hg
          rw [wI2_some (kd := 0) hk hw hT]
          refine ⟨(zput (zput (zput P 50 0 (nI (t 0 + 1))) 50 (16 + t 0) (nI (r.1 0))) 50 (28 + t 0) (nI (r.1 1))), ?_, wFm_t (wFm_50 _ _ _) (wFm_t (wFm_50 _ _ _) (wFm_t (wFm_50 _ _ _) q2)), zTm_put (zTm_put (zTm_put hmP)), by rw [zput_ne (show 48 ≠ 50 by omega), zput_ne (show 48 ≠ 50 by omega), zput_ne (show 48 ≠ 50 by omega), q4]⟩
          rw [e156_116, e149_0, q1, zbI_some, if_neg (show ¬ (1 : Int32) = 0 by decide), s147w (kd := 0) (k := 0) (i := 0) (lo := 1) (hi := 30) rfl (by omega) (by omega) n0 l0 rfl rfl, zbI_some, b0, if_neg (show ¬ zb true = 0 by decide), s147w (kd := 0) (k := 1) (i := 1) (lo := 10) (hi := 60) rfl (by omega) (by omega) n1 l1 rfl rfl, zbI_some, b1, if_neg (show ¬ zb true = 0 by decide), hmP 0 (by omega), if_neg (show ¬ nI (t 0) = 12 from fun q => by have := (nI_eq (b := 12) (by omega) (by omega)).mp q; omega), s148 (j := 0) (i := 0) rfl (by omega) (hmP 0 (by omega)), zbI_some, show (16 : Int32) + nI (t 0) = nI (16 + t 0) from nI_add 16 _, show (28 : Int32) + nI (t 0) = nI (28 + t 0) from nI_add 28 _, if_pos ((zinb_nI (by omega)).mpr (by omega)), if_pos ((zinb_nI (by omega)).mpr (by omega)), nI_clamp (by omega), nI_clamp (by omega), zput_ne (show 56 ≠ 50 by omega), zput_ne (show 56 ≠ 50 by omega), n0, zput_ne (show 56 ≠ 50 by omega), n1, zbI_some, if_pos zfit_1]
        · have hT : wTk t 0 r.1 = none := by unfold wTk; exact if_neg hg
          rw [wI2_no (kd := 0) hk hT]
          refine ⟨P, ?_, q2, hmP⟩
          rw [e156_116, e149_0, q1, zbI_some, if_neg (show ¬ (1 : Int32) = 0 by decide), s147w (kd := 0) (k := 0) (i := 0) (lo := 1) (hi := 30) rfl (by omega) (by omega) n0 l0 rfl rfl, zbI_some, b0, if_neg (show ¬ zb true = 0 by decide), s147w (kd := 0) (k := 1) (i := 1) (lo := 10) (hi := 60) rfl (by omega) (by omega) n1 l1 rfl rfl, zbI_some, b1, if_neg (show ¬ zb true = 0 by decide), hmP 0 (by omega), if_pos (show nI (t 0) = 12 by rw [show t 0 = 12 by omega]; rfl), e149_42, zbI_some, if_pos zfit_0]
theorem s156_1 {p : Nat} (hX : wTxt n X) (hM : wTm M n X) (hm : zTm M 50 t) (hp : zTp t) (hpn : p ≤ n) (h11 : M 48 11 = nI p) (o1 : Option Value) : wEn L M t 121 o1 (wI2 X 1 p t) := by
  obtain ⟨⟨g0, g1, g2, g3⟩, -⟩ := id hp
  have h146 := s146 (L := L) (m := 3) hX hM (by omega) hpn h11
  rw [show nI 3 = (3 : Int32) from rfl] at h146
  cases hk : wtk X 3 0 p (fun _ => 0) with
  | none =>
    rw [hk] at h146
    obtain ⟨P, q1, q2, q3⟩ := h146
    rw [wI2_none (kd := 1) hk]
    refine ⟨P, ?_, q2, zTm_c hm q3⟩
    rw [e156_121, q1, zbI_some, if_pos rfl, e156_175, e156_176, if_pos zfit_0]
  | some r =>
    rw [hk] at h146
    obtain ⟨P, q1, q2, q3, q4, q5⟩ := h146
    have hmP : zTm P 50 t := zTm_c hm q3
    have h99 := (wtk_lt hX (b := r.1) (q := r.2) hpn hk).2.2
    have n0 : P 56 0 = nI (r.1 0) := q5 0 (by omega)
    have l0 : r.1 0 ≤ 99 := h99 0 (by omega) (by omega)
    have n1 : P 56 1 = nI (r.1 1) := q5 1 (by omega)
    have l1 : r.1 1 ≤ 99 := h99 1 (by omega) (by omega)
    have n2 : P 56 2 = nI (r.1 2) := q5 2 (by omega)
    have l2 : r.1 2 ≤ 99 := h99 2 (by omega) (by omega)
    cases b0 : wbd 1 0 (r.1 0)
    · rw [wI2_wall (kd := 1) hk (fun q => by have q2 : (wbd 1 0 (r.1 0) && (wbd 1 1 (r.1 1) && (wbd 1 2 (r.1 2) && true))) = true := q; simp [b0] at q2)]
      refine ⟨P, ?_, q2, hmP⟩
      rw [e156_121, q1, zbI_some, if_neg (show ¬ (1 : Int32) = 0 by decide), s147w (kd := 1) (k := 0) (i := 0) (lo := 3) (hi := 40) rfl (by omega) (by omega) n0 l0 rfl rfl, zbI_some, b0, if_pos (show zb false = 0 from rfl), e156_175, e156_176, if_pos zfit_0]
    · cases b1 : wbd 1 1 (r.1 1)
      · rw [wI2_wall (kd := 1) hk (fun q => by have q2 : (wbd 1 0 (r.1 0) && (wbd 1 1 (r.1 1) && (wbd 1 2 (r.1 2) && true))) = true := q; simp [b0, b1] at q2)]
        refine ⟨P, ?_, q2, hmP⟩
        rw [e156_121, q1, zbI_some, if_neg (show ¬ (1 : Int32) = 0 by decide), s147w (kd := 1) (k := 0) (i := 0) (lo := 3) (hi := 40) rfl (by omega) (by omega) n0 l0 rfl rfl, zbI_some, b0, if_neg (show ¬ zb true = 0 by decide), s147w (kd := 1) (k := 1) (i := 1) (lo := 1) (hi := 60) rfl (by omega) (by omega) n1 l1 rfl rfl, zbI_some, b1, if_pos (show zb false = 0 from rfl), e156_175, e156_176, if_pos zfit_0]
      · cases b2 : wbd 1 2 (r.1 2)
        · rw [wI2_wall (kd := 1) hk (fun q => by have q2 : (wbd 1 0 (r.1 0) && (wbd 1 1 (r.1 1) && (wbd 1 2 (r.1 2) && true))) = true := q; simp [b0, b1, b2] at q2)]
          refine ⟨P, ?_, q2, hmP⟩
          rw [e156_121, q1, zbI_some, if_neg (show ¬ (1 : Int32) = 0 by decide), s147w (kd := 1) (k := 0) (i := 0) (lo := 3) (hi := 40) rfl (by omega) (by omega) n0 l0 rfl rfl, zbI_some, b0, if_neg (show ¬ zb true = 0 by decide), s147w (kd := 1) (k := 1) (i := 1) (lo := 1) (hi := 60) rfl (by omega) (by omega) n1 l1 rfl rfl, zbI_some, b1, if_neg (show ¬ zb true = 0 by decide), s147w (kd := 1) (k := 2) (i := 2) (lo := 1) (hi := 99) rfl (by omega) (by omega) n2 l2 rfl rfl, zbI_some, b2, if_pos (show zb false = 0 from rfl), e156_175, e156_176, if_pos zfit_0]
        · have hw : wall 1 r.1 (wNm 1) 0 = true := by
            show (wbd 1 0 (r.1 0) && (wbd 1 1 (r.1 1) && (wbd 1 2 (r.1 2) && true))) = true
            rw [b0, b1, b2]; rfl
          rw [wI2_some (kd := 1) hk hw (u := (wup1 (wup1 (wup1 t 4 (r.1 0)) 5 (r.1 1)) 6 (r.1 2))) rfl]
          refine ⟨(zput (zput (zput P 50 4 (nI (r.1 0))) 50 5 (nI (r.1 1))) 50 6 (nI (r.1 2))), ?_, (wFm_t (wFm_50 _ _ _) (wFm_t (wFm_50 _ _ _) (wFm_t (wFm_50 _ _ _) q2))), (zTm_put (zTm_put (zTm_put hmP))), by rw [zput_ne (show 48 ≠ 50 by omega), zput_ne (show 48 ≠ 50 by omega), zput_ne (show 48 ≠ 50 by omega), q4]⟩
          rw [e156_121, q1, zbI_some, if_neg (show ¬ (1 : Int32) = 0 by decide), s147w (kd := 1) (k := 0) (i := 0) (lo := 3) (hi := 40) rfl (by omega) (by omega) n0 l0 rfl rfl, zbI_some, b0, if_neg (show ¬ zb true = 0 by decide), s147w (kd := 1) (k := 1) (i := 1) (lo := 1) (hi := 60) rfl (by omega) (by omega) n1 l1 rfl rfl, zbI_some, b1, if_neg (show ¬ zb true = 0 by decide), s147w (kd := 1) (k := 2) (i := 2) (lo := 1) (hi := 99) rfl (by omega) (by omega) n2 l2 rfl rfl, zbI_some, b2, if_neg (show ¬ zb true = 0 by decide), s150_3 (j := 4) (i := 4) rfl (by omega) n0 n1 n2, zbI_some, if_neg (show ¬ (1 : Int32) = 0 by decide), e156_176, if_pos zfit_1]
theorem s156_2 {p : Nat} (hX : wTxt n X) (hM : wTm M n X) (hm : zTm M 50 t) (hp : zTp t) (hpn : p ≤ n) (h11 : M 48 11 = nI p) (o1 : Option Value) : wEn L M t 177 o1 (wI2 X 2 p t) := by
  obtain ⟨⟨g0, g1, g2, g3⟩, -⟩ := id hp
  have h146 := s146 (L := L) (m := 1) hX hM (by omega) hpn h11
  rw [show nI 1 = (1 : Int32) from rfl] at h146
  cases hk : wtk X 1 0 p (fun _ => 0) with
  | none =>
    rw [hk] at h146
    obtain ⟨P, q1, q2, q3⟩ := h146
    rw [wI2_none (kd := 2) hk]
    refine ⟨P, ?_, q2, zTm_c hm q3⟩
    rw [e156_177, q1, zbI_some, if_pos rfl, e156_210, e156_211, if_pos zfit_0]
  | some r =>
    rw [hk] at h146
    obtain ⟨P, q1, q2, q3, q4, q5⟩ := h146
    have hmP : zTm P 50 t := zTm_c hm q3
    have h99 := (wtk_lt hX (b := r.1) (q := r.2) hpn hk).2.2
    have n0 : P 56 0 = nI (r.1 0) := q5 0 (by omega)
    have l0 : r.1 0 ≤ 99 := h99 0 (by omega) (by omega)
    cases b0 : wbd 2 0 (r.1 0)
    · rw [wI2_wall (kd := 2) hk (fun q => by have q2 : (wbd 2 0 (r.1 0) && true) = true := q; simp [b0] at q2)]
      refine ⟨P, ?_, q2, hmP⟩
      rw [e156_177, q1, zbI_some, if_neg (show ¬ (1 : Int32) = 0 by decide), s147w (kd := 2) (k := 0) (i := 0) (lo := 0) (hi := 40) rfl (by omega) (by omega) n0 l0 rfl rfl, zbI_some, b0, if_pos (show zb false = 0 from rfl), e156_210, e156_211, if_pos zfit_0]
    · have hw : wall 2 r.1 (wNm 2) 0 = true := by
        show (wbd 2 0 (r.1 0) && true) = true
        rw [b0]; rfl
      rw [wI2_some (kd := 2) hk hw (u := (wup1 t 7 (r.1 0))) rfl]
      refine ⟨(zput P 50 7 (nI (r.1 0))), ?_, (wFm_t (wFm_50 _ _ _) q2), (zTm_put hmP), by rw [zput_ne (show 48 ≠ 50 by omega), q4]⟩
      rw [e156_177, q1, zbI_some, if_neg (show ¬ (1 : Int32) = 0 by decide), s147w (kd := 2) (k := 0) (i := 0) (lo := 0) (hi := 40) rfl (by omega) (by omega) n0 l0 rfl rfl, zbI_some, b0, if_neg (show ¬ zb true = 0 by decide), s150_1 (j := 7) (i := 7) rfl (by omega) n0, zbI_some, if_neg (show ¬ (1 : Int32) = 0 by decide), e156_211, if_pos zfit_1]
theorem s156_3 {p : Nat} (hX : wTxt n X) (hM : wTm M n X) (hm : zTm M 50 t) (hp : zTp t) (hpn : p ≤ n) (h11 : M 48 11 = nI p) (o1 : Option Value) : wEn L M t 212 o1 (wI2 X 3 p t) := by
  obtain ⟨⟨g0, g1, g2, g3⟩, -⟩ := id hp
  have h146 := s146 (L := L) (m := 3) hX hM (by omega) hpn h11
  rw [show nI 3 = (3 : Int32) from rfl] at h146
  cases hk : wtk X 3 0 p (fun _ => 0) with
  | none =>
    rw [hk] at h146
    obtain ⟨P, q1, q2, q3⟩ := h146
    rw [wI2_none (kd := 3) hk]
    refine ⟨P, ?_, q2, zTm_c hm q3⟩
    rw [e156_212, q1, zbI_some, if_pos rfl, e156_245, e156_246, if_pos zfit_0]
  | some r =>
    rw [hk] at h146
    obtain ⟨P, q1, q2, q3, q4, q5⟩ := h146
    have hmP : zTm P 50 t := zTm_c hm q3
    have h99 := (wtk_lt hX (b := r.1) (q := r.2) hpn hk).2.2
    have n0 : P 56 0 = nI (r.1 0) := q5 0 (by omega)
    have l0 : r.1 0 ≤ 99 := h99 0 (by omega) (by omega)
    have n1 : P 56 1 = nI (r.1 1) := q5 1 (by omega)
    have l1 : r.1 1 ≤ 99 := h99 1 (by omega) (by omega)
    have n2 : P 56 2 = nI (r.1 2) := q5 2 (by omega)
    have l2 : r.1 2 ≤ 99 := h99 2 (by omega) (by omega)
    cases b0 : wbd 3 0 (r.1 0)
    · rw [wI2_wall (kd := 3) hk (fun q => by have q2 : (wbd 3 0 (r.1 0) && (wbd 3 1 (r.1 1) && (wbd 3 2 (r.1 2) && true))) = true := q; simp [b0] at q2)]
      refine ⟨P, ?_, q2, hmP⟩
      rw [e156_212, q1, zbI_some, if_neg (show ¬ (1 : Int32) = 0 by decide), s147w (kd := 3) (k := 0) (i := 0) (lo := 0) (hi := 40) rfl (by omega) (by omega) n0 l0 rfl rfl, zbI_some, b0, if_pos (show zb false = 0 from rfl), e156_245, e156_246, if_pos zfit_0]
    · have b1 : wbd 3 1 (r.1 1) = true := wbd_iff.mpr ⟨Nat.zero_le _, l1⟩
      have b2 : wbd 3 2 (r.1 2) = true := wbd_iff.mpr ⟨Nat.zero_le _, l2⟩
      have hw : wall 3 r.1 (wNm 3) 0 = true := by
        show (wbd 3 0 (r.1 0) && (wbd 3 1 (r.1 1) && (wbd 3 2 (r.1 2) && true))) = true
        rw [b0, b1, b2]; rfl
      rw [wI2_some (kd := 3) hk hw (u := (wup1 (wup1 (wup1 t 8 (r.1 0)) 9 (r.1 1)) 10 (r.1 2))) rfl]
      refine ⟨(zput (zput (zput P 50 8 (nI (r.1 0))) 50 9 (nI (r.1 1))) 50 10 (nI (r.1 2))), ?_, (wFm_t (wFm_50 _ _ _) (wFm_t (wFm_50 _ _ _) (wFm_t (wFm_50 _ _ _) q2))), (zTm_put (zTm_put (zTm_put hmP))), by rw [zput_ne (show 48 ≠ 50 by omega), zput_ne (show 48 ≠ 50 by omega), zput_ne (show 48 ≠ 50 by omega), q4]⟩
      rw [e156_212, q1, zbI_some, if_neg (show ¬ (1 : Int32) = 0 by decide), s147w (kd := 3) (k := 0) (i := 0) (lo := 0) (hi := 40) rfl (by omega) (by omega) n0 l0 rfl rfl, zbI_some, b0, if_neg (show ¬ zb true = 0 by decide), s150_3 (j := 8) (i := 8) rfl (by omega) n0 n1 n2, zbI_some, if_neg (show ¬ (1 : Int32) = 0 by decide), e156_246, if_pos zfit_1]
theorem s156_4 {p : Nat} (hX : wTxt n X) (hM : wTm M n X) (hm : zTm M 50 t) (hp : zTp t) (hpn : p ≤ n) (h11 : M 48 11 = nI p) (o1 : Option Value) : wEn L M t 247 o1 (wI2 X 4 p t) := by
  obtain ⟨⟨g0, g1, g2, g3⟩, -⟩ := id hp
  have h146 := s146 (L := L) (m := 2) hX hM (by omega) hpn h11
  rw [show nI 2 = (2 : Int32) from rfl] at h146
  cases hk : wtk X 2 0 p (fun _ => 0) with
  | none =>
    rw [hk] at h146
    obtain ⟨P, q1, q2, q3⟩ := h146
    rw [wI2_none (kd := 4) hk]
    refine ⟨P, ?_, q2, zTm_c hm q3⟩
    rw [e156_247, q1, zbI_some, if_pos rfl, e156_291, e156_292, if_pos zfit_0]
  | some r =>
    rw [hk] at h146
    obtain ⟨P, q1, q2, q3, q4, q5⟩ := h146
    have hmP : zTm P 50 t := zTm_c hm q3
    have h99 := (wtk_lt hX (b := r.1) (q := r.2) hpn hk).2.2
    have n0 : P 56 0 = nI (r.1 0) := q5 0 (by omega)
    have l0 : r.1 0 ≤ 99 := h99 0 (by omega) (by omega)
    have n1 : P 56 1 = nI (r.1 1) := q5 1 (by omega)
    have l1 : r.1 1 ≤ 99 := h99 1 (by omega) (by omega)
    cases b0 : wbd 4 0 (r.1 0)
    · rw [wI2_wall (kd := 4) hk (fun q => by have q2 : (wbd 4 0 (r.1 0) && (wbd 4 1 (r.1 1) && true)) = true := q; simp [b0] at q2)]
      refine ⟨P, ?_, q2, hmP⟩
      rw [e156_247, q1, zbI_some, if_neg (show ¬ (1 : Int32) = 0 by decide), s147w (kd := 4) (k := 0) (i := 0) (lo := 1) (hi := 99) rfl (by omega) (by omega) n0 l0 rfl rfl, zbI_some, b0, if_pos (show zb false = 0 from rfl), e156_291, e156_292, if_pos zfit_0]
    · cases b1 : wbd 4 1 (r.1 1)
      · rw [wI2_wall (kd := 4) hk (fun q => by have q2 : (wbd 4 0 (r.1 0) && (wbd 4 1 (r.1 1) && true)) = true := q; simp [b0, b1] at q2)]
        refine ⟨P, ?_, q2, hmP⟩
        rw [e156_247, q1, zbI_some, if_neg (show ¬ (1 : Int32) = 0 by decide), s147w (kd := 4) (k := 0) (i := 0) (lo := 1) (hi := 99) rfl (by omega) (by omega) n0 l0 rfl rfl, zbI_some, b0, if_neg (show ¬ zb true = 0 by decide), s147w (kd := 4) (k := 1) (i := 1) (lo := 1) (hi := 99) rfl (by omega) (by omega) n1 l1 rfl rfl, zbI_some, b1, if_pos (show zb false = 0 from rfl), e156_291, e156_292, if_pos zfit_0]
      · have hw : wall 4 r.1 (wNm 4) 0 = true := by
          show (wbd 4 0 (r.1 0) && (wbd 4 1 (r.1 1) && true)) = true
          rw [b0, b1]; rfl
        rw [wI2_some (kd := 4) hk hw (u := (wup1 (wup1 t 11 (r.1 0)) 12 (r.1 1))) rfl]
        refine ⟨(zput (zput P 50 11 (nI (r.1 0))) 50 12 (nI (r.1 1))), ?_, (wFm_t (wFm_50 _ _ _) (wFm_t (wFm_50 _ _ _) q2)), (zTm_put (zTm_put hmP)), by rw [zput_ne (show 48 ≠ 50 by omega), zput_ne (show 48 ≠ 50 by omega), q4]⟩
        rw [e156_247, q1, zbI_some, if_neg (show ¬ (1 : Int32) = 0 by decide), s147w (kd := 4) (k := 0) (i := 0) (lo := 1) (hi := 99) rfl (by omega) (by omega) n0 l0 rfl rfl, zbI_some, b0, if_neg (show ¬ zb true = 0 by decide), s147w (kd := 4) (k := 1) (i := 1) (lo := 1) (hi := 99) rfl (by omega) (by omega) n1 l1 rfl rfl, zbI_some, b1, if_neg (show ¬ zb true = 0 by decide), s150_2 (j := 11) (i := 11) rfl (by omega) n0 n1, zbI_some, if_neg (show ¬ (1 : Int32) = 0 by decide), e156_292, if_pos zfit_1]
theorem s156_5 {p : Nat} (hX : wTxt n X) (hM : wTm M n X) (hm : zTm M 50 t) (hp : zTp t) (hpn : p ≤ n) (h11 : M 48 11 = nI p) (o1 : Option Value) : wEn L M t 293 o1 (wI2 X 5 p t) := by
  obtain ⟨⟨g0, g1, g2, g3⟩, -⟩ := id hp
  have h146 := s146 (L := L) (m := 2) hX hM (by omega) hpn h11
  rw [show nI 2 = (2 : Int32) from rfl] at h146
  cases hk : wtk X 2 0 p (fun _ => 0) with
  | none =>
    rw [hk] at h146
    obtain ⟨P, q1, q2, q3⟩ := h146
    rw [wI2_none (kd := 5) hk]
    refine ⟨P, ?_, q2, zTm_c hm q3⟩
    rw [e156_293, e151_0, q1, zbI_some, if_pos rfl, e151_40, zbI_some, if_pos zfit_0]
  | some r =>
    rw [hk] at h146
    obtain ⟨P, q1, q2, q3, q4, q5⟩ := h146
    have hmP : zTm P 50 t := zTm_c hm q3
    have h99 := (wtk_lt hX (b := r.1) (q := r.2) hpn hk).2.2
    have n0 : P 56 0 = nI (r.1 0) := q5 0 (by omega)
    have l0 : r.1 0 ≤ 99 := h99 0 (by omega) (by omega)
    have n1 : P 56 1 = nI (r.1 1) := q5 1 (by omega)
    have l1 : r.1 1 ≤ 99 := h99 1 (by omega) (by omega)
    cases b0 : wbd 5 0 (r.1 0)
    · rw [wI2_wall (kd := 5) hk (fun q => by have q2 : (wbd 5 0 (r.1 0) && (wbd 5 1 (r.1 1) && true)) = true := q; simp [b0] at q2)]
      refine ⟨P, ?_, q2, hmP⟩
      rw [e156_293, e151_0, q1, zbI_some, if_neg (show ¬ (1 : Int32) = 0 by decide), s147w (kd := 5) (k := 0) (i := 0) (lo := 1) (hi := 99) rfl (by omega) (by omega) n0 l0 rfl rfl, zbI_some, b0, if_pos (show zb false = 0 from rfl), e151_40, zbI_some, if_pos zfit_0]
    · cases b1 : wbd 5 1 (r.1 1)
      · rw [wI2_wall (kd := 5) hk (fun q => by have q2 : (wbd 5 0 (r.1 0) && (wbd 5 1 (r.1 1) && true)) = true := q; simp [b0, b1] at q2)]
        refine ⟨P, ?_, q2, hmP⟩
        rw [e156_293, e151_0, q1, zbI_some, if_neg (show ¬ (1 : Int32) = 0 by decide), s147w (kd := 5) (k := 0) (i := 0) (lo := 1) (hi := 99) rfl (by omega) (by omega) n0 l0 rfl rfl, zbI_some, b0, if_neg (show ¬ zb true = 0 by decide), s147w (kd := 5) (k := 1) (i := 1) (lo := 0) (hi := 10) rfl (by omega) (by omega) n1 l1 rfl rfl, zbI_some, b1, if_pos (show zb false = 0 from rfl), e151_40, zbI_some, if_pos zfit_0]
      · have hw : wall 5 r.1 (wNm 5) 0 = true := by
          show (wbd 5 0 (r.1 0) && (wbd 5 1 (r.1 1) && true)) = true
          rw [b0, b1]; rfl
        by_cases hg : t 1 < 4
        · have hT : wTk t 5 r.1 = some (wup1 (wup1 (wup1 t 1 (t 1 + 1)) (40 + t 1) (r.1 0)) (44 + t 1) (r.1 1)) := by unfold wTk; exact if_pos hg
          rw [wI2_some (kd := 5) hk hw hT]
          refine ⟨(zput (zput (zput P 50 1 (nI (t 1 + 1))) 50 (40 + t 1) (nI (r.1 0))) 50 (44 + t 1) (nI (r.1 1))), ?_, wFm_t (wFm_50 _ _ _) (wFm_t (wFm_50 _ _ _) (wFm_t (wFm_50 _ _ _) q2)), zTm_put (zTm_put (zTm_put hmP)), by rw [zput_ne (show 48 ≠ 50 by omega), zput_ne (show 48 ≠ 50 by omega), zput_ne (show 48 ≠ 50 by omega), q4]⟩
          rw [e156_293, e151_0, q1, zbI_some, if_neg (show ¬ (1 : Int32) = 0 by decide), s147w (kd := 5) (k := 0) (i := 0) (lo := 1) (hi := 99) rfl (by omega) (by omega) n0 l0 rfl rfl, zbI_some, b0, if_neg (show ¬ zb true = 0 by decide), s147w (kd := 5) (k := 1) (i := 1) (lo := 0) (hi := 10) rfl (by omega) (by omega) n1 l1 rfl rfl, zbI_some, b1, if_neg (show ¬ zb true = 0 by decide), hmP 1 (by omega), if_neg (show ¬ nI (t 1) = 4 from fun q => by have := (nI_eq (b := 4) (by omega) (by omega)).mp q; omega), s148 (j := 1) (i := 1) rfl (by omega) (hmP 1 (by omega)), zbI_some, show (40 : Int32) + nI (t 1) = nI (40 + t 1) from nI_add 40 _, show (44 : Int32) + nI (t 1) = nI (44 + t 1) from nI_add 44 _, if_pos ((zinb_nI (by omega)).mpr (by omega)), if_pos ((zinb_nI (by omega)).mpr (by omega)), nI_clamp (by omega), nI_clamp (by omega), zput_ne (show 56 ≠ 50 by omega), zput_ne (show 56 ≠ 50 by omega), n0, zput_ne (show 56 ≠ 50 by omega), n1, zbI_some, if_pos zfit_1]
        · have hT : wTk t 5 r.1 = none := by unfold wTk; exact if_neg hg
          rw [wI2_no (kd := 5) hk hT]
          refine ⟨P, ?_, q2, hmP⟩
          rw [e156_293, e151_0, q1, zbI_some, if_neg (show ¬ (1 : Int32) = 0 by decide), s147w (kd := 5) (k := 0) (i := 0) (lo := 1) (hi := 99) rfl (by omega) (by omega) n0 l0 rfl rfl, zbI_some, b0, if_neg (show ¬ zb true = 0 by decide), s147w (kd := 5) (k := 1) (i := 1) (lo := 0) (hi := 10) rfl (by omega) (by omega) n1 l1 rfl rfl, zbI_some, b1, if_neg (show ¬ zb true = 0 by decide), hmP 1 (by omega), if_pos (show nI (t 1) = 4 by rw [show t 1 = 4 by omega]; rfl), e151_40, zbI_some, if_pos zfit_0]
theorem s156_6 {p : Nat} (hX : wTxt n X) (hM : wTm M n X) (hm : zTm M 50 t) (hp : zTp t) (hpn : p ≤ n) (h11 : M 48 11 = nI p) (o1 : Option Value) : wEn L M t 298 o1 (wI2 X 6 p t) := by
  obtain ⟨⟨g0, g1, g2, g3⟩, -⟩ := id hp
  have h146 := s146 (L := L) (m := 2) hX hM (by omega) hpn h11
  rw [show nI 2 = (2 : Int32) from rfl] at h146
  cases hk : wtk X 2 0 p (fun _ => 0) with
  | none =>
    rw [hk] at h146
    obtain ⟨P, q1, q2, q3⟩ := h146
    rw [wI2_none (kd := 6) hk]
    refine ⟨P, ?_, q2, zTm_c hm q3⟩
    rw [e156_298, e152_0, q1, zbI_some, if_pos rfl, e152_30, zbI_some, if_pos zfit_0]
  | some r =>
    rw [hk] at h146
    obtain ⟨P, q1, q2, q3, q4, q5⟩ := h146
    have hmP : zTm P 50 t := zTm_c hm q3
    have h99 := (wtk_lt hX (b := r.1) (q := r.2) hpn hk).2.2
    have n0 : P 56 0 = nI (r.1 0) := q5 0 (by omega)
    have l0 : r.1 0 ≤ 99 := h99 0 (by omega) (by omega)
    have n1 : P 56 1 = nI (r.1 1) := q5 1 (by omega)
    have l1 : r.1 1 ≤ 99 := h99 1 (by omega) (by omega)
    cases b0 : wbd 6 0 (r.1 0)
    · rw [wI2_wall (kd := 6) hk (fun q => by have q2 : (wbd 6 0 (r.1 0) && (wbd 6 1 (r.1 1) && true)) = true := q; simp [b0] at q2)]
      refine ⟨P, ?_, q2, hmP⟩
      rw [e156_298, e152_0, q1, zbI_some, if_neg (show ¬ (1 : Int32) = 0 by decide), s147w (kd := 6) (k := 0) (i := 0) (lo := 0) (hi := 23) rfl (by omega) (by omega) n0 l0 rfl rfl, zbI_some, b0, if_pos (show zb false = 0 from rfl), e152_30, zbI_some, if_pos zfit_0]
    · cases b1 : wbd 6 1 (r.1 1)
      · rw [wI2_wall (kd := 6) hk (fun q => by have q2 : (wbd 6 0 (r.1 0) && (wbd 6 1 (r.1 1) && true)) = true := q; simp [b0, b1] at q2)]
        refine ⟨P, ?_, q2, hmP⟩
        rw [e156_298, e152_0, q1, zbI_some, if_neg (show ¬ (1 : Int32) = 0 by decide), s147w (kd := 6) (k := 0) (i := 0) (lo := 0) (hi := 23) rfl (by omega) (by omega) n0 l0 rfl rfl, zbI_some, b0, if_neg (show ¬ zb true = 0 by decide), s147w (kd := 6) (k := 1) (i := 1) (lo := 0) (hi := 9) rfl (by omega) (by omega) n1 l1 rfl rfl, zbI_some, b1, if_pos (show zb false = 0 from rfl), e152_30, zbI_some, if_pos zfit_0]
      · have hw : wall 6 r.1 (wNm 6) 0 = true := by
          show (wbd 6 0 (r.1 0) && (wbd 6 1 (r.1 1) && true)) = true
          rw [b0, b1]; rfl
        have bb := wbd_iff.mp b0
        have bb2 : r.1 0 ≤ 23 := bb.2
        rw [wI2_some (kd := 6) hk hw (u := (wup1 t (48 + r.1 0) (r.1 1))) rfl]
        refine ⟨(zput P 50 (48 + r.1 0) (nI (r.1 1))), ?_, (wFm_t (wFm_50 _ _ _) q2), (zTm_put hmP), by rw [zput_ne (show 48 ≠ 50 by omega), q4]⟩
        rw [e156_298, e152_0, q1, zbI_some, if_neg (show ¬ (1 : Int32) = 0 by decide), s147w (kd := 6) (k := 0) (i := 0) (lo := 0) (hi := 23) rfl (by omega) (by omega) n0 l0 rfl rfl, zbI_some, b0, if_neg (show ¬ zb true = 0 by decide), s147w (kd := 6) (k := 1) (i := 1) (lo := 0) (hi := 9) rfl (by omega) (by omega) n1 l1 rfl rfl, zbI_some, b1, if_neg (show ¬ zb true = 0 by decide), n0, show (48 : Int32) + nI (r.1 0) = nI (48 + r.1 0) from nI_add 48 _, if_pos ((zinb_nI (by omega)).mpr (by omega)), nI_clamp (by omega), n1, zbI_some, if_pos zfit_1]
theorem s156_7 {p : Nat} (hX : wTxt n X) (hM : wTm M n X) (hm : zTm M 50 t) (hp : zTp t) (hpn : p ≤ n) (h11 : M 48 11 = nI p) (o1 : Option Value) : wEn L M t 303 o1 (wI2 X 7 p t) := by
  obtain ⟨⟨g0, g1, g2, g3⟩, -⟩ := id hp
  have h146 := s146 (L := L) (m := 2) hX hM (by omega) hpn h11
  rw [show nI 2 = (2 : Int32) from rfl] at h146
  cases hk : wtk X 2 0 p (fun _ => 0) with
  | none =>
    rw [hk] at h146
    obtain ⟨P, q1, q2, q3⟩ := h146
    rw [wI2_none (kd := 7) hk]
    refine ⟨P, ?_, q2, zTm_c hm q3⟩
    rw [e156_303, q1, zbI_some, if_pos rfl, e156_325, e156_326, if_pos zfit_0]
  | some r =>
    rw [hk] at h146
    obtain ⟨P, q1, q2, q3, q4, q5⟩ := h146
    have hmP : zTm P 50 t := zTm_c hm q3
    have h99 := (wtk_lt hX (b := r.1) (q := r.2) hpn hk).2.2
    have n0 : P 56 0 = nI (r.1 0) := q5 0 (by omega)
    have l0 : r.1 0 ≤ 99 := h99 0 (by omega) (by omega)
    have n1 : P 56 1 = nI (r.1 1) := q5 1 (by omega)
    have l1 : r.1 1 ≤ 99 := h99 1 (by omega) (by omega)
    have b0 : wbd 7 0 (r.1 0) = true := wbd_iff.mpr ⟨Nat.zero_le _, l0⟩
    have b1 : wbd 7 1 (r.1 1) = true := wbd_iff.mpr ⟨Nat.zero_le _, l1⟩
    have hw : wall 7 r.1 (wNm 7) 0 = true := by
      show (wbd 7 0 (r.1 0) && (wbd 7 1 (r.1 1) && true)) = true
      rw [b0, b1]; rfl
    rw [wI2_some (kd := 7) hk hw (u := (wup1 (wup1 t 13 (r.1 0)) 14 (r.1 1))) rfl]
    refine ⟨(zput (zput P 50 13 (nI (r.1 0))) 50 14 (nI (r.1 1))), ?_, (wFm_t (wFm_50 _ _ _) (wFm_t (wFm_50 _ _ _) q2)), (zTm_put (zTm_put hmP)), by rw [zput_ne (show 48 ≠ 50 by omega), zput_ne (show 48 ≠ 50 by omega), q4]⟩
    rw [e156_303, q1, zbI_some, if_neg (show ¬ (1 : Int32) = 0 by decide), s150_2 (j := 13) (i := 13) rfl (by omega) n0 n1, zbI_some, if_neg (show ¬ (1 : Int32) = 0 by decide), e156_326, if_pos zfit_1]
theorem s156_8 {p : Nat} (hX : wTxt n X) (hM : wTm M n X) (hm : zTm M 50 t) (hp : zTp t) (hpn : p ≤ n) (h11 : M 48 11 = nI p) (o1 : Option Value) : wEn L M t 327 o1 (wI2 X 8 p t) := by
  obtain ⟨⟨g0, g1, g2, g3⟩, -⟩ := id hp
  have h146 := s146 (L := L) (m := 1) hX hM (by omega) hpn h11
  rw [show nI 1 = (1 : Int32) from rfl] at h146
  cases hk : wtk X 1 0 p (fun _ => 0) with
  | none =>
    rw [hk] at h146
    obtain ⟨P, q1, q2, q3⟩ := h146
    rw [wI2_none (kd := 8) hk]
    refine ⟨P, ?_, q2, zTm_c hm q3⟩
    rw [e156_327, q1, zbI_some, if_pos rfl, e156_360, e156_361, if_pos zfit_0]
  | some r =>
    rw [hk] at h146
    obtain ⟨P, q1, q2, q3, q4, q5⟩ := h146
    have hmP : zTm P 50 t := zTm_c hm q3
    have h99 := (wtk_lt hX (b := r.1) (q := r.2) hpn hk).2.2
    have n0 : P 56 0 = nI (r.1 0) := q5 0 (by omega)
    have l0 : r.1 0 ≤ 99 := h99 0 (by omega) (by omega)
    cases b0 : wbd 8 0 (r.1 0)
    · rw [wI2_wall (kd := 8) hk (fun q => by have q2 : (wbd 8 0 (r.1 0) && true) = true := q; simp [b0] at q2)]
      refine ⟨P, ?_, q2, hmP⟩
      rw [e156_327, q1, zbI_some, if_neg (show ¬ (1 : Int32) = 0 by decide), s147w (kd := 8) (k := 0) (i := 0) (lo := 1) (hi := 99) rfl (by omega) (by omega) n0 l0 rfl rfl, zbI_some, b0, if_pos (show zb false = 0 from rfl), e156_360, e156_361, if_pos zfit_0]
    · have hw : wall 8 r.1 (wNm 8) 0 = true := by
        show (wbd 8 0 (r.1 0) && true) = true
        rw [b0]; rfl
      rw [wI2_some (kd := 8) hk hw (u := (wup1 t 15 (r.1 0))) rfl]
      refine ⟨(zput P 50 15 (nI (r.1 0))), ?_, (wFm_t (wFm_50 _ _ _) q2), (zTm_put hmP), by rw [zput_ne (show 48 ≠ 50 by omega), q4]⟩
      rw [e156_327, q1, zbI_some, if_neg (show ¬ (1 : Int32) = 0 by decide), s147w (kd := 8) (k := 0) (i := 0) (lo := 1) (hi := 99) rfl (by omega) (by omega) n0 l0 rfl rfl, zbI_some, b0, if_neg (show ¬ zb true = 0 by decide), s150_1 (j := 15) (i := 15) rfl (by omega) n0, zbI_some, if_neg (show ¬ (1 : Int32) = 0 by decide), e156_361, if_pos zfit_1]
theorem s156_9 {p : Nat} (hX : wTxt n X) (hM : wTm M n X) (hm : zTm M 50 t) (hp : zTp t) (hpn : p ≤ n) (h11 : M 48 11 = nI p) (o1 : Option Value) : wEn L M t 362 o1 (wI2 X 9 p t) := by
  obtain ⟨⟨g0, g1, g2, g3⟩, -⟩ := id hp
  have h146 := s146 (L := L) (m := 1) hX hM (by omega) hpn h11
  rw [show nI 1 = (1 : Int32) from rfl] at h146
  cases hk : wtk X 1 0 p (fun _ => 0) with
  | none =>
    rw [hk] at h146
    obtain ⟨P, q1, q2, q3⟩ := h146
    rw [wI2_none (kd := 9) hk]
    refine ⟨P, ?_, q2, zTm_c hm q3⟩
    rw [e156_362, e153_0, q1, zbI_some, if_pos rfl, e153_30, zbI_some, if_pos zfit_0]
  | some r =>
    rw [hk] at h146
    obtain ⟨P, q1, q2, q3, q4, q5⟩ := h146
    have hmP : zTm P 50 t := zTm_c hm q3
    have h99 := (wtk_lt hX (b := r.1) (q := r.2) hpn hk).2.2
    have n0 : P 56 0 = nI (r.1 0) := q5 0 (by omega)
    have l0 : r.1 0 ≤ 99 := h99 0 (by omega) (by omega)
    cases b0 : wbd 9 0 (r.1 0)
    · rw [wI2_wall (kd := 9) hk (fun q => by have q2 : (wbd 9 0 (r.1 0) && true) = true := q; simp [b0] at q2)]
      refine ⟨P, ?_, q2, hmP⟩
      rw [e156_362, e153_0, q1, zbI_some, if_neg (show ¬ (1 : Int32) = 0 by decide), s147w (kd := 9) (k := 0) (i := 0) (lo := 0) (hi := 60) rfl (by omega) (by omega) n0 l0 rfl rfl, zbI_some, b0, if_pos (show zb false = 0 from rfl), e153_30, zbI_some, if_pos zfit_0]
    · have hw : wall 9 r.1 (wNm 9) 0 = true := by
        show (wbd 9 0 (r.1 0) && true) = true
        rw [b0]; rfl
      by_cases hg : t 2 < 7
      · have hT : wTk t 9 r.1 = some (wup1 (wup1 t 2 (t 2 + 1)) (72 + t 2) (r.1 0)) := by unfold wTk; exact if_pos hg
        rw [wI2_some (kd := 9) hk hw hT]
        refine ⟨(zput (zput P 50 2 (nI (t 2 + 1))) 50 (72 + t 2) (nI (r.1 0))), ?_, wFm_t (wFm_50 _ _ _) (wFm_t (wFm_50 _ _ _) q2), zTm_put (zTm_put hmP), by rw [zput_ne (show 48 ≠ 50 by omega), zput_ne (show 48 ≠ 50 by omega), q4]⟩
        rw [e156_362, e153_0, q1, zbI_some, if_neg (show ¬ (1 : Int32) = 0 by decide), s147w (kd := 9) (k := 0) (i := 0) (lo := 0) (hi := 60) rfl (by omega) (by omega) n0 l0 rfl rfl, zbI_some, b0, if_neg (show ¬ zb true = 0 by decide), hmP 2 (by omega), if_neg (show ¬ nI (t 2) = 7 from fun q => by have := (nI_eq (b := 7) (by omega) (by omega)).mp q; omega), s148 (j := 2) (i := 2) rfl (by omega) (hmP 2 (by omega)), zbI_some, show (72 : Int32) + nI (t 2) = nI (72 + t 2) from nI_add 72 _, s150_1 (j := 72 + t 2) rfl (by omega) (by rw [zput_ne (by omega)]; exact n0), zbI_some, if_pos zfit_1, zbI_some, if_pos zfit_1]
      · have hT : wTk t 9 r.1 = none := by unfold wTk; exact if_neg hg
        rw [wI2_no (kd := 9) hk hT]
        refine ⟨P, ?_, q2, hmP⟩
        rw [e156_362, e153_0, q1, zbI_some, if_neg (show ¬ (1 : Int32) = 0 by decide), s147w (kd := 9) (k := 0) (i := 0) (lo := 0) (hi := 60) rfl (by omega) (by omega) n0 l0 rfl rfl, zbI_some, b0, if_neg (show ¬ zb true = 0 by decide), hmP 2 (by omega), if_pos (show nI (t 2) = 7 by rw [show t 2 = 7 by omega]; rfl), e153_30, zbI_some, if_pos zfit_0]
theorem s156_10 {p : Nat} (hX : wTxt n X) (hM : wTm M n X) (hm : zTm M 50 t) (hp : zTp t) (hpn : p ≤ n) (h11 : M 48 11 = nI p) (o1 : Option Value) : wEn L M t 367 o1 (wI2 X 10 p t) := by
  obtain ⟨⟨g0, g1, g2, g3⟩, -⟩ := id hp
  have h146 := s146 (L := L) (m := 3) hX hM (by omega) hpn h11
  rw [show nI 3 = (3 : Int32) from rfl] at h146
  cases hk : wtk X 3 0 p (fun _ => 0) with
  | none =>
    rw [hk] at h146
    obtain ⟨P, q1, q2, q3⟩ := h146
    rw [wI2_none (kd := 10) hk]
    refine ⟨P, ?_, q2, zTm_c hm q3⟩
    rw [e156_367, e154_0, q1, zbI_some, if_pos rfl, e154_74, zbI_some, if_pos zfit_0]
  | some r =>
    rw [hk] at h146
    obtain ⟨P, q1, q2, q3, q4, q5⟩ := h146
    have hmP : zTm P 50 t := zTm_c hm q3
    have h99 := (wtk_lt hX (b := r.1) (q := r.2) hpn hk).2.2
    have n0 : P 56 0 = nI (r.1 0) := q5 0 (by omega)
    have l0 : r.1 0 ≤ 99 := h99 0 (by omega) (by omega)
    have n1 : P 56 1 = nI (r.1 1) := q5 1 (by omega)
    have l1 : r.1 1 ≤ 99 := h99 1 (by omega) (by omega)
    have n2 : P 56 2 = nI (r.1 2) := q5 2 (by omega)
    have l2 : r.1 2 ≤ 99 := h99 2 (by omega) (by omega)
    have e2 : M 50 2 = nI (t 2) := hm 2 (by omega)
    have rl : ∀ x, x ≤ 99 → zrng (nI x) 0 (nI (t 2) - 1) = decide (x < t 2) := by
      intro x hx
      by_cases h : x < t 2
      · have e1 : nI (t 2) - 1 = nI (t 2 - 1) := nI_sub (b := 1) (by omega)
        rw [e1, decide_eq_true h, zrng_of (by omega) (by omega)]
      · rw [decide_eq_false h]
        rcases zrng_cases (nI x) 0 (nI (t 2) - 1) with q | q
        · obtain ⟨j, hj, e⟩ := zrng_cnt (by omega) q
          have := (nI_eq (by omega) (by omega)).mp e
          omega
        · exact q
    by_cases hg : t 3 < 10 ∧ r.1 0 < t 2 ∧ r.1 1 < t 2 ∧ r.1 0 ≠ r.1 1
    · have hT : wTk t 10 r.1 = some (wup1 (wup1 (wup1 (wup1 t 3 (t 3 + 1)) (86 + t 3) (r.1 0)) (96 + t 3) (r.1 1)) (106 + t 3) (r.1 2)) := by unfold wTk; exact if_pos hg
      have P0 : zden (L + 1) 156 367 [some (.ref 48), o1] [] M = zbI (zbI (zden (L + 1) 147 0 [some (.ref 48), some (.int 2), some (.int 1), some (.int 60)] [] P) (fun r4 M4 => if r4 = 0 then zden (L + 1) 154 74 [some (.ref 48), some (.int (nI (t 2) - 1)), none] [] M4 else (if (M4 50 3) = 10 then zden (L + 1) 154 74 [some (.ref 48), some (.int (nI (t 2) - 1)), none] [] M4 else (zbI (zden (L + 1) 148 0 [some (.ref 48), some (.int 3)] [] M4) (fun r5 M5 => if zinb (86 + r5) 116 = true then (if zinb (96 + r5) 116 = true then (if zinb (106 + r5) 116 = true then (some (some (.int 1), zput (zput (zput M5 50 (86 + r5).toNatClampNeg (M5 56 0)) 50 (96 + r5).toNatClampNeg ((zput M5 50 (86 + r5).toNatClampNeg (M5 56 0)) 56 1)) 50 (106 + r5).toNatClampNeg ((zput (zput M5 50 (86 + r5).toNatClampNeg (M5 56 0)) 50 (96 + r5).toNatClampNeg ((zput M5 50 (86 + r5).toNatClampNeg (M5 56 0)) 56 1)) 56 2))) else none) else none) else none))))) (fun r1 M1 => if zfit (some .boolean) r1 = true then some (some (.int r1), M1) else none) := by
        rw [e156_367, e154_0, q1, zbI_some, if_neg (show ¬ (1 : Int32) = 0 by decide), e2, s147 (k := 0) (i := 0) rfl (by omega) n0, zbI_some, rl _ l0, decide_eq_true hg.2.1, if_neg (show ¬ zb true = 0 by decide), s147 (k := 1) (i := 1) rfl (by omega) n1, zbI_some, rl _ l1, decide_eq_true hg.2.2.1, if_neg (show ¬ zb true = 0 by decide), n0, n1, if_neg (fun q => hg.2.2.2 ((nI_eq (by omega) (by omega)).mp q))]
      cases b2 : wbd 10 2 (r.1 2)
      · rw [wI2_wall (kd := 10) hk (fun q => by have q2 : (wbd 10 0 (r.1 0) && (wbd 10 1 (r.1 1) && (wbd 10 2 (r.1 2) && true))) = true := q; simp [b2] at q2)]
        refine ⟨P, ?_, q2, hmP⟩
        rw [P0, s147w (kd := 10) (k := 2) (i := 2) (lo := 1) (hi := 60) rfl (by omega) (by omega) n2 l2 rfl rfl, zbI_some, b2, if_pos (show zb false = 0 from rfl), e154_74, zbI_some, if_pos zfit_0]
      · have hw : wall 10 r.1 (wNm 10) 0 = true := by
          show (wbd 10 0 (r.1 0) && (wbd 10 1 (r.1 1) && (wbd 10 2 (r.1 2) && true))) = true
          rw [show wbd 10 0 (r.1 0) = true from wbd_iff.mpr ⟨Nat.zero_le _, show r.1 0 ≤ 6 by omega⟩, show wbd 10 1 (r.1 1) = true from wbd_iff.mpr ⟨Nat.zero_le _, show r.1 1 ≤ 6 by omega⟩, b2]; rfl
        rw [wI2_some (kd := 10) hk hw hT]
        refine ⟨(zput (zput (zput (zput P 50 3 (nI (t 3 + 1))) 50 (86 + t 3) (nI (r.1 0))) 50 (96 + t 3) (nI (r.1 1))) 50 (106 + t 3) (nI (r.1 2))), ?_, wFm_t (wFm_50 _ _ _) (wFm_t (wFm_50 _ _ _) (wFm_t (wFm_50 _ _ _) (wFm_t (wFm_50 _ _ _) q2))), zTm_put (zTm_put (zTm_put (zTm_put hmP))), by rw [zput_ne (show 48 ≠ 50 by omega), zput_ne (show 48 ≠ 50 by omega), zput_ne (show 48 ≠ 50 by omega), zput_ne (show 48 ≠ 50 by omega), q4]⟩
        rw [P0, s147w (kd := 10) (k := 2) (i := 2) (lo := 1) (hi := 60) rfl (by omega) (by omega) n2 l2 rfl rfl, zbI_some, b2, if_neg (show ¬ zb true = 0 by decide), hmP 3 (by omega), if_neg (show ¬ nI (t 3) = 10 from fun q => by have := (nI_eq (b := 10) (by omega) (by omega)).mp q; omega), s148 (j := 3) (i := 3) rfl (by omega) (hmP 3 (by omega)), zbI_some, show (86 : Int32) + nI (t 3) = nI (86 + t 3) from nI_add 86 _, show (96 : Int32) + nI (t 3) = nI (96 + t 3) from nI_add 96 _, show (106 : Int32) + nI (t 3) = nI (106 + t 3) from nI_add 106 _, if_pos ((zinb_nI (by omega)).mpr (by omega)), if_pos ((zinb_nI (by omega)).mpr (by omega)), if_pos ((zinb_nI (by omega)).mpr (by omega)), nI_clamp (by omega), nI_clamp (by omega), nI_clamp (by omega)]
        simp only [zput_ne (show 56 ≠ 50 by omega), n0, n1, n2, zbI_some, if_pos zfit_1]
    · have hT : wTk t 10 r.1 = none := by unfold wTk; exact if_neg hg
      rw [wI2_no (kd := 10) hk hT]
      refine ⟨P, ?_, q2, hmP⟩
      rw [e156_367, e154_0, q1, zbI_some, if_neg (show ¬ (1 : Int32) = 0 by decide), e2, s147 (k := 0) (i := 0) rfl (by omega) n0, zbI_some, rl _ l0]
      by_cases h2 : r.1 0 < t 2
      · rw [decide_eq_true h2, if_neg (show ¬ zb true = 0 by decide), s147 (k := 1) (i := 1) rfl (by omega) n1, zbI_some, rl _ l1]
        by_cases h3 : r.1 1 < t 2
        · rw [decide_eq_true h3, if_neg (show ¬ zb true = 0 by decide), n0, n1]
          by_cases h4 : r.1 0 = r.1 1
          · rw [if_pos (by rw [h4]), e154_74, zbI_some, if_pos zfit_0]
          · rw [if_neg (fun q => h4 ((nI_eq (by omega) (by omega)).mp q)), s147w (kd := 10) (k := 2) (i := 2) (lo := 1) (hi := 60) rfl (by omega) (by omega) n2 l2 rfl rfl, zbI_some]
            cases b2 : wbd 10 2 (r.1 2)
            · rw [if_pos (show zb false = 0 from rfl), e154_74, zbI_some, if_pos zfit_0]
            · rw [if_neg (show ¬ zb true = 0 by decide), hmP 3 (by omega), if_pos (show nI (t 3) = 10 by rw [show t 3 = 10 by omega]; rfl), e154_74, zbI_some, if_pos zfit_0]
        · rw [decide_eq_false h3, if_pos (show zb false = 0 from rfl), e154_74, zbI_some, if_pos zfit_0]
      · rw [decide_eq_false h2, if_pos (show zb false = 0 from rfl), e154_74, zbI_some, if_pos zfit_0]
theorem s156_11 {p : Nat} (hX : wTxt n X) (hM : wTm M n X) (hm : zTm M 50 t) (hp : zTp t) (hpn : p ≤ n) (h11 : M 48 11 = nI p) (o1 : Option Value) : wEn L M t 372 o1 (wI2 X 11 p t) := by
  obtain ⟨⟨g0, g1, g2, g3⟩, -⟩ := id hp
  have h146 := s146 (L := L) (m := 1) hX hM (by omega) hpn h11
  rw [show nI 1 = (1 : Int32) from rfl] at h146
  cases hk : wtk X 1 0 p (fun _ => 0) with
  | none =>
    rw [hk] at h146
    obtain ⟨P, q1, q2, q3⟩ := h146
    rw [wI2_none (kd := 11) hk]
    refine ⟨P, ?_, q2, zTm_c hm q3⟩
    rw [e156_372, e155_0, q1, zbI_some, if_pos rfl, e155_25, zbI_some, if_pos zfit_0]
  | some r =>
    rw [hk] at h146
    obtain ⟨P, q1, q2, q3, q4, q5⟩ := h146
    have hmP : zTm P 50 t := zTm_c hm q3
    have h99 := (wtk_lt hX (b := r.1) (q := r.2) hpn hk).2.2
    have n0 : P 56 0 = nI (r.1 0) := q5 0 (by omega)
    have l0 : r.1 0 ≤ 99 := h99 0 (by omega) (by omega)
    have rl : ∀ x, x ≤ 99 → zrng (nI x) 0 (nI (t 2) - 1) = decide (x < t 2) := by
      intro x hx
      by_cases h : x < t 2
      · have e1 : nI (t 2) - 1 = nI (t 2 - 1) := nI_sub (b := 1) (by omega)
        rw [e1, decide_eq_true h, zrng_of (by omega) (by omega)]
      · rw [decide_eq_false h]
        rcases zrng_cases (nI x) 0 (nI (t 2) - 1) with q | q
        · obtain ⟨j, hj, e⟩ := zrng_cnt (by omega) q
          have := (nI_eq (by omega) (by omega)).mp e
          omega
        · exact q
    by_cases hg : r.1 0 < t 2
    · have hT : wTk t 11 r.1 = some (wup1 t (79 + r.1 0) 1) := by unfold wTk; exact if_pos hg
      have hw : wall 11 r.1 (wNm 11) 0 = true := by
        show (wbd 11 0 (r.1 0) && true) = true
        rw [show wbd 11 0 (r.1 0) = true from wbd_iff.mpr ⟨Nat.zero_le _, show r.1 0 ≤ 6 by omega⟩]; rfl
      rw [wI2_some (kd := 11) hk hw hT]
      refine ⟨zput P 50 (79 + r.1 0) (nI 1), ?_, wFm_t (wFm_50 _ _ _) q2, zTm_put hmP, by rw [zput_ne (show 48 ≠ 50 by omega), q4]⟩
      rw [e156_372, e155_0, q1, zbI_some, if_neg (show ¬ (1 : Int32) = 0 by decide), hmP 2 (by omega), s147 (k := 0) (i := 0) rfl (by omega) n0, zbI_some, rl _ l0, decide_eq_true hg, if_neg (show ¬ zb true = 0 by decide), n0, show (79 : Int32) + nI (r.1 0) = nI (79 + r.1 0) from nI_add 79 _, if_pos ((zinb_nI (by omega)).mpr (by omega)), nI_clamp (by omega), zbI_some, if_pos zfit_1]
      rfl
    · have hT : wTk t 11 r.1 = none := by unfold wTk; exact if_neg hg
      rw [wI2_no (kd := 11) hk hT]
      refine ⟨P, ?_, q2, hmP⟩
      rw [e156_372, e155_0, q1, zbI_some, if_neg (show ¬ (1 : Int32) = 0 by decide), hmP 2 (by omega), s147 (k := 0) (i := 0) rfl (by omega) n0, zbI_some, rl _ l0, decide_eq_false hg, if_pos (show zb false = 0 from rfl), e155_25, zbI_some, if_pos zfit_0]
end KP
