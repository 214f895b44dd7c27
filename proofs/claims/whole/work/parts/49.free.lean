def wsum (f : Nat → Nat) : Nat → Nat
  | 0 => 0
  | n + 1 => wsum f n + f n
theorem wsum_c {f g : Nat → Nat} : ∀ n, (∀ i, i < n → f i = g i) → wsum f n = wsum g n
  | 0, _ => rfl
  | n + 1, h => by
    show wsum f n + f n = wsum g n + g n
    rw [wsum_c n (fun i hi => h i (by omega)), h n (by omega)]
theorem wsum_add (f g : Nat → Nat) : ∀ n, wsum (fun i => f i + g i) n = wsum f n + wsum g n
  | 0 => rfl
  | n + 1 => by
    show wsum (fun i => f i + g i) n + (f n + g n) = (wsum f n + f n) + (wsum g n + g n)
    rw [wsum_add f g n]; omega
theorem wsum_le {f : Nat → Nat} {c : Nat} : ∀ n, (∀ i, i < n → f i ≤ c) → wsum f n ≤ n * c
  | 0, _ => by simp [wsum]
  | n + 1, h => by
    have h1 := wsum_le n (fun i hi => h i (by omega))
    have h2 := h n (by omega)
    show wsum f n + f n ≤ (n + 1) * c
    rw [Nat.add_mul]; omega
theorem wsum_lo (f : Nat → Nat) (a : Nat) : ∀ k, k ≤ a + 1 → wsum (fun y => if a < y then f y else 0) k = 0
  | 0, _ => rfl
  | k + 1, h => by
    show wsum _ k + (if a < k then f k else 0) = 0
    rw [wsum_lo f a k (by omega), if_neg (by omega)]
theorem wsum_sw {f : Nat → Nat → Nat} (h : ∀ a b, f a b = f b a) : ∀ n, wsum (fun a => wsum (fun b => if a < b then f a b else 0) n) n = wsum (fun a => wsum (f a) a) n
  | 0 => rfl
  | n + 1 => by
    show wsum (fun a => wsum (fun b => if a < b then f a b else 0) (n + 1)) n + wsum (fun b => if n < b then f n b else 0) (n + 1) = wsum (fun a => wsum (f a) a) n + wsum (f n) n
    rw [wsum_lo (f n) n (n + 1) (Nat.le_refl _), Nat.add_zero]
    have e : wsum (fun a => wsum (fun b => if a < b then f a b else 0) (n + 1)) n = wsum (fun a => wsum (fun b => if a < b then f a b else 0) n + f n a) n := wsum_c n (fun a ha => by
      show wsum (fun b => if a < b then f a b else 0) n + (if a < n then f a n else 0) = _
      rw [if_pos ha, h a n])
    rw [e, wsum_add, wsum_sw h n]
/-- stairs of a station with these lifts; a free pair; how many -/
def wsr (t : Nat → Nat) (B q : Nat) : Nat := if B / 2 ^ q % 2 = 1 then 0 else t (72 + q)
def wfp (t : Nat → Nat) (B a b : Nat) : Nat := if wDw t (t 2) a b < 1000000 ∧ wsr t B a + wsr t B b = 0 then 1 else 0
def wfr (t : Nat → Nat) (B : Nat) : Nat := wsum (fun a => wsum (wfp t B a) a) (t 2)
theorem wfp_le (t : Nat → Nat) (B a b : Nat) : wfp t B a b ≤ 1 := by unfold wfp; split <;> omega
theorem wfp_sym {t : Nat → Nat} (hb : zTb t) (B a b : Nat) : wfp t B a b = wfp t B b a := by
  unfold wfp
  rw [(wDw_ok hb (t 2)).2.1 a b, Nat.add_comm (wsr t B a)]
theorem wfr_le {t : Nat → Nat} (hb : zTb t) (B : Nat) : wfr t B ≤ 49 := by
  have h7 := wT2 hb
  have h1 : wfr t B ≤ t 2 * 7 := wsum_le (t 2) (fun a ha => by
    have := wsum_le (f := wfp t B a) (c := 1) a (fun b _ => wfp_le t B a b)
    omega)
  omega
section KR
variable {L : Nat} {ro M : zM} {t : Nat → Nat}
theorem wsr_le {B q : Nat} (hb : zTb t) (hq : q < t 2) : wsr t B q ≤ 60 := by
  have := (hb.2.2.2.2.2.1 q hq).1
  unfold wsr; split <;> omega
theorem s23 {B q : Nat} (hb : zTb t) (hc : zTc M 1 t) (hq : q < t 2) (hB : B < 128) : zden (L + 1) 23 0 [some (.ref 38), some (.int (nI q)), some (.int (nI B))] [] M = some (some (.int (nI (wsr t B q))), M) := by
  have h7 := wT2 hb
  have h2 : B / 2 ^ q % 2 < 2 := Nat.mod_lt _ (by omega)
  rw [e23_0, s18 L hB (by omega), zbI_some]
  unfold wsr
  by_cases h : B / 2 ^ q % 2 = 1
  · rw [h, if_neg (by decide), if_pos rfl, e23_23]; rfl
  · rw [if_neg h, show B / 2 ^ q % 2 = 0 by omega, if_pos (show nI 0 = 0 from rfl), s4_8, zbI_some, e23_23, zrd_nI (by omega), if_pos (by omega), show M 8 q = nI (t (72 + q)) from hc.2.2.2.2.2.1 q hq]
theorem s214 {B q : Nat} (hb : zTb t) (hm : zTm M 49 t) (hq : q < t 2) (hB : B < 128) : zden (L + 1) 214 0 [some (.ref 48), some (.int (nI q)), some (.int (nI B))] [] M = some (some (.int (nI (wsr t B q))), M) := by
  have h7 := wT2 hb
  have h2 : B / 2 ^ q % 2 < 2 := Nat.mod_lt _ (by omega)
  have hz := zbit_get ⟨B, hB⟩ ⟨q, by omega⟩
  dsimp only at hz
  rw [e214_0, hz]
  unfold wsr
  by_cases h : B / 2 ^ q % 2 = 1
  · rw [h, if_pos (show nI 1 = 1 from rfl), if_pos rfl, e214_22]; rfl
  · rw [if_neg h, show B / 2 ^ q % 2 = 0 by omega, if_neg (show ¬ nI 0 = 1 by decide), show (72 : Int32) + nI q = nI (72 + q) from nI_add 72 q, if_pos ((zinb_nI (by omega)).mpr (by omega)), e214_22, nI_clamp (by omega), hm _ (by omega)]
theorem s24 {B x y : Nat} (hb : zTb t) (hc : zTc M 1 t) (hx : x < t 2) (hy : y < t 2) (hxy : x ≠ y) (hB : B < 128) : zden (L + 1) 24 0 [some (.ref 38), some (.int (nI x)), some (.int (nI y)), some (.int (nI B))] [] M = some (some (.int (nI (wsr t B x + wsr t B y))), M) := by
  have h7 := wT2 hb
  rw [e24_0, if_neg (fun q => hxy ((nI_eq (by omega) (by omega)).mp q)), s23 hb hc hx hB, zbI_some, s23 hb hc hy hB, zbI_some, e24_22, nI_add]
theorem s25_b {B : Nat} (hb : zTb t) (hc : zTc M 1 t) (hT : wTab (M 39) (t 2) (wDw t (t 2))) (hB : B < 128) : ∀ d b, d + b = t 2 → ∀ a c, a < b → zden (L + 1) 25 20 [some (.ref 38), some (.int (nI B)), some (.int (nI (c + wsum (fun y => if a < y then wfp t B a y else 0) b))), some (.int (nI a)), some (.int (nI b))] [] M = zden (L + 1) 25 4 [some (.ref 38), some (.int (nI B)), some (.int (nI (c + wsum (fun y => if a < y then wfp t B a y else 0) (t 2)))), some (.int (nI (a + 1))), some (.int (nI (t 2)))] [] M := by
  have h7 := wT2 hb
  intro d
  induction d with
  | zero =>
    intro b hd a c hab
    have hbb : b = t 2 := by omega
    subst hbb
    rw [e25_20, hc.1.2.2.1, if_neg (nI_nlt (by omega) (by omega)), nI_1]
  | succ d ih =>
    intro b hd a c hab
    have hD := (wDw_ok hb (t 2)).2.2 a b
    have g := ih (b + 1) (by omega) a c (by omega)
    have e : wsum (fun y => if a < y then wfp t B a y else 0) (b + 1) = wsum (fun y => if a < y then wfp t B a y else 0) b + wfp t B a b := by
      show _ + (if a < b then wfp t B a b else 0) = _
      rw [if_pos hab]
    rw [e] at g
    rw [e25_20, hc.1.2.2.1, if_pos (nI_lt (by omega) (by omega)), s20 h7 hT (by omega) (by omega), zbI_some]
    unfold wfp at g ⊢
    by_cases h1 : wDw t (t 2) a b < 1000000
    · have hs1 := wsr_le (B := B) hb (show a < t 2 by omega)
      have hs2 := wsr_le (B := B) hb (show b < t 2 by omega)
      rw [if_pos (show nI (wDw t (t 2) a b) < 1000000 from nI_lt (b := 1000000) h1 (by omega)), s24 hb hc (by omega) (by omega) (by omega) hB, zbI_some]
      by_cases h2 : wsr t B a + wsr t B b = 0
      · rw [if_pos (show wDw t (t 2) a b < 1000000 ∧ wsr t B a + wsr t B b = 0 from ⟨h1, h2⟩)] at g
        rw [h2, if_pos (show nI 0 = 0 from rfl), e25_58, nI_1, nI_1]
        exact g
      · rw [if_neg (show ¬ (wDw t (t 2) a b < 1000000 ∧ wsr t B a + wsr t B b = 0) from fun q => h2 q.2), Nat.add_zero] at g
        rw [if_neg (nI_ne0 (by omega) (by omega)), e25_58, nI_1]
        exact g
    · rw [if_neg (show ¬ (wDw t (t 2) a b < 1000000 ∧ wsr t B a + wsr t B b = 0) from fun q => h1 q.1), Nat.add_zero] at g
      rw [if_neg (show ¬ nI (wDw t (t 2) a b) < 1000000 from nI_nlt (b := 1000000) (by omega) (by omega)), e25_58, nI_1]
      exact g
theorem s25_a {B : Nat} (hb : zTb t) (hc : zTc M 1 t) (hT : wTab (M 39) (t 2) (wDw t (t 2))) (hB : B < 128) : ∀ d a, d + a = t 2 → ∀ o : Option Value, zden (L + 1) 25 4 [some (.ref 38), some (.int (nI B)), some (.int (nI (wsum (fun x => wsum (fun y => if x < y then wfp t B x y else 0) (t 2)) a))), some (.int (nI a)), o] [] M = some (some (.int (nI (wfr t B))), M) := by
  have h7 := wT2 hb
  intro d
  induction d with
  | zero =>
    intro a hd o
    have hbb : a = t 2 := by omega
    subst hbb
    rw [e25_4, hc.1.2.2.1, if_neg (nI_nlt (by omega) (by omega)), wsum_sw (wfp_sym hb B)]; rfl
  | succ d ih =>
    intro a hd o
    have g := s25_b (L := L) hb hc hT hB (t 2 - (a + 1)) (a + 1) (by omega) a (wsum (fun x => wsum (fun y => if x < y then wfp t B x y else 0) (t 2)) a) (by omega)
    rw [wsum_lo _ _ _ (Nat.le_refl _)] at g
    simp only [Nat.add_zero] at g
    rw [e25_4, hc.1.2.2.1, if_pos (nI_lt (by omega) (by omega)), nI_1, g]
    exact ih (a + 1) (by omega) _
theorem s25 {B : Nat} (hb : zTb t) (hc : zTc M 1 t) (hT : wTab (M 39) (t 2) (wDw t (t 2))) (hB : B < 128) : zden (L + 1) 25 0 [some (.ref 38), some (.int (nI B)), none, none, none] [] M = some (some (.int (nI (wfr t B))), M) := by
  rw [e25_0]
  exact s25_a hb hc hT hB (t 2) 0 (by omega) none
theorem s216_b {B : Nat} (hb : zTb t) (hm : zTm M 49 t) (hT : wTab (M 61) (t 2) (wDw t (t 2))) (hB : B < 128) : ∀ d b a, d + b = a → a < t 2 → ∀ c, zden (L + 1) 216 21 [some (.ref 48), some (.int (nI B)), some (.int (nI (c + wsum (wfp t B a) b))), some (.int (nI a)), some (.int (nI b))] [] M = zden (L + 1) 216 8 [some (.ref 48), some (.int (nI B)), some (.int (nI (c + wsum (wfp t B a) a))), some (.int (nI (a + 1))), some (.int (nI a))] [] M := by
  have h7 := wT2 hb
  intro d
  induction d with
  | zero =>
    intro b a hd ha c
    have hbb : b = a := by omega
    subst hbb
    rw [e216_21, if_neg (nI_nlt (by omega) (by omega)), nI_1]
  | succ d ih =>
    intro b a hd ha c
    have hD := (wDw_ok hb (t 2)).2.2 a b
    have g := ih (b + 1) a (by omega) ha c
    have e : wsum (wfp t B a) (b + 1) = wsum (wfp t B a) b + wfp t B a b := rfl
    rw [e] at g
    rw [e216_21, if_pos (nI_lt (by omega) (by omega)), n7, if_pos ((zinb_nI (by omega)).mpr (by omega)), nI_clamp (by omega), hT a b ha (by omega)]
    by_cases h1 : wDw t (t 2) a b < 1000000
    · have hs1 := wsr_le (B := B) hb (show a < t 2 by omega)
      have hs2 := wsr_le (B := B) hb (show b < t 2 by omega)
      rw [if_pos (show nI (wDw t (t 2) a b) < 1000000 from nI_lt (b := 1000000) h1 (by omega)), s214 hb hm (by omega) hB, zbI_some, s214 hb hm (by omega) hB, zbI_some, nI_add]
      by_cases h2 : wsr t B a + wsr t B b = 0
      · have e2 : wfp t B a b = 1 := by unfold wfp; rw [if_pos ⟨h1, h2⟩]
        rw [h2, if_pos (show nI 0 = 0 from rfl), e216_67, nI_1, nI_1]
        rw [e2] at g
        exact g
      · have e2 : wfp t B a b = 0 := by unfold wfp; rw [if_neg (fun q => h2 q.2)]
        rw [if_neg (nI_ne0 (by omega) (by omega)), e216_66, e216_67, nI_1, show (0 : Int32) = nI 0 from rfl, nI_add]
        rw [e2] at g
        exact g
    · have e2 : wfp t B a b = 0 := by unfold wfp; rw [if_neg (fun q => h1 q.1)]
      rw [if_neg (show ¬ nI (wDw t (t 2) a b) < 1000000 from nI_nlt (b := 1000000) (by omega) (by omega)), e216_66, e216_67, nI_1, show (0 : Int32) = nI 0 from rfl, nI_add]
      rw [e2] at g
      exact g
theorem s216_a {B : Nat} (hb : zTb t) (hm : zTm M 49 t) (hT : wTab (M 61) (t 2) (wDw t (t 2))) (hB : B < 128) : ∀ d a, d + a = t 2 → ∀ o : Option Value, zden (L + 1) 216 8 [some (.ref 48), some (.int (nI B)), some (.int (nI (wsum (fun x => wsum (wfp t B x) x) a))), some (.int (nI a)), o] [] M = some (some (.int (nI (wfr t B))), M) := by
  have h7 := wT2 hb
  intro d
  induction d with
  | zero =>
    intro a hd o
    have hbb : a = t 2 := by omega
    subst hbb
    rw [e216_8, hm 2 (by omega), if_neg (nI_nlt (by omega) (by omega))]; rfl
  | succ d ih =>
    intro a hd o
    have g := s216_b (L := L) hb hm hT hB a 0 a (by omega) (by omega) (wsum (fun x => wsum (wfp t B x) x) a)
    rw [show wsum (wfp t B a) 0 = 0 from rfl] at g
    simp only [Nat.add_zero] at g
    rw [e216_8, hm 2 (by omega), if_pos (nI_lt (by omega) (by omega)), show (0 : Int32) = nI 0 from rfl, g]
    exact ih (a + 1) (by omega) _
theorem s216 {B : Nat} (hb : zTb t) (hm : zTm M 49 t) (hB : B < 128) : ∃ M', zden (L + 1) 216 0 [some (.ref 48), some (.int (nI B)), none, none, none] [] M = some (some (.int (nI (wfr t B))), M') ∧ ∀ i, i ≠ 61 → M' i = M i := by
  obtain ⟨M1, h1, h2, h3⟩ := s212 (L := L) hb hm
  refine ⟨M1, ?_, h2⟩
  rw [e216_0, h1, zbV_some]
  exact s216_a hb (zTm_61 hm h2) h3 hB (t 2) 0 (by omega) none
theorem zRel_39 {M1 M2 : zM} (hR : zRel M) (hro : ∀ i, zNW ≤ i → M i = ro i) (h1 : ∀ i, i ≠ 39 → M1 i = M i) (h2 : ∀ i, i ≠ 61 → M2 i = M1 i) : zRel M2 ∧ ∀ i, zNW ≤ i → M2 i = ro i :=
  ⟨zRel_1 (a := 61) (by decide) (zRel_1 (a := 39) (by decide) hR h1) h2, fun i hi => by rw [h2 i (zn62 hi (by omega)), h1 i (zn62 hi (by omega)), hro i hi]⟩
theorem k_free (hR : zRel M) (hro : ∀ i, zNW ≤ i → M i = ro i) : zSame L ro 129 217 [some (.ref 0)] [some (.ref 48)] M := by
  obtain ⟨t, hb, hc, hm, -⟩ := id hR
  obtain ⟨M1, a1, a2, a3⟩ := s22 (L := L) hb hc
  have hc1 := zTc_39 hc a2
  have hm1 : zTm M1 49 t := zTm_c hm (a2 49 (by omega))
  obtain ⟨M2, b1, b2⟩ := s216 (L := L) hb hm1 (zbits_128 hb)
  obtain ⟨r1, r2⟩ := zRel_39 hR hro a2 b2
  refine ⟨nI (wfr t (zbits (fun q => t (79 + q)) (t 2))), M1, M2, ?_, ?_, r1, r2⟩
  · rw [e129_0, a1, zbV_some, hc1.1.2.2.2.2, s25 hb hc1 a3 (zbits_128 hb), zbI_some]
  · rw [e217_0, s213 hb hm1, zbI_some, b1, zbI_some]
theorem k_travel (a b w : Int32) (hR : zRel M) (hro : ∀ i, zNW ≤ i → M i = ro i) : zSame L ro 128 215 [some (.ref 0), some (.int a), some (.int b), some (.int w), none] [some (.ref 48), some (.int a), some (.int b), some (.int w), none] M := by
  obtain ⟨t, hb, hc, hm, -⟩ := id hR
  have h0 : M 1 9 = nI (t 2) := hc.1.2.2.1
  have h0' : M 49 2 = nI (t 2) := hm 2 (by omega)
  have h7 := wT2 hb
  rcases zrng_cases a 0 (nI (t 2) - 1) with ha | ha
  · rcases zrng_cases b 0 (nI (t 2) - 1) with hbb | hbb
    · rcases zrng_cases w 0 1 with hw | hw
      · obtain ⟨x, hx, rfl⟩ := zrng_cnt (by omega) ha
        obtain ⟨y, hy, rfl⟩ := zrng_cnt (by omega) hbb
        obtain ⟨u, hu, rfl⟩ := zrng_nI (b := 1) (by omega) hw
        obtain ⟨M1, a1, a2, a3⟩ := s22 (L := L) hb hc
        have hc1 := zTc_39 hc a2
        have hm1 : zTm M1 49 t := zTm_c hm (a2 49 (by omega))
        obtain ⟨M2, b1, b2, b3⟩ := s212 (L := L) hb hm1
        have hm2 := zTm_61 hm1 b2
        obtain ⟨r1, r2⟩ := zRel_39 hR hro a2 b2
        have hD := (wDw_ok hb (t 2)).2.2 x y
        refine ⟨if wDw t (t 2) x y < 1000000 then (if u = 0 then nI (wDw t (t 2) x y) else if x = y then 0 else nI (wsr t (zbits (fun q => t (79 + q)) (t 2)) x + wsr t (zbits (fun q => t (79 + q)) (t 2)) y)) else -4, M1, M2, ?_, ?_, r1, r2⟩
        · rw [e128_0, h0, s46r, zbI_some, ha, if_neg (show ¬ zb true = 0 by decide), h0, s46r, zbI_some, hbb, if_neg (show ¬ zb true = 0 by decide), s46r, zbI_some, hw, if_neg (show ¬ zb true = 0 by decide), a1, zbV_some, s20 h7 a3 hx hy, zbI_some]
          by_cases h1 : wDw t (t 2) x y < 1000000
          · rw [if_pos (show nI (wDw t (t 2) x y) < 1000000 from nI_lt (b := 1000000) h1 (by omega)), if_pos h1]
            by_cases hu0 : u = 0
            · subst hu0
              rw [if_pos (show nI 0 = 0 from rfl), e128_98, if_pos rfl]
            · rw [if_neg (nI_ne0 (by omega) (by omega)), if_neg hu0, hc1.1.2.2.2.2]
              by_cases hxy : x = y
              · subst hxy
                rw [e24_0, if_pos rfl, e24_22, zbI_some, e128_98, if_pos rfl]
              · rw [s24 hb hc1 hx hy hxy (zbits_128 hb), zbI_some, e128_98, if_neg hxy]
          · rw [if_neg (show ¬ nI (wDw t (t 2) x y) < 1000000 from nI_nlt (b := 1000000) (by omega) (by omega)), if_neg h1]
        · rw [e215_0, s169, zbI_some, hm1 2 (by omega), ha, if_neg (show ¬ zb true = 0 by decide), s169, zbI_some, hm1 2 (by omega), hbb, if_neg (show ¬ zb true = 0 by decide), s161, zbI_some, hw, if_neg (show ¬ zb true = 0 by decide), b1, zbV_some, n7, if_pos ((zinb_nI (by omega)).mpr (by omega)), nI_clamp (by omega), b3 x y hx hy]
          by_cases h1 : wDw t (t 2) x y < 1000000
          · rw [if_pos (show nI (wDw t (t 2) x y) < 1000000 from nI_lt (b := 1000000) h1 (by omega)), if_pos h1]
            by_cases hu0 : u = 0
            · subst hu0
              rw [if_pos (show nI 0 = 0 from rfl), e215_89, if_pos rfl]
            · rw [if_neg (nI_ne0 (by omega) (by omega)), if_neg hu0]
              by_cases hxy : x = y
              · rw [if_pos (by rw [hxy]), e215_89, if_pos hxy]
              · rw [if_neg (fun q => hxy ((nI_eq (by omega) (by omega)).mp q)), s213 hb hm2, zbI_some, s214 hb hm2 hx (zbits_128 hb), zbI_some, s213 hb hm2, zbI_some, s214 hb hm2 hy (zbits_128 hb), zbI_some, e215_89, nI_add, if_neg hxy]
          · rw [if_neg (show ¬ nI (wDw t (t 2) x y) < 1000000 from nI_nlt (b := 1000000) (by omega) (by omega)), if_neg h1]
      · refine ⟨-1, M, M, ?_, ?_, hR, hro⟩
        · rw [e128_0, h0, s46r, zbI_some, ha, if_neg (show ¬ zb true = 0 by decide), h0, s46r, zbI_some, hbb, if_neg (show ¬ zb true = 0 by decide), s46r, zbI_some, hw, if_pos (show zb false = 0 from rfl), e128_43]
        · rw [e215_0, s169, zbI_some, h0', ha, if_neg (show ¬ zb true = 0 by decide), s169, zbI_some, h0', hbb, if_neg (show ¬ zb true = 0 by decide), s161, zbI_some, hw, if_pos (show zb false = 0 from rfl), e215_23]
    · refine ⟨-1, M, M, ?_, ?_, hR, hro⟩
      · rw [e128_0, h0, s46r, zbI_some, ha, if_neg (show ¬ zb true = 0 by decide), h0, s46r, zbI_some, hbb, if_pos (show zb false = 0 from rfl), e128_43]
      · rw [e215_0, s169, zbI_some, h0', ha, if_neg (show ¬ zb true = 0 by decide), s169, zbI_some, h0', hbb, if_pos (show zb false = 0 from rfl), e215_23]
  · refine ⟨-1, M, M, ?_, ?_, hR, hro⟩
    · rw [e128_0, h0, s46r, zbI_some, ha, if_pos (show zb false = 0 from rfl), e128_43]
    · rw [e215_0, s169, zbI_some, h0', ha, if_pos (show zb false = 0 from rfl), e215_23]
end KR
