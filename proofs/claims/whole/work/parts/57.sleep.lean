/-- the least of the first n -/
def wmn (f : Nat → Nat) : Nat → Nat
  | 0 => 1000000
  | n + 1 => min (wmn f n) (f n)
theorem wmn_le {f : Nat → Nat} : ∀ {n j : Nat}, j < n → wmn f n ≤ f j
  | 0, _, h => by omega
  | n + 1, j, h => by
    show min (wmn f n) (f n) ≤ f j
    by_cases e : j = n
    · rw [e]; omega
    · have := wmn_le (f := f) (n := n) (j := j) (by omega)
      omega
theorem wmn_top (f : Nat → Nat) : ∀ n, wmn f n ≤ 1000000
  | 0 => Nat.le_refl _
  | n + 1 => by
    have := wmn_top f n
    show min (wmn f n) (f n) ≤ 1000000
    omega
theorem wmn_ge {f : Nat → Nat} {x : Nat} (hx : x ≤ 1000000) : ∀ {n : Nat}, (∀ j, j < n → x ≤ f j) → x ≤ wmn f n
  | 0, _ => hx
  | n + 1, h => by
    have h1 := wmn_ge hx (fun j hj => h j (by omega) : ∀ j, j < n → x ≤ f j)
    have h2 := h n (by omega)
    show x ≤ min (wmn f n) (f n)
    omega
theorem wmn_c {f g : Nat → Nat} : ∀ {n : Nat}, (∀ j, j < n → f j = g j) → wmn f n = wmn g n
  | 0, _ => rfl
  | n + 1, h => by
    show min (wmn f n) (f n) = min (wmn g n) (g n)
    rw [wmn_c (n := n) (fun j hj => h j (by omega)), h n (by omega)]
theorem wmn_sm {f : Nat → Nat} {c : Nat} (hc : c ≤ 1000000) : ∀ {n : Nat}, (∀ j, j < n → wSm c (f j)) → wSm c (wmn f n)
  | 0, _ => Or.inl rfl
  | n + 1, h => wSm_min hc (wmn_sm hc (fun j hj => h j (by omega))) (h n (by omega))
/-- a step's manners: force, tiredness, bump, quiet -/
def qF (t : Nat → Nat) (v : Int32) (i m : Nat) : Nat := wff t (wst t v i) m v
def qU (t : Nat → Nat) (v : Int32) (i m : Nat) : Nat := wup (qF t v i m) 8
def qB (t : Nat → Nat) (v : Int32) (i m : Nat) : Nat := wbu t (wst t v i) m v
def qQ (t : Nat → Nat) (v : Int32) (i m : Nat) : Bool := decide (qF t v i m < 1000000) && decide (qB t v i m ≤ t 9)
/-- fewest beats by strength and bumps: after a rest; by a manner; the next -/
def wRR (t : Nat → Nat) (i : Nat) (G : Nat → Nat → Nat) (k b : Nat) : Nat := if 0 < i ∧ k = t 11 then min (G (t 11) b) (wmn (fun j => G j b) (t 11) + t 12) else G k b
def wcM (t : Nat → Nat) (v : Int32) (i : Nat) (G : Nat → Nat → Nat) (m k b : Nat) : Nat :=
  if qQ t v i m = true ∧ qB t v i m ≤ b ∧ b ≤ 10 * t 10 ∧ qF t v i m ≤ k + qU t v i m ∧ k + qU t v i m ≤ t 11 then wRR t i G (k + qU t v i m) (b - qB t v i m) + wbe m else 1000000
def wNx (t : Nat → Nat) (v : Int32) (i : Nat) (G : Nat → Nat → Nat) (k b : Nat) : Nat := min (min (min 1000000 (wcM t v i G 0 k b)) (wcM t v i G 1 k b)) (wcM t v i G 2 k b)
def wG (t : Nat → Nat) (v : Int32) : Nat → Nat → Nat → Nat
  | 0 => fun k b => if k = t 11 ∧ b = 0 then 0 else 1000000
  | i + 1 => wNx t v i (wG t v i)
def wAs (t : Nat → Nat) (v : Int32) : Nat := wmn (fun j => wG t v (t 0) (j / 721) (j % 721)) 72100
theorem wG_top (t : Nat → Nat) (v : Int32) : ∀ i k b, wG t v i k b ≤ 1000000
  | 0, k, b => by
    show (if k = t 11 ∧ b = 0 then 0 else 1000000) ≤ 1000000
    split <;> omega
  | i + 1, k, b => by
    show min (min (min 1000000 _) _) _ ≤ 1000000
    omega
theorem wRR_top {t : Nat → Nat} {i : Nat} {G : Nat → Nat → Nat} (h : ∀ k b, G k b ≤ 1000000) (k b : Nat) : wRR t i G k b ≤ 1000000 := by
  have h1 := h (t 11) b
  have h2 := h k b
  unfold wRR
  split <;> omega
/-- a table of the reference -/
def wH (f : Nat → Int32) (G : Nat → Nat → Nat) : Prop := ∀ k b, k < 100 → b < 721 → f (721 * k + b) = nI (G k b)
theorem wH_c {f : Nat → Int32} {G E : Nat → Nat → Nat} (h : wH f G) (he : ∀ k b, k < 100 → b < 721 → G k b = E k b) : wH f E := fun k b hk hb => by rw [h k b hk hb, he k b hk hb]
theorem wsub_toInt {X Y : Nat} (hX : X < 2 ^ 30) (hY : Y < 2 ^ 30) : (nI X - nI Y).toInt = (X : Int) - Y := by
  rw [Int32.toInt_sub, nI_toInt (by omega), nI_toInt (by omega), Int.bmod_eq_of_le (by omega) (by omega)]
theorem wsub_lt {X Y Z : Nat} (hX : X < 2 ^ 30) (hY : Y < 2 ^ 30) (hZ : Z < 2 ^ 30) : (nI X - nI Y < nI Z) ↔ X < Z + Y := by
  rw [zi_lt, wsub_toInt hX hY, nI_toInt (by omega)]
  omega
section KZ
variable {L : Nat} {ro M : zM} {t : Nat → Nat}
theorem zTm_60 {M' : zM} (hc : zTm M 49 t) (h : ∀ i, i ≠ 59 → i ≠ 60 → M' i = M i) : zTm M' 49 t := zTm_c hc (h 49 (by omega) (by omega))
theorem wH_put {a k b x : Nat} {G : Nat → Nat → Nat} (hk : k < 100) (hb : b < 721) (h : wH (M a) G) : wH (zput M a (721 * k + b) (nI x) a) (fun p q => if p = k ∧ q = b then x else G p q) := by
  intro p q hp hq
  show zput M a (721 * k + b) (nI x) a (721 * p + q) = nI (if p = k ∧ q = b then x else G p q)
  by_cases e : p = k ∧ q = b
  · rw [if_pos e, e.1, e.2, zput_at]
  · rw [if_neg e, zput_o _ _ (Or.inr (by omega)), h p q hp hq]
/-- a manner under way, up to place p -/
def wPm (t : Nat → Nat) (v : Int32) (i m : Nat) (G T : Nat → Nat → Nat) (p k b : Nat) : Nat := if 721 * (k + qU t v i m) + (b - qB t v i m) < p then min (T k b) (wcM t v i G m k b) else T k b
theorem qU_le {v : Int32} {i m : Nat} : qU t v i m ≤ qF t v i m := wup_le (by omega)
theorem s194_b {i m k : Nat} {v : Int32} {G T : Nat → Nat → Nat} (hb : zTb t) (hm : zTm M 49 t) (hi : i < t 0) (hm3 : m < 3) (hq : qQ t v i m = true) (hf : qF t v i m ≤ k) (hk : k ≤ t 11) (hG : ∀ k b, G k b ≤ 1000000) (hT : ∀ k b, T k b ≤ 1000000) (h59 : wH (M 59) (wRR t i G)) (o1 o3 : Option Value) : ∀ d b, d + b = 721 → ∀ (P : zM) (o9 o10 : Option Value), (∀ x, x ≠ 60 → P x = M x) → wH (P 60) (wPm t v i m G T (721 * k + b)) → ∃ P' o8 o9' o10', zden (L + 1) 194 74 [some (.ref 48), o1, some (.int (nI m)), o3, some (.int (nI (qF t v i m))), some (.int (nI (qB t v i m))), some (.int (nI (10 * t 10) - nI (qB t v i m))), some (.int (nI k)), some (.int (nI b)), o9, o10] [] P = zden (L + 1) 194 59 [some (.ref 48), o1, some (.int (nI m)), o3, some (.int (nI (qF t v i m))), some (.int (nI (qB t v i m))), some (.int (nI (10 * t 10) - nI (qB t v i m))), some (.int (nI (k + 1))), o8, o9', o10'] [] P' ∧ (∀ x, x ≠ 60 → P' x = M x) ∧ wH (P' 60) (wPm t v i m G T (721 * (k + 1))) := by
  have hst := wSt hb
  have hB60 : qB t v i m ≤ 60 := wbu_le hb (wst_lt hi)
  have hT10 : t 10 ≤ 99 := by have := hb.2.1; omega
  have hU := qU_le (t := t) (v := v) (i := i) (m := m)
  have hbe := wbe_le m
  have stop : ∀ (b : Nat) (P : zM) (o9 o10 : Option Value), b ≤ 721 → (∀ x, x ≠ 60 → P x = M x) → wH (P 60) (wPm t v i m G T (721 * k + b)) → (10 * t 10 < b + qB t v i m ∨ 721 ≤ b + qB t v i m) → wH (P 60) (wPm t v i m G T (721 * (k + 1))) := by
    intro b P o9 o10 hb721 hP hH hc
    refine wH_c hH fun p q hp hq2 => ?_
    unfold wPm
    by_cases c1 : 721 * (p + qU t v i m) + (q - qB t v i m) < 721 * k + b
    · rw [if_pos c1, if_pos (by omega)]
    · rw [if_neg c1]
      by_cases c2 : 721 * (p + qU t v i m) + (q - qB t v i m) < 721 * (k + 1)
      · rw [if_pos c2]
        have e : wcM t v i G m p q = 1000000 := by
          unfold wcM
          rw [if_neg]
          rintro ⟨_, h2, h3, _, _⟩
          omega
        have := hT p q
        rw [e]; omega
      · rw [if_neg c2]
  intro d
  induction d with
  | zero =>
    intro b hd P o9 o10 hP hH
    have e : b = 721 := by omega
    subst e
    by_cases c0 : 10 * t 10 < 721 + qB t v i m
    · refine ⟨P, some (.int (nI 721)), o9, o10, ?_, hP, stop 721 P o9 o10 (by omega) hP hH (Or.inl c0)⟩
      rw [e194_74, if_pos ((wsub_lt (by omega) (by omega) (by omega)).mpr c0), e194_172, nI_1]
    · refine ⟨P, some (.int (nI 721)), o9, o10, ?_, hP, stop 721 P o9 o10 (by omega) hP hH (Or.inr (by omega))⟩
      rw [e194_74, if_neg (fun q => c0 ((wsub_lt (by omega) (by omega) (by omega)).mp q)), nI_add, if_neg (show ¬ nI (721 + qB t v i m) < 721 from nI_nlt (b := 721) (by omega) (by omega)), e194_172, nI_1]
  | succ d ih =>
    intro b hd P o9 o10 hP hH
    by_cases c0 : 10 * t 10 < b + qB t v i m
    · refine ⟨P, some (.int (nI b)), o9, o10, ?_, hP, stop b P o9 o10 (by omega) hP hH (Or.inl c0)⟩
      rw [e194_74, if_pos ((wsub_lt (by omega) (by omega) (by omega)).mpr c0), e194_172, nI_1]
    · by_cases c1 : 721 ≤ b + qB t v i m
      · refine ⟨P, some (.int (nI b)), o9, o10, ?_, hP, stop b P o9 o10 (by omega) hP hH (Or.inr c1)⟩
        rw [e194_74, if_neg (fun q => c0 ((wsub_lt (by omega) (by omega) (by omega)).mp q)), nI_add, if_neg (show ¬ nI (b + qB t v i m) < 721 from nI_nlt (b := 721) (by omega) (by omega)), e194_172, nI_1]
      · have hle := wRR_top (t := t) (i := i) hG k b
        have hTl := hT (k - qU t v i m) (b + qB t v i m)
        have hcm : wcM t v i G m (k - qU t v i m) (b + qB t v i m) = wRR t i G k b + wbe m := by
          unfold wcM
          rw [if_pos ⟨hq, by omega, by omega, by omega, by omega⟩, show k - qU t v i m + qU t v i m = k by omega, show b + qB t v i m - qB t v i m = b by omega]
        have hold : wPm t v i m G T (721 * k + b) (k - qU t v i m) (b + qB t v i m) = T (k - qU t v i m) (b + qB t v i m) := by
          unfold wPm
          rw [if_neg (by omega)]
        have hnew := wH_put (x := min (wRR t i G k b + wbe m) (T (k - qU t v i m) (b + qB t v i m))) (show k - qU t v i m < 100 by omega) (show b + qB t v i m < 721 by omega) hH
        have hnew2 : wH (zput P 60 (721 * (k - qU t v i m) + (b + qB t v i m)) (nI (min (wRR t i G k b + wbe m) (T (k - qU t v i m) (b + qB t v i m)))) 60) (wPm t v i m G T (721 * k + (b + 1))) := by
          refine wH_c hnew fun p q hp hq2 => ?_
          by_cases e : p = k - qU t v i m ∧ q = b + qB t v i m
          · rw [if_pos e, e.1, e.2]
            unfold wPm
            rw [if_pos (by omega), hcm, Nat.min_comm]
          · rw [if_neg e]
            unfold wPm
            by_cases c3 : 721 * (p + qU t v i m) + (q - qB t v i m) < 721 * k + b
            · rw [if_pos c3, if_pos (by omega)]
            · rw [if_neg c3]
              by_cases c4 : 721 * (p + qU t v i m) + (q - qB t v i m) < 721 * k + (b + 1)
              · rw [if_pos c4]
                have e2 : wcM t v i G m p q = 1000000 := by
                  unfold wcM
                  rw [if_neg]
                  rintro ⟨_, h2, h3, _, _⟩
                  omega
                have := hT p q
                rw [e2]; omega
              · rw [if_neg c4]
        obtain ⟨P', o8, o9', o10', g1, g2, g3⟩ := ih (b + 1) (by omega) (zput P 60 (721 * (k - qU t v i m) + (b + qB t v i m)) (nI (min (wRR t i G k b + wbe m) (T (k - qU t v i m) (b + qB t v i m))))) (some (.int (nI (wRR t i G k b + wbe m)))) (some (.int (nI (721 * (k - qU t v i m) + b + qB t v i m)))) (fun x hx => by rw [zput_ne hx, hP x hx]) hnew2
        refine ⟨P', o8, o9', o10', ?_, g2, g3⟩
        have hF8 : qF t v i m < 1000000 := by
          unfold qQ at hq
          rw [Bool.and_eq_true, decide_eq_true_eq] at hq
          exact hq.1
        have h172 := s172 (L := L) (M := P) (w := qF t v i m) (q := 8) (by omega) (by omega)
        rw [← g1, e194_74, if_neg (fun q => c0 ((wsub_lt (by omega) (by omega) (by omega)).mp q)), nI_add, if_pos (show nI (b + qB t v i m) < 721 from nI_lt (b := 721) (by omega) (by omega)), show (721 : Int32) = nI 721 from rfl, nI_mul, nI_add, if_pos ((zinb_nI (by omega)).mpr (by omega)), s175 hm3, zbI_some]
        rw [show zden (L + 1) 172 0 [some (.int (nI (qF t v i m))), some (.int 8)] [] P = _ from h172, zbI_some, show wup (qF t v i m) 8 = qU t v i m from rfl, nI_sub (by omega), nI_mul, nI_add, nI_add, if_pos ((zinb_nI (by omega)).mpr (by omega)), nI_clamp (by omega), nI_clamp (by omega), hP 59 (by omega), h59 k b (by omega) (by omega), nI_add, show 721 * (k - qU t v i m) + b + qB t v i m = 721 * (k - qU t v i m) + (b + qB t v i m) by omega, hH _ _ (by omega) (by omega), hold]
        by_cases c5 : wRR t i G k b + wbe m < T (k - qU t v i m) (b + qB t v i m)
        · rw [if_pos (nI_lt c5 (by omega)), e194_165, if_pos ((zinb_nI (by omega)).mpr (by omega)), nI_clamp (by omega), nI_1, Nat.min_eq_left (by omega)]
        · rw [if_neg (nI_nlt (by omega) (by omega)), if_pos ((zinb_nI (by omega)).mpr (by omega)), e194_165, if_pos ((zinb_nI (by omega)).mpr (by omega)), nI_clamp (by omega), nI_1, Nat.min_eq_right (by omega)]
end KZ
