def zwalk (L : Nat) : List (Nat × zE) → Nat → zLo → List Value → zM → Option (Nat × zLo × List Value × zM)
  | [], pc, lc, st, M => some (pc, lc, st, M)
  | q :: es, pc, lc, st, M => if Nat.beq q.1 pc = true then (match zs1 L q.2 lc st M with
    | some t => zwalk L es q.2.2.1 t.1 t.2.1 t.2.2
    | none => none) else none
def zsrt : List (Nat × zE) → Nat → Bool
  | [], _ => true
  | q :: l, n => Nat.ble n q.1 && zsrt l (q.1 + 1)
theorem zsrt_lt : ∀ {l : List (Nat × zE)} {n : Nat}, zsrt l n = true → ∀ q ∈ l, n ≤ q.1
  | [], _, _, q, h => by cases h
  | a :: l, n, hs, q, h => by
    simp only [zsrt, Bool.and_eq_true, Nat.ble_eq] at hs
    rcases List.mem_cons.mp h with rfl | h
    · exact hs.1
    · have := zsrt_lt hs.2 q h
      omega
theorem zsrt_fetch : ∀ {l : List (Nat × zE)} {n : Nat}, zsrt l n = true → ∀ q ∈ l, zfetch l q.1 = some q.2
  | [], _, _, q, h => by cases h
  | a :: l, n, hs, q, h => by
    simp only [zsrt, Bool.and_eq_true, Nat.ble_eq] at hs
    unfold zfetch
    rcases List.mem_cons.mp h with rfl | h
    · rw [if_pos (by simp)]
    · have := zsrt_lt hs.2 q h
      rw [if_neg (by simp; omega)]
      exact zsrt_fetch hs.2 q h
section ZD
variable {L mi pc pc' nx t : Nat} {lc lc' : zLo} {st st' : List Value} {M M' : zM} {l : List (Nat × zE)} {A B : zR} {x y : Int32} {a2 b2 : Int64} {off : Int} {v : Value} {ax : List Nat}
theorem zd_walk (hz : zcode mi = l) : ∀ {es : List (Nat × zE)} {pc : Nat} {lc : zLo} {st : List Value} {M : zM}, (∀ q ∈ es, zfetch l q.1 = some q.2) → zwalk L es pc lc st M = some (pc', lc', st', M') → zden L mi pc lc st M = zden L mi pc' lc' st' M'
  | [], pc, lc, st, M, _, h => by
    simp only [zwalk, Option.some.injEq, Prod.mk.injEq] at h
    obtain ⟨rfl, rfl, rfl, rfl⟩ := h
    rfl
  | q :: es, pc, lc, st, M, hf, h => by
    unfold zwalk at h
    split at h
    case isFalse => cases h
    case isTrue hq =>
    have e := Nat.eq_of_beq_eq_true hq
    subst e
    cases hs : zs1 L q.2 lc st M with
    | none => rw [hs] at h; cases h
    | some t =>
      rw [hs] at h
      rw [zden_step (lc' := t.1) (st' := t.2.1) (M' := t.2.2) (by rw [hz]; exact hf q List.mem_cons_self) hs]
      exact zd_walk hz (fun r hr => hf r (List.mem_cons_of_mem _ hr)) h
theorem zd_w (hz : zcode mi = l ∧ zsrt l 0 = true) (i n : Nat) (h : zwalk L ((l.drop i).take n) pc lc st M = some (pc', lc', st', M')) : zden L mi pc lc st M = zden L mi pc' lc' st' M' :=
  zd_walk hz.1 (fun q hq => zsrt_fetch hz.2 q (List.mem_of_mem_drop (List.mem_of_mem_take hq))) h
theorem zd_eq (hz : zcode mi = l ∧ zsrt l 0 = true) (hf : zfetch l pc = some (.if_icmp .eq off, nx, v, [t])) (h1 : zden L mi t lc st M = A) (h2 : zden L mi nx lc st M = B) : zden L mi pc lc (.int y :: .int x :: st) M = if x = y then A else B := by
  rw [zden_jump (by rw [hz.1]; exact hf) rfl rfl]
  by_cases h : x = y
  · rw [if_pos (show zcmp .eq x y = true by simp [zcmp, h]), if_pos h]; exact h1
  · rw [if_neg (show ¬ zcmp .eq x y = true by simp [zcmp, h]), if_neg h]; exact h2
theorem zd_ne (hz : zcode mi = l ∧ zsrt l 0 = true) (hf : zfetch l pc = some (.if_icmp .ne off, nx, v, [t])) (h1 : zden L mi t lc st M = A) (h2 : zden L mi nx lc st M = B) : zden L mi pc lc (.int y :: .int x :: st) M = if x = y then B else A := by
  rw [zden_jump (by rw [hz.1]; exact hf) rfl rfl]
  by_cases h : x = y
  · rw [if_neg (show ¬ zcmp .ne x y = true by simp [zcmp, h]), if_pos h]; exact h2
  · rw [if_pos (show zcmp .ne x y = true by simp [zcmp, h]), if_neg h]; exact h1
theorem zd_lt (hz : zcode mi = l ∧ zsrt l 0 = true) (hf : zfetch l pc = some (.if_icmp .lt off, nx, v, [t])) (h1 : zden L mi t lc st M = A) (h2 : zden L mi nx lc st M = B) : zden L mi pc lc (.int y :: .int x :: st) M = if x < y then A else B := by
  rw [zden_jump (by rw [hz.1]; exact hf) rfl rfl]
  by_cases h : x < y
  · rw [if_pos (show zcmp .lt x y = true by simp [zcmp, h]), if_pos h]; exact h1
  · rw [if_neg (show ¬ zcmp .lt x y = true by simp [zcmp, h]), if_neg h]; exact h2
theorem zd_ge (hz : zcode mi = l ∧ zsrt l 0 = true) (hf : zfetch l pc = some (.if_icmp .ge off, nx, v, [t])) (h1 : zden L mi t lc st M = A) (h2 : zden L mi nx lc st M = B) : zden L mi pc lc (.int y :: .int x :: st) M = if x < y then B else A := by
  rw [zden_jump (by rw [hz.1]; exact hf) rfl rfl]
  by_cases h : x < y
  · rw [if_neg (show ¬ zcmp .ge x y = true by simp [zcmp]; exact h), if_pos h]; exact h2
  · rw [if_pos (show zcmp .ge x y = true by simp [zcmp]; exact Int32.not_lt.mp h), if_neg h]; exact h1
theorem zd_gt (hz : zcode mi = l ∧ zsrt l 0 = true) (hf : zfetch l pc = some (.if_icmp .gt off, nx, v, [t])) (h1 : zden L mi t lc st M = A) (h2 : zden L mi nx lc st M = B) : zden L mi pc lc (.int y :: .int x :: st) M = if y < x then A else B := by
  rw [zden_jump (by rw [hz.1]; exact hf) rfl rfl]
  by_cases h : y < x
  · rw [if_pos (show zcmp .gt x y = true by simp [zcmp, h]), if_pos h]; exact h1
  · rw [if_neg (show ¬ zcmp .gt x y = true by simp [zcmp, h]), if_neg h]; exact h2
theorem zd_le (hz : zcode mi = l ∧ zsrt l 0 = true) (hf : zfetch l pc = some (.if_icmp .le off, nx, v, [t])) (h1 : zden L mi t lc st M = A) (h2 : zden L mi nx lc st M = B) : zden L mi pc lc (.int y :: .int x :: st) M = if y < x then B else A := by
  rw [zden_jump (by rw [hz.1]; exact hf) rfl rfl]
  by_cases h : y < x
  · rw [if_neg (show ¬ zcmp .le x y = true by simp [zcmp]; exact h), if_pos h]; exact h2
  · rw [if_pos (show zcmp .le x y = true by simp [zcmp]; exact Int32.not_lt.mp h), if_neg h]; exact h1
theorem zd_eq0 (hz : zcode mi = l ∧ zsrt l 0 = true) (hf : zfetch l pc = some (.ifCond .eq off, nx, v, [t])) (h1 : zden L mi t lc st M = A) (h2 : zden L mi nx lc st M = B) : zden L mi pc lc (.int x :: st) M = if x = 0 then A else B := by
  rw [zden_jump (by rw [hz.1]; exact hf) rfl rfl]
  by_cases h : x = 0
  · rw [if_pos (show zcmp .eq x 0 = true by simp [zcmp, h]), if_pos h]; exact h1
  · rw [if_neg (show ¬ zcmp .eq x 0 = true by simp [zcmp, h]), if_neg h]; exact h2
theorem zd_ne0 (hz : zcode mi = l ∧ zsrt l 0 = true) (hf : zfetch l pc = some (.ifCond .ne off, nx, v, [t])) (h1 : zden L mi t lc st M = A) (h2 : zden L mi nx lc st M = B) : zden L mi pc lc (.int x :: st) M = if x = 0 then B else A := by
  rw [zden_jump (by rw [hz.1]; exact hf) rfl rfl]
  by_cases h : x = 0
  · rw [if_neg (show ¬ zcmp .ne x 0 = true by simp [zcmp, h]), if_pos h]; exact h2
  · rw [if_pos (show zcmp .ne x 0 = true by simp [zcmp, h]), if_neg h]; exact h1
theorem zd_lt0 (hz : zcode mi = l ∧ zsrt l 0 = true) (hf : zfetch l pc = some (.ifCond .lt off, nx, v, [t])) (h1 : zden L mi t lc st M = A) (h2 : zden L mi nx lc st M = B) : zden L mi pc lc (.int x :: st) M = if x < 0 then A else B := by
  rw [zden_jump (by rw [hz.1]; exact hf) rfl rfl]
  by_cases h : x < 0
  · rw [if_pos (show zcmp .lt x 0 = true by simp [zcmp, h]), if_pos h]; exact h1
  · rw [if_neg (show ¬ zcmp .lt x 0 = true by simp [zcmp, h]), if_neg h]; exact h2
theorem zd_ge0 (hz : zcode mi = l ∧ zsrt l 0 = true) (hf : zfetch l pc = some (.ifCond .ge off, nx, v, [t])) (h1 : zden L mi t lc st M = A) (h2 : zden L mi nx lc st M = B) : zden L mi pc lc (.int x :: st) M = if x < 0 then B else A := by
  rw [zden_jump (by rw [hz.1]; exact hf) rfl rfl]
  by_cases h : x < 0
  · rw [if_neg (show ¬ zcmp .ge x 0 = true by simp [zcmp]; exact h), if_pos h]; exact h2
  · rw [if_pos (show zcmp .ge x 0 = true by simp [zcmp]; exact Int32.not_lt.mp h), if_neg h]; exact h1
theorem zd_gt0 (hz : zcode mi = l ∧ zsrt l 0 = true) (hf : zfetch l pc = some (.ifCond .gt off, nx, v, [t])) (h1 : zden L mi t lc st M = A) (h2 : zden L mi nx lc st M = B) : zden L mi pc lc (.int x :: st) M = if 0 < x then A else B := by
  rw [zden_jump (by rw [hz.1]; exact hf) rfl rfl]
  by_cases h : 0 < x
  · rw [if_pos (show zcmp .gt x 0 = true by simp [zcmp, h]), if_pos h]; exact h1
  · rw [if_neg (show ¬ zcmp .gt x 0 = true by simp [zcmp, h]), if_neg h]; exact h2
theorem zd_le0 (hz : zcode mi = l ∧ zsrt l 0 = true) (hf : zfetch l pc = some (.ifCond .le off, nx, v, [t])) (h1 : zden L mi t lc st M = A) (h2 : zden L mi nx lc st M = B) : zden L mi pc lc (.int x :: st) M = if 0 < x then B else A := by
  rw [zden_jump (by rw [hz.1]; exact hf) rfl rfl]
  by_cases h : 0 < x
  · rw [if_neg (show ¬ zcmp .le x 0 = true by simp [zcmp]; exact h), if_pos h]; exact h2
  · rw [if_pos (show zcmp .le x 0 = true by simp [zcmp]; exact Int32.not_lt.mp h), if_neg h]; exact h1
theorem zd_goto (hz : zcode mi = l ∧ zsrt l 0 = true) (hf : zfetch l pc = some (.goto off, nx, v, [t])) (h1 : zden L mi t lc st M = A) : zden L mi pc lc st M = A := by
  rw [zden_jump (by rw [hz.1]; exact hf) rfl rfl]
  exact h1
theorem zd_ri {rt : FieldType} (hz : zcode mi = l ∧ zsrt l 0 = true) (hf : zfetch l pc = some (.ireturn, nx, v, ax)) (hr : zret mi = some rt) (hx : zfit (some rt) x = true) : zden L mi pc lc [.int x] M = some (some (.int x), M) :=
  zden_ret (by rw [hz.1]; exact hf) rfl (by rw [hr]; simp only [zctl]; rw [if_pos hx])
theorem zd_rf {rt : FieldType} (hz : zcode mi = l ∧ zsrt l 0 = true) (hf : zfetch l pc = some (.ireturn, nx, v, ax)) (hr : zret mi = some rt) : zden L mi pc lc [.int x] M = if zfit (some rt) x = true then some (some (.int x), M) else none := by
  by_cases h : zfit (some rt) x = true
  · rw [if_pos h]; exact zd_ri hz hf hr h
  · rw [if_neg h]
    exact zden_stuck (by rw [hz.1]; exact hf) rfl (by rw [hr]; simp only [zctl]; rw [if_neg h])
theorem zd_rl (hz : zcode mi = l ∧ zsrt l 0 = true) (hf : zfetch l pc = some (.lreturn, nx, v, ax)) : zden L mi pc lc [.long a2] M = some (some (.long a2), M) :=
  zden_ret (by rw [hz.1]; exact hf) rfl rfl
theorem zd_rv (hz : zcode mi = l ∧ zsrt l 0 = true) (hf : zfetch l pc = some (.return_, nx, v, ax)) : zden L mi pc lc [] M = some (none, M) :=
  zden_ret (by rw [hz.1]; exact hf) rfl rfl
theorem zd_ld {a n : Nat} (hz : zcode mi = l ∧ zsrt l 0 = true) (hf : zfetch l pc = some (.iaload, nx, v, ax)) (hn : zar L .int a = some n) (h : zden L mi nx lc (.int (M a x.toNatClampNeg) :: st) M = A) : zden L mi pc lc (.int x :: .ref a :: st) M = if zinb x n = true then A else none := by
  by_cases hi : zinb x n = true
  · rw [if_pos hi, zden_step (e := (.iaload, nx, v, ax)) (by rw [hz.1]; exact hf) (show zs1 L (.iaload, nx, v, ax) lc (.int x :: .ref a :: st) M = some (lc, .int (M a x.toNatClampNeg) :: st, M) by simp only [zs1, zld, hn, if_pos hi])]
    exact h
  · rw [if_neg hi]
    exact zden_stuck (by rw [hz.1]; exact hf) (by simp only [zs1, zld, hn, if_neg hi]) rfl
theorem zd_ldc {a n : Nat} (hz : zcode mi = l ∧ zsrt l 0 = true) (hf : zfetch l pc = some (.caload, nx, v, ax)) (hn : zar L .char a = some n) (h : zden L mi nx lc (.int (M a x.toNatClampNeg) :: st) M = A) : zden L mi pc lc (.int x :: .ref a :: st) M = if zinb x n = true then A else none := by
  by_cases hi : zinb x n = true
  · rw [if_pos hi, zden_step (e := (.caload, nx, v, ax)) (by rw [hz.1]; exact hf) (show zs1 L (.caload, nx, v, ax) lc (.int x :: .ref a :: st) M = some (lc, .int (M a x.toNatClampNeg) :: st, M) by simp only [zs1, zld, hn, if_pos hi])]
    exact h
  · rw [if_neg hi]
    exact zden_stuck (by rw [hz.1]; exact hf) (by simp only [zs1, zld, hn, if_neg hi]) rfl
theorem zd_ldb {a n : Nat} (hz : zcode mi = l ∧ zsrt l 0 = true) (hf : zfetch l pc = some (.baload, nx, v, ax)) (hn : zar L .byte a = some n) (h : zden L mi nx lc (.int (M a x.toNatClampNeg) :: st) M = A) : zden L mi pc lc (.int x :: .ref a :: st) M = if zinb x n = true then A else none := by
  by_cases hi : zinb x n = true
  · rw [if_pos hi, zden_step (e := (.baload, nx, v, ax)) (by rw [hz.1]; exact hf) (show zs1 L (.baload, nx, v, ax) lc (.int x :: .ref a :: st) M = some (lc, .int (M a x.toNatClampNeg) :: st, M) by simp only [zs1, zld, hn, if_pos hi])]
    exact h
  · rw [if_neg hi]
    exact zden_stuck (by rw [hz.1]; exact hf) (by simp only [zs1, zld, hn, if_neg hi]) rfl
theorem zd_st {a n : Nat} {w : Int32} (hz : zcode mi = l ∧ zsrt l 0 = true) (hf : zfetch l pc = some (.iastore, nx, v, ax)) (hn : zar L .int a = some n) (ha : Nat.blt a zNW = true) (h : zden L mi nx lc st (zput M a x.toNatClampNeg w) = A) : zden L mi pc lc (.int w :: .int x :: .ref a :: st) M = if zinb x n = true then A else none := by
  by_cases hi : zinb x n = true
  · rw [if_pos hi, zden_step (e := (.iastore, nx, v, ax)) (by rw [hz.1]; exact hf) (show zs1 L (.iastore, nx, v, ax) lc (.int w :: .int x :: .ref a :: st) M = some (lc, st, zput M a x.toNatClampNeg w) by simp only [zs1, zsto, hn, if_pos ha, if_pos hi])]
    exact h
  · rw [if_neg hi]
    exact zden_stuck (by rw [hz.1]; exact hf) (by simp only [zs1, zsto, hn, if_pos ha, if_neg hi]) rfl
theorem zd_stc {a n : Nat} {w : Int32} (hz : zcode mi = l ∧ zsrt l 0 = true) (hf : zfetch l pc = some (.castore, nx, v, ax)) (hn : zar L .char a = some n) (ha : Nat.blt a zNW = true) (h : zden L mi nx lc st (zput M a x.toNatClampNeg (vp_nar .char w)) = A) : zden L mi pc lc (.int w :: .int x :: .ref a :: st) M = if zinb x n = true then A else none := by
  by_cases hi : zinb x n = true
  · rw [if_pos hi, zden_step (e := (.castore, nx, v, ax)) (by rw [hz.1]; exact hf) (show zs1 L (.castore, nx, v, ax) lc (.int w :: .int x :: .ref a :: st) M = some (lc, st, zput M a x.toNatClampNeg (vp_nar .char w)) by simp only [zs1, zsto, hn, if_pos ha, if_pos hi])]
    exact h
  · rw [if_neg hi]
    exact zden_stuck (by rw [hz.1]; exact hf) (by simp only [zs1, zsto, hn, if_pos ha, if_neg hi]) rfl
theorem zd_div (hz : zcode mi = l ∧ zsrt l 0 = true) (hf : zfetch l pc = some (.idiv, nx, v, ax)) (h : zden L mi nx lc (.int (x / y) :: st) M = A) : zden L mi pc lc (.int y :: .int x :: st) M = if y = 0 then none else A := by
  by_cases hi : y = 0
  · rw [if_pos hi]
    exact zden_stuck (by rw [hz.1]; exact hf) (by simp only [zs1, if_pos hi]) rfl
  · rw [if_neg hi, zden_step (e := (.idiv, nx, v, ax)) (by rw [hz.1]; exact hf) (show zs1 L (.idiv, nx, v, ax) lc (.int y :: .int x :: st) M = some (lc, .int (x / y) :: st, M) by simp only [zs1, if_neg hi])]
    exact h
theorem zd_rem (hz : zcode mi = l ∧ zsrt l 0 = true) (hf : zfetch l pc = some (.irem, nx, v, ax)) (h : zden L mi nx lc (.int (x - x / y * y) :: st) M = A) : zden L mi pc lc (.int y :: .int x :: st) M = if y = 0 then none else A := by
  by_cases hi : y = 0
  · rw [if_pos hi]
    exact zden_stuck (by rw [hz.1]; exact hf) (by simp only [zs1, if_pos hi]) rfl
  · rw [if_neg hi, zden_step (e := (.irem, nx, v, ax)) (by rw [hz.1]; exact hf) (show zs1 L (.irem, nx, v, ax) lc (.int y :: .int x :: st) M = some (lc, .int (x - x / y * y) :: st, M) by simp only [zs1, if_neg hi])]
    exact h
theorem zd_ldiv (hz : zcode mi = l ∧ zsrt l 0 = true) (hf : zfetch l pc = some (.ldiv, nx, v, ax)) (h : zden L mi nx lc (.long (a2 / b2) :: st) M = A) : zden L mi pc lc (.long b2 :: .long a2 :: st) M = if b2 = 0 then none else A := by
  by_cases hi : b2 = 0
  · rw [if_pos hi]
    exact zden_stuck (by rw [hz.1]; exact hf) (by simp only [zs1, if_pos hi]) rfl
  · rw [if_neg hi, zden_step (e := (.ldiv, nx, v, ax)) (by rw [hz.1]; exact hf) (show zs1 L (.ldiv, nx, v, ax) lc (.long b2 :: .long a2 :: st) M = some (lc, .long (a2 / b2) :: st, M) by simp only [zs1, if_neg hi])]
    exact h
theorem zd_lrem (hz : zcode mi = l ∧ zsrt l 0 = true) (hf : zfetch l pc = some (.lrem, nx, v, ax)) (h : zden L mi nx lc (.long (a2 - a2 / b2 * b2) :: st) M = A) : zden L mi pc lc (.long b2 :: .long a2 :: st) M = if b2 = 0 then none else A := by
  by_cases hi : b2 = 0
  · rw [if_pos hi]
    exact zden_stuck (by rw [hz.1]; exact hf) (by simp only [zs1, if_pos hi]) rfl
  · rw [if_neg hi, zden_step (e := (.lrem, nx, v, ax)) (by rw [hz.1]; exact hf) (show zs1 L (.lrem, nx, v, ax) lc (.long b2 :: .long a2 :: st) M = some (lc, .long (a2 - a2 / b2 * b2) :: st, M) by simp only [zs1, if_neg hi])]
    exact h
theorem zd_ci {ins : Instr} {mi' mx : Nat} {as rest : List Value} {K : Int32 → zM → zR} (hz : zcode mi = l ∧ zsrt l 0 = true) (hf : zfetch l pc = some (ins, nx, v, ax)) (hs : zs1 L (ins, nx, v, ax) lc st M = none) (hc : zctl L (zret mi) (ins, nx, v, ax) st = some (.inr (.inr (mi', as, rest, mx, 1)))) (hi : zini mx as = lc') (h : ∀ x M', zden L mi nx lc (.int x :: rest) M' = K x M') : zden L mi pc lc st M = zbI (zden L mi' 0 lc' [] M) K := by
  rw [zden_call (by rw [hz.1]; exact hf) hs hc, hi, zbI_eq (k := fun st' M' => zden L mi nx lc st' M')]
  congr 1
  funext x M'
  exact h x M'
theorem zd_cl {ins : Instr} {mi' mx : Nat} {as rest : List Value} {K : Int64 → zM → zR} (hz : zcode mi = l ∧ zsrt l 0 = true) (hf : zfetch l pc = some (ins, nx, v, ax)) (hs : zs1 L (ins, nx, v, ax) lc st M = none) (hc : zctl L (zret mi) (ins, nx, v, ax) st = some (.inr (.inr (mi', as, rest, mx, 2)))) (hi : zini mx as = lc') (h : ∀ x M', zden L mi nx lc (.long x :: rest) M' = K x M') : zden L mi pc lc st M = zbL (zden L mi' 0 lc' [] M) K := by
  rw [zden_call (by rw [hz.1]; exact hf) hs hc, hi, zbL_eq (k := fun st' M' => zden L mi nx lc st' M')]
  congr 1
  funext x M'
  exact h x M'
theorem zd_cv {ins : Instr} {mi' mx : Nat} {as rest : List Value} {K : zM → zR} (hz : zcode mi = l ∧ zsrt l 0 = true) (hf : zfetch l pc = some (ins, nx, v, ax)) (hs : zs1 L (ins, nx, v, ax) lc st M = none) (hc : zctl L (zret mi) (ins, nx, v, ax) st = some (.inr (.inr (mi', as, rest, mx, 0)))) (hi : zini mx as = lc') (h : ∀ M', zden L mi nx lc rest M' = K M') : zden L mi pc lc st M = zbV (zden L mi' 0 lc' [] M) K := by
  rw [zden_call (by rw [hz.1]; exact hf) hs hc, hi, zbV_eq (k := fun st' M' => zden L mi nx lc st' M')]
  congr 1
  funext M'
  exact h M'
end ZD
