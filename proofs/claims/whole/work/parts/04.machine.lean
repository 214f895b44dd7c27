def zput (M : zM) (i j : Nat) (x : Int32) : zM := fun a b => if a = i ∧ b = j then x else M a b
def zkl (o : Option Value) : Option Value := match o with
  | some (.long _) => none
  | some (.double _) => none
  | o => o
def zkill : zLo → Nat → zLo
  | lc, 0 => lc
  | [], _ => []
  | o :: lc, 1 => zkl o :: lc
  | o :: lc, n + 2 => o :: zkill lc (n + 1)
def zset1 (lc : zLo) (i : Nat) (v : Value) : zLo := (zkill lc i).set i (some v)
def zset2 (lc : zLo) (i : Nat) (v : Value) : zLo := ((zkill lc i).set i (some v)).set (i + 1) none
def zat : zLo → Nat → Option Value
  | [], _ => none
  | o :: _, 0 => o
  | _ :: lc, n + 1 => zat lc n
def zslots : List Value → zLo
  | [] => []
  | v :: vs => if v.category = 2 then some v :: none :: zslots vs else some v :: zslots vs
def zini (n : Nat) (vs : List Value) : zLo := zslots vs ++ List.replicate (n - (zslots vs).length) none
def zalen (L a : Nat) : Option Nat := match znth (zsh L) a with
  | some (.inl (_, n)) => some n
  | _ => none
def zar (L : Nat) (ty : FieldType) (a : Nat) : Option Nat := match znth (zsh L) a with
  | some (.inl (t, n)) => if t = ty then some n else none
  | _ => none
def zfld (L o ci k : Nat) : Option (Option Nat) := match znth (zsh L) o with
  | some (.inr (c, fs)) => if c = ci then znth fs k else none
  | _ => none
def zocl (L o : Nat) : Nat := match znth (zsh L) o with
  | some (.inr (c, _)) => c + 1
  | _ => 0
def zin (j : Int32) (n : Nat) : Prop := 0 ≤ j ∧ j.toNatClampNeg < n
def zinb (j : Int32) (n : Nat) : Bool := decide (0 ≤ j) && decide (j.toNatClampNeg < n)
def zld (L : Nat) (ty : FieldType) (lc : zLo) (st : List Value) (M : zM) (a : Nat) (j : Int32) : Option (zLo × List Value × zM) :=
  match zar L ty a with
  | some n => if zinb j n = true then some (lc, .int (M a j.toNatClampNeg) :: st, M) else none
  | none => none
def zsto (L : Nat) (ty : FieldType) (lc : zLo) (st : List Value) (M : zM) (a : Nat) (j x : Int32) : Option (zLo × List Value × zM) :=
  match zar L ty a with
  | some n => if Nat.blt a zNW = true then (if zinb j n = true then some (lc, st, zput M a j.toNatClampNeg x) else none) else none
  | none => none
def zs1 (L : Nat) (e : zE) (lc : zLo) (st : List Value) (M : zM) : Option (zLo × List Value × zM) :=
  match e.1, e.2.2.2, st with
  | .iconst _, _, st => some (lc, e.2.2.1 :: st, M)
  | .bipush _, _, st => some (lc, e.2.2.1 :: st, M)
  | .sipush _, _, st => some (lc, e.2.2.1 :: st, M)
  | .lconst _, _, st => some (lc, e.2.2.1 :: st, M)
  | .ldc _, _, st => some (lc, e.2.2.1 :: st, M)
  | .ldc_w _, _, st => some (lc, e.2.2.1 :: st, M)
  | .ldc2_w _, _, st => some (lc, e.2.2.1 :: st, M)
  | .getstatic _, _, st => some (lc, e.2.2.1 :: st, M)
  | .iload _, [i], st => (match zat lc i with
    | some (.int x) => some (lc, .int x :: st, M)
    | _ => none)
  | .iload_n _, [i], st => (match zat lc i with
    | some (.int x) => some (lc, .int x :: st, M)
    | _ => none)
  | .lload _, [i], st => (match zat lc i with
    | some (.long x) => some (lc, .long x :: st, M)
    | _ => none)
  | .lload_n _, [i], st => (match zat lc i with
    | some (.long x) => some (lc, .long x :: st, M)
    | _ => none)
  | .aload _, [i], st => (match zat lc i with
    | some (.ref x) => some (lc, .ref x :: st, M)
    | _ => none)
  | .aload_n _, [i], st => (match zat lc i with
    | some (.ref x) => some (lc, .ref x :: st, M)
    | _ => none)
  | .istore _, [i], .int x :: st => some (zset1 lc i (.int x), st, M)
  | .istore_n _, [i], .int x :: st => some (zset1 lc i (.int x), st, M)
  | .lstore _, [i], .long x :: st => some (zset2 lc i (.long x), st, M)
  | .lstore_n _, [i], .long x :: st => some (zset2 lc i (.long x), st, M)
  | .iinc _ _, [i], st => (match zat lc i, e.2.2.1 with
    | some (.int x), .int c => some (zset1 lc i (.int (x + c)), st, M)
    | _, _ => none)
  | .iadd, _, .int y :: .int x :: st => some (lc, .int (x + y) :: st, M)
  | .isub, _, .int y :: .int x :: st => some (lc, .int (x - y) :: st, M)
  | .imul, _, .int y :: .int x :: st => some (lc, .int (x * y) :: st, M)
  | .iand, _, .int y :: .int x :: st => some (lc, .int (x &&& y) :: st, M)
  | .ior, _, .int y :: .int x :: st => some (lc, .int (x ||| y) :: st, M)
  | .ixor, _, .int y :: .int x :: st => some (lc, .int (x ^^^ y) :: st, M)
  | .ishl, _, .int y :: .int x :: st => some (lc, .int (x <<< (y &&& 31)) :: st, M)
  | .ishr, _, .int y :: .int x :: st => some (lc, .int (x >>> (y &&& 31)) :: st, M)
  | .iushr, _, .int y :: .int x :: st => some (lc, .int (x.toUInt32 >>> (y.toUInt32 &&& Int32.toUInt32 31)).toInt32 :: st, M)
  | .idiv, _, .int y :: .int x :: st => if y = 0 then none else some (lc, .int (x / y) :: st, M)
  | .irem, _, .int y :: .int x :: st => if y = 0 then none else some (lc, .int (x - x / y * y) :: st, M)
  | .ladd, _, .long y :: .long x :: st => some (lc, .long (x + y) :: st, M)
  | .lmul, _, .long y :: .long x :: st => some (lc, .long (x * y) :: st, M)
  | .ldiv, _, .long y :: .long x :: st => if y = 0 then none else some (lc, .long (x / y) :: st, M)
  | .lrem, _, .long y :: .long x :: st => if y = 0 then none else some (lc, .long (x - x / y * y) :: st, M)
  | .lcmp, _, .long y :: .long x :: st => some (lc, .int (lg_cmp x y) :: st, M)
  | .i2l, _, .int x :: st => some (lc, .long x.toInt64 :: st, M)
  | .l2i, _, .long x :: st => some (lc, .int x.toInt32 :: st, M)
  | .i2c, _, .int x :: st => some (lc, .int (x.toUInt32 % 65536).toInt32 :: st, M)
  | .i2b, _, .int x :: st => some (lc, .int x.toInt8.toInt32 :: st, M)
  | .dup, _, .int x :: st => some (lc, .int x :: .int x :: st, M)
  | .dup, _, .ref x :: st => some (lc, .ref x :: .ref x :: st, M)
  | .dup2, _, .int y :: .ref x :: st => some (lc, .int y :: .ref x :: .int y :: .ref x :: st, M)
  | .pop, _, .int _ :: st => some (lc, st, M)
  | .arraylength, _, .ref a :: st => (match zalen L a with
    | some n => some (lc, .int (Int32.ofNat n) :: st, M)
    | none => none)
  | .iaload, _, .int j :: .ref a :: st => zld L .int lc st M a j
  | .caload, _, .int j :: .ref a :: st => zld L .char lc st M a j
  | .baload, _, .int j :: .ref a :: st => zld L .byte lc st M a j
  | .iastore, _, .int x :: .int j :: .ref a :: st => zsto L .int lc st M a j x
  | .castore, _, .int x :: .int j :: .ref a :: st => zsto L .char lc st M a j (vp_nar .char x)
  | .getfield _, [ci, k], .ref o :: st => (match zfld L o ci k with
    | some (some r) => some (lc, .ref r :: st, M)
    | some none => some (lc, .int (M o k) :: st, M)
    | none => none)
  | .putfield _, [ci, k], .int x :: .ref o :: st => (match zfld L o ci k with
    | some none => if Nat.blt o zNW = true then some (lc, st, zput M o k x) else none
    | _ => none)
  | _, _, _ => none
def zcmp : ClassFile.Cond → Int32 → Int32 → Bool
  | .eq, x, y => decide (x = y)
  | .ne, x, y => decide (¬ x = y)
  | .lt, x, y => decide (x < y)
  | .ge, x, y => decide (y ≤ x)
  | .gt, x, y => decide (y < x)
  | .le, x, y => decide (x ≤ y)
def ztsw (pc : Nat) (d lo hi : Int) (offs : Array Int) (x : Int32) : Nat :=
  if x.toInt < lo ∨ hi < x.toInt then ((pc : Int) + d).toNat else ((pc : Int) + (offs[(x.toInt - lo).toNat]?.getD 0)).toNat
def zlsw (pc : Nat) (d : Int) (ps : Array (Int × Int)) (x : Int32) : Nat := ((pc : Int) + Op.lookupswitch.offset ps.toList d x.toInt).toNat
def zfit (r : Option FieldType) (x : Int32) : Bool := match r with
  | some .int => true
  | some t => decide (narrow t (.int x) = .int x)
  | none => false
abbrev zO : Type := (Nat × List Value) ⊕ (Option Value) ⊕ (Nat × List Value × List Value × Nat × Nat)
def zrcOk (L rc : Nat) (as : List Value) : Bool := match rc, as with
  | 0, _ => true
  | c + 1, .ref b :: _ => Nat.beq (zocl L b) (c + 1)
  | _, _ => false
def zargs (L np rc mi mx rk : Nat) (st : List Value) : Option zO :=
  if Nat.ble np st.length && (Nat.ble (zslots (st.take np).reverse).length mx && (Nat.ble ((st.drop np).map fun v => v.category).sum 8 && zrcOk L rc (st.take np).reverse)) then some (.inr (.inr (mi, (st.take np).reverse, st.drop np, mx, rk))) else none
def zctl (L : Nat) (rt : Option FieldType) (e : zE) (st : List Value) : Option zO :=
  match e.1, e.2.2.2, st with
  | .goto _, [t], st => some (.inl (t, st))
  | .ifCond c _, [t], .int x :: st => some (.inl (if zcmp c x 0 = true then t else e.2.1, st))
  | .if_icmp c _, [t], .int y :: .int x :: st => some (.inl (if zcmp c x y = true then t else e.2.1, st))
  | .tableswitch d lo hi offs, [pc], .int x :: st => some (.inl (ztsw pc d lo hi offs x, st))
  | .lookupswitch d ps, [pc], .int x :: st => some (.inl (zlsw pc d ps x, st))
  | .ireturn, _, [.int x] => if zfit rt x = true then some (.inr (.inl (some (.int x)))) else none
  | .lreturn, _, [.long x] => some (.inr (.inl (some (.long x))))
  | .return_, _, [] => some (.inr (.inl none))
  | .invokevirtual _, [mi, np, mx, rk, rc], st => zargs L np rc mi mx rk st
  | .invokestatic _, [mi, np, mx, rk, rc], st => zargs L np rc mi mx rk st
  | _, _, _ => none
def zpush (rk : Nat) (v : Option Value) (st : List Value) : Option (List Value) := match rk, v with
  | 0, none => some st
  | 1, some (.int x) => some (.int x :: st)
  | 2, some (.long x) => some (.long x :: st)
  | _, _ => none
def zfetch : List (Nat × zE) → Nat → Option zE
  | [], _ => none
  | q :: l, pc => if Nat.beq q.1 pc = true then some q.2 else zfetch l pc
def zret (mi : Nat) : Option FieldType := match znth zmeth mi with
  | some q => q.2.2.2.2.1
  | none => none
abbrev zR : Type := Option (Option Value × zM)
def zrun (L : Nat) : Nat → Nat → Nat → zLo → List Value → zM → zR
  | 0, _, _, _, _, _ => none
  | n + 1, mi, pc, lc, st, M =>
    match zfetch (zcode mi) pc with
    | none => none
    | some e =>
      match zs1 L e lc st M with
      | some q => zrun L n mi e.2.1 q.1 q.2.1 q.2.2
      | none =>
        match zctl L (zret mi) e st with
        | none => none
        | some (.inl q) => zrun L n mi q.1 lc q.2 M
        | some (.inr (.inl v)) => some (v, M)
        | some (.inr (.inr q)) =>
          match zrun L n q.1 0 (zini q.2.2.2.1 q.2.1) [] M with
          | none => none
          | some r =>
            match zpush q.2.2.2.2 r.1 q.2.2.1 with
            | none => none
            | some st' => zrun L n mi e.2.1 lc st' r.2
theorem zrun_mono (L : Nat) : ∀ (n : Nat) {mi pc : Nat} {lc : zLo} {st : List Value} {M : zM} {r : Option Value × zM}, zrun L n mi pc lc st M = some r → ∀ m, n ≤ m → zrun L m mi pc lc st M = some r := by
  intro n
  induction n with
  | zero => intro mi pc lc st M r h; simp [zrun] at h
  | succ n ih =>
    intro mi pc lc st M r h m hm
    obtain ⟨m, rfl⟩ : ∃ k, m = k + 1 := ⟨m - 1, by omega⟩
    have hm' : n ≤ m := by omega
    simp only [zrun] at h ⊢
    cases hf : zfetch (zcode mi) pc with
    | none => simp [hf] at h
    | some e =>
      simp only [hf] at h ⊢
      cases hs : zs1 L e lc st M with
      | some q => simp only [hs] at h ⊢; exact ih h m hm'
      | none =>
        simp only [hs] at h ⊢
        cases hc : zctl L (zret mi) e st with
        | none => simp [hc] at h
        | some o =>
          simp only [hc] at h ⊢
          rcases o with q | v | q
          · exact ih h m hm'
          · exact h
          · cases hr : zrun L n q.1 0 (zini q.2.2.2.1 q.2.1) [] M with
            | none => simp [hr] at h
            | some r' =>
              simp only [hr] at h
              simp only [ih hr m hm']
              cases hp : zpush q.2.2.2.2 r'.1 q.2.2.1 with
              | none => simp [hp] at h
              | some st' => simp only [hp] at h ⊢; exact ih h m hm'
noncomputable def zden (L mi pc : Nat) (lc : zLo) (st : List Value) (M : zM) : zR :=
  @dite zR (∃ n, (zrun L n mi pc lc st M).isSome = true) (Classical.propDecidable _) (fun h => zrun L (Classical.choose h) mi pc lc st M) (fun _ => none)
theorem zden_of {L n mi pc : Nat} {lc : zLo} {st : List Value} {M : zM} {r : Option Value × zM} (h : zrun L n mi pc lc st M = some r) : zden L mi pc lc st M = some r := by
  have hx : ∃ n, (zrun L n mi pc lc st M).isSome = true := ⟨n, by rw [h]; rfl⟩
  unfold zden
  rw [dif_pos hx]
  have hc := Classical.choose_spec hx
  obtain ⟨r', hr'⟩ := Option.isSome_iff_exists.mp hc
  rw [hr']
  have h1 := zrun_mono L _ hr' (max (Classical.choose hx) n) (Nat.le_max_left _ _)
  have h2 := zrun_mono L _ h (max (Classical.choose hx) n) (Nat.le_max_right _ _)
  rw [h1] at h2
  exact h2
theorem zden_iff {L mi pc : Nat} {lc : zLo} {st : List Value} {M : zM} {r : Option Value × zM} : zden L mi pc lc st M = some r ↔ ∃ n, zrun L n mi pc lc st M = some r := by
  constructor
  · intro h
    unfold zden at h
    split at h
    next hx => exact ⟨_, h⟩
    next => cases h
  · rintro ⟨n, h⟩
    exact zden_of h
theorem zR_ext {a b : zR} (h : ∀ r, a = some r ↔ b = some r) : a = b := by
  cases a with
  | none =>
    cases b with
    | none => rfl
    | some r => exact absurd ((h r).mpr rfl) (by simp)
  | some r => exact ((h r).mp rfl).symm
theorem zden_step {L mi pc : Nat} {lc lc' : zLo} {st st' : List Value} {M M' : zM} {e : zE} (hf : zfetch (zcode mi) pc = some e) (hs : zs1 L e lc st M = some (lc', st', M')) : zden L mi pc lc st M = zden L mi e.2.1 lc' st' M' := by
  refine zR_ext fun r => ?_
  rw [zden_iff, zden_iff]
  constructor
  · rintro ⟨n, h⟩
    cases n with
    | zero => simp [zrun] at h
    | succ n => exact ⟨n, by simpa only [zrun, hf, hs] using h⟩
  · rintro ⟨n, h⟩
    exact ⟨n + 1, by simpa only [zrun, hf, hs] using h⟩
theorem zden_jump {L mi pc pc' : Nat} {lc : zLo} {st st' : List Value} {M : zM} {e : zE} (hf : zfetch (zcode mi) pc = some e) (hs : zs1 L e lc st M = none) (hc : zctl L (zret mi) e st = some (.inl (pc', st'))) : zden L mi pc lc st M = zden L mi pc' lc st' M := by
  refine zR_ext fun r => ?_
  rw [zden_iff, zden_iff]
  constructor
  · rintro ⟨n, h⟩
    cases n with
    | zero => simp [zrun] at h
    | succ n => exact ⟨n, by simpa only [zrun, hf, hs, hc] using h⟩
  · rintro ⟨n, h⟩
    exact ⟨n + 1, by simpa only [zrun, hf, hs, hc] using h⟩
theorem zden_ret {L mi pc : Nat} {lc : zLo} {st : List Value} {M : zM} {e : zE} {v : Option Value} (hf : zfetch (zcode mi) pc = some e) (hs : zs1 L e lc st M = none) (hc : zctl L (zret mi) e st = some (.inr (.inl v))) : zden L mi pc lc st M = some (v, M) :=
  zden_of (n := 1) (by simp only [zrun, hf, hs, hc])
theorem zden_stuck {L mi pc : Nat} {lc : zLo} {st : List Value} {M : zM} {e : zE} (hf : zfetch (zcode mi) pc = some e) (hs : zs1 L e lc st M = none) (hc : zctl L (zret mi) e st = none) : zden L mi pc lc st M = none := by
  cases h : zden L mi pc lc st M with
  | none => rfl
  | some r =>
    obtain ⟨n, hn⟩ := zden_iff.mp h
    cases n with
    | zero => simp [zrun] at hn
    | succ n => simp [zrun, hf, hs, hc] at hn
def zbI (r : zR) (k : Int32 → zM → zR) : zR := match r with
  | some (some (.int x), M) => k x M
  | _ => none
def zbL (r : zR) (k : Int64 → zM → zR) : zR := match r with
  | some (some (.long x), M) => k x M
  | _ => none
def zbV (r : zR) (k : zM → zR) : zR := match r with
  | some (none, M) => k M
  | _ => none
theorem zbI_some {x : Int32} {M : zM} {k : Int32 → zM → zR} : zbI (some (some (.int x), M)) k = k x M := rfl
theorem zbL_some {x : Int64} {M : zM} {k : Int64 → zM → zR} : zbL (some (some (.long x), M)) k = k x M := rfl
theorem zbV_some {M : zM} {k : zM → zR} : zbV (some (none, M)) k = k M := rfl
theorem zden_call {L mi pc : Nat} {lc : zLo} {st : List Value} {M : zM} {e : zE} {mi' mx rk : Nat} {as rest : List Value} (hf : zfetch (zcode mi) pc = some e) (hs : zs1 L e lc st M = none) (hc : zctl L (zret mi) e st = some (.inr (.inr (mi', as, rest, mx, rk)))) :
    zden L mi pc lc st M = (zden L mi' 0 (zini mx as) [] M).bind (fun r => (zpush rk r.1 rest).bind (fun st' => zden L mi e.2.1 lc st' r.2)) := by
  refine zR_ext fun r => ?_
  rw [zden_iff]
  constructor
  · rintro ⟨n, h⟩
    cases n with
    | zero => simp [zrun] at h
    | succ n =>
      simp only [zrun, hf, hs, hc] at h
      cases hr : zrun L n mi' 0 (zini mx as) [] M with
      | none => simp [hr] at h
      | some r' =>
        simp only [hr] at h
        rw [zden_of hr]
        simp only [Option.bind_some]
        cases hp : zpush rk r'.1 rest with
        | none => simp [hp] at h
        | some st' =>
          simp only [hp] at h
          simp only [Option.bind_some]
          exact zden_of h
  · intro h
    cases hd : zden L mi' 0 (zini mx as) [] M with
    | none => simp [hd] at h
    | some r' =>
      rw [hd] at h
      simp only [Option.bind_some] at h
      cases hp : zpush rk r'.1 rest with
      | none => simp [hp] at h
      | some st' =>
        rw [hp] at h
        simp only [Option.bind_some] at h
        obtain ⟨n1, h1⟩ := zden_iff.mp hd
        obtain ⟨n2, h2⟩ := zden_iff.mp h
        refine ⟨max n1 n2 + 1, ?_⟩
        simp only [zrun, hf, hs, hc, zrun_mono L _ h1 (max n1 n2) (Nat.le_max_left _ _), hp]
        exact zrun_mono L _ h2 (max n1 n2) (Nat.le_max_right _ _)
theorem zbI_eq {d : zR} {rest : List Value} {k : List Value → zM → zR} : d.bind (fun r => (zpush 1 r.1 rest).bind (fun st' => k st' r.2)) = zbI d (fun x M => k (.int x :: rest) M) := by
  rcases d with _ | ⟨_ | v, M⟩
  · rfl
  · rfl
  · cases v <;> rfl
theorem zbL_eq {d : zR} {rest : List Value} {k : List Value → zM → zR} : d.bind (fun r => (zpush 2 r.1 rest).bind (fun st' => k st' r.2)) = zbL d (fun x M => k (.long x :: rest) M) := by
  rcases d with _ | ⟨_ | v, M⟩
  · rfl
  · rfl
  · cases v <;> rfl
theorem zbV_eq {d : zR} {rest : List Value} {k : List Value → zM → zR} : d.bind (fun r => (zpush 0 r.1 rest).bind (fun st' => k st' r.2)) = zbV d (fun M => k rest M) := by
  rcases d with _ | ⟨_ | v, M⟩
  · rfl
  · rfl
  · cases v <;> rfl
