section ZNA
variable {p : Program} {l : Launch} {e : Env} {R : Room} {s : State} {m : MethodId} {args : Array Value} {below : List Frame} {meth : Method} {c : Code} {H H0 : Heap} {locs : List Loc} {cells slots : Nat} {Q : State → Prop}
variable {D : va_G} {cA : FieldType → ClassId} {A : Nat → Prop} {cc : ByteArray} {pc : Nat} {ls : Array Slot} {rest : List Value} {ws : va_W}
/-- a new array of ints or chars, its class the known one -/
theorem zna (hexec : p.tables.exec = Jvm.exec) (hb : c.code = cc) {atype : ArrayType} {ty : FieldType} (harr : (Cond.arrayClass ty).before args s = true) (hty : newarray.typeOf atype = ty) (hok : ty = .int ∨ ty = .char) (hK : va_K D vwCl [(cA .int, .int), (cA .char, .char)] s) (hP : va_P D vwCl ws H) (hD : va_D A ws) (hS : va_S A H0 H locs) (hA : ∀ q, H0.size ≤ q → A q)
    {n : Int32} {N' : Nat} (hn : ¬ n < 0) (hN : n.toNatClampNeg = N') (hbytes : N' * componentBytes ty ≤ 536870912) (hcells : cells + 1 ≤ R.cells) (hslots : slots + N' ≤ R.slots) (hdg : decode cc pc = .ok (.newarray atype, 2))
    (kk : ∀ (q : Nat) (H1 : Heap), va_P D vwCl (ws ++ [(q, .inl (cA ty, N', .inl (fun _ => 0)))]) H1 → va_D A (ws ++ [(q, .inl (cA ty, N', .inl (fun _ => 0)))]) → va_S A H0 H1 locs →
      W p l e R s m args below meth c H1 locs (cells + 1) (slots + N') Q (F0 m (pc + 2) ls (.ref q :: rest))) : W p l e R s m args below meth c H locs cells slots Q (F0 m pc ls (.int n :: rest)) := by
  subst hty
  refine va_newa hexec hb harr rfl hK hP hD hS hA (a0 := (N', .inl (fun _ => 0))) ?_ hn hN hbytes hcells hslots hdg (fun q c1 H1 hK1 hP1 hD1 hS1 => ?_)
  · intro c9
    rcases hok with h | h <;> rw [h] <;> rfl
  · have e1 : c1 = cA (newarray.typeOf atype) := by
      have h1 := (hK1.2 2 _ rfl).2
      have h2 := (hK1.2 0 _ rfl).2
      have h3 := (hK1.2 1 _ rfl).2
      rcases hok with h | h
      · rw [h] at h1 ⊢
        exact Option.some.inj (h1.symm.trans h2)
      · rw [h] at h1 ⊢
        exact Option.some.inj (h1.symm.trans h3)
    subst e1
    exact kk q H1 hP1 hD1 hS1
end ZNA
def yX0_init : MethodName := ⟨RX0, "<init>", "(LPramAndSteps$Town;)V"⟩
def yX1_init : MethodName := ⟨RX1, "<init>", "(II)V"⟩
def yX2_init : MethodName := ⟨RX2, "<init>", "(LPramAndSteps$Town;)V"⟩
def yX3_init : MethodName := ⟨RX3, "<init>", "()V"⟩
def yX4_init : MethodName := ⟨RX4, "<init>", "(LPramAndSteps$Town;LPramAndSteps$Stair;)V"⟩
def yX5_init : MethodName := ⟨RX5, "<init>", "(LPramAndSteps$Town;)V"⟩
def yX6_init : MethodName := ⟨RX6, "<init>", "()V"⟩
def yX7_init : MethodName := ⟨RX7, "<init>", "(LPramAndSteps$Town;)V"⟩
def yX8_init : MethodName := ⟨RX8, "<init>", "(LPramAndSteps$Town;LPramAndSteps$Stair;)V"⟩
def yX9_init : MethodName := ⟨RX9, "<init>", "()V"⟩
def yX10_init : MethodName := ⟨RX10, "<init>", "()V"⟩
set_option maxHeartbeats 4000000 in
set_option maxRecDepth 100000 in
theorem zcX0 (l : Launch) (D : va_G) (cA : FieldType → ClassId) (h0 r1 sz : Nat) : Met l yX0_init (.code yX0_init prog_2_method_1_code 2 none :: zgood) ({ frames := 1, cells := 1, slots := 24, locals := 24 }) (va_Pc [.ref h0, .ref r1] (fun U => U.heap.size = sz ∧ va_P D vwCl [(h0, .inr (0, [.null, .null]))] U.heap ∧ va_K D vwCl [(cA .int, .int), (cA .char, .char)] U ∧ va_D (fun _ => True) [(h0, .inr (0, [.null, .null]))])) (va_Qv (fun _ : Nat → Nat => True) (fun u t => va_P D vwCl [(h0, .inr (0, [.ref r1, .ref (u 0)])), ((u 0), .inl (cA .int, 24, .inl (fun _ => 0)))] t.heap ∧ va_K D vwCl [(cA .int, .int), (cA .char, .char)] t ∧ va_D (va_A [(h0, .inr (0, [.null, .null]))] sz) [(h0, .inr (0, [.ref r1, .ref (u 0)])), ((u 0), .inl (cA .int, 24, .inl (fun _ => 0)))]) (va_A [(h0, .inr (0, [.null, .null]))] sz)) 1 24 (va_A [(h0, .inr (0, [.null, .null]))] sz) := by
  refine Met.ofW (cc := prog_2_method_1_code) (maxL := 2) (ret := none) (by decide) rfl ?_
  intro p e s m args below meth c s₁ B hml hv
  obtain ⟨rfl, hsz, hP, hK, hD0⟩ := hv
  have hx := B.exec
  have hb := B.bytes
  have hr := B.returns
  have hts := atoms_spec (ws := .code yX0_init prog_2_method_1_code 2 none :: zgood) B.pre
  have hz : ∀ w ∈ zgood, w.before _ s = true := fun w h => hts w (List.mem_cons_of_mem _ h)
  have hown : s.vm.findClass RX0 = some m.cls := findClass_of_methodNamed B.named
  have hlocks := B.notSynchronized
  have hin : meth.name = "<init>" := (name_of_methodNamed B.named B.method).1
  subst hsz
  have hD := hD0.self (sz := s.heap.size)
  generalize hAe : va_A [(h0, .inr (0, [.null, .null]))] s.heap.size = A at hD ⊢
  have hA : ∀ q : Nat, s.heap.size ≤ q → A q := fun q h => by rw [← hAe]; exact Or.inr h
  have hS : va_S A s.heap s.heap [] := va_S.rf
  have hl := lv_entry ([.ref h0, .ref r1]) (n := 2) (Nat.le_of_ble_eq_true rfl)
  rw [lg_entry_eq]
  generalize (lg_sl ([.ref h0, .ref r1]) ++ List.replicate (2 - (lg_sl ([.ref h0, .ref r1])).length) Slot.unset).toArray = ls at hl ⊢
  have hl : lv_has ls 2 [(0, .ref h0), (1, .ref r1)] := hl
  refine lv_aload_n hx hb (show decode prog_2_method_1_code 0 = .ok (.aload_n 0, 1) by decide +kernel) rfl (lv_at hl 0 rfl) ?_
  refine W.objInit hx hb hown (hz (.methodLink RX0 3 Lib.objectInit) (zw1 202 rfl rfl)) (hz (.instanceMethod Lib.objectInit) (zw1 26 rfl rfl)) (hz (.code Lib.objectInit ⟨#[0xb1]⟩ 1 none) (zw1 27 rfl rfl)) rfl (by rw [hml]; exact hl.1) rfl (show decode prog_2_method_1_code 1 = .ok (.invokespecial 3, 3) by decide +kernel) (Nat.le_of_ble_eq_true rfl) (Nat.le_of_ble_eq_true rfl) ?_
  refine W.eq (g2 := F0 m 4 ls []) rfl ?_
  refine lv_aload_n hx hb (show decode prog_2_method_1_code 4 = .ok (.aload_n 0, 1) by decide +kernel) rfl (lv_at hl 0 rfl) ?_
  refine lv_bipush (v := 24) hx hb (show decode prog_2_method_1_code 5 = .ok (.bipush 24, 2) by decide +kernel) (by decide) ?_
  refine zna (N' := 24) hx hb (hz (.arrayClass .int) (zw1 110 rfl rfl)) (show newarray.typeOf .int = .int from rfl) (by decide) hK hP hD hS hA (by decide) (by decide) (Nat.le_of_ble_eq_true rfl) (Nat.le_of_ble_eq_true rfl) (Nat.le_of_ble_eq_true rfl) (show decode prog_2_method_1_code 7 = .ok (.newarray .int, 2) by decide +kernel) (fun q1 H hP hD hS => ?_)
  have hP : va_P D vwCl [(h0, .inr (0, [.null, .null])), (q1, .inl (cA .int, 24, .inl (fun _ => 0)))] H := hP
  have hD : va_D A [(h0, .inr (0, [.null, .null])), (q1, .inl (cA .int, 24, .inl (fun _ => 0)))] := hD
  refine W.widen (k := 1) (n := 24) (Nat.le_of_ble_eq_true rfl) (Nat.le_of_ble_eq_true rfl) ?_
  refine va_putF hx hb hz zi_0 tyX0 tyX0_ok nmX0 hown hK hP hD hS 0 rfl rfl 1 (by decide) (hz (.fieldLink RX0 9 (TX0 1).1 (TX0 1).2.1 (TX0 1).2.2.1) (zw1 204 rfl rfl)) (fun x h => h) rfl hin rfl (tyX0_ok 1 (by decide)) rfl rfl (Nat.le_of_ble_eq_true rfl) (show decode prog_2_method_1_code 9 = .ok (.putfield 9, 3) by decide +kernel) (fun H locs hP hD hS => ?_)
  have hP : va_P D vwCl [(h0, .inr (0, [.null, .ref q1])), (q1, .inl (cA .int, 24, .inl (fun _ => 0)))] H := hP
  have hD : va_D A [(h0, .inr (0, [.null, .ref q1])), (q1, .inl (cA .int, 24, .inl (fun _ => 0)))] := hD
  refine lv_aload_n hx hb (show decode prog_2_method_1_code 12 = .ok (.aload_n 0, 1) by decide +kernel) rfl (lv_at hl 0 rfl) ?_
  refine lv_aload_n hx hb (show decode prog_2_method_1_code 13 = .ok (.aload_n 1, 1) by decide +kernel) rfl (lv_at hl 1 rfl) ?_
  refine va_putF hx hb hz zi_0 tyX0 tyX0_ok nmX0 hown hK hP hD hS 0 rfl rfl 0 (by decide) (hz (.fieldLink RX0 15 (TX0 0).1 (TX0 0).2.1 (TX0 0).2.2.1) (zw1 203 rfl rfl)) (fun x h => h) rfl hin rfl (tyX0_ok 0 (by decide)) rfl rfl (Nat.le_of_ble_eq_true rfl) (show decode prog_2_method_1_code 14 = .ok (.putfield 15, 3) by decide +kernel) (fun H locs hP hD hS => ?_)
  have hP : va_P D vwCl [(h0, .inr (0, [.ref r1, .ref q1])), (q1, .inl (cA .int, 24, .inl (fun _ => 0)))] H := hP
  have hD : va_D A [(h0, .inr (0, [.ref r1, .ref q1])), (q1, .inl (cA .int, 24, .inl (fun _ => 0)))] := hD
  exact W.vret hx hb hr (fun t ht hW => ⟨⟨fun k => ([q1] : List Nat).getD k 0, rfl, trivial, by rw [ht]; exact hP, va_K.moved hW.alike hK, hD⟩, hS.F ht⟩) hS.2.2 (show decode prog_2_method_1_code 17 = .ok (.return_, 1) by decide +kernel)
theorem zgd_zcX0 : GoodIn zgood (.code yX0_init prog_2_method_1_code 2 none :: zgood) := zGoodIn fun w hw => by
  rcases List.mem_cons.mp hw with rfl | h
  · exact (zw1 201 rfl rfl)
  · exact h
set_option maxHeartbeats 4000000 in
set_option maxRecDepth 100000 in
theorem zcX1a (l : Launch) (D : va_G) (cA : FieldType → ClassId) (h0 sz : Nat) : Met l yX1_init (.code yX1_init prog_3_method_1_code 3 none :: zgood) ({ frames := 1, cells := 1, slots := 48, locals := 24 }) (va_Pc [.ref h0, .int 8, .int 6] (fun U => U.heap.size = sz ∧ va_P D vwCl [(h0, .inr (1, [.int 0, .int 0, .null, .int 0]))] U.heap ∧ va_K D vwCl [(cA .int, .int), (cA .char, .char)] U ∧ va_D (fun _ => True) [(h0, .inr (1, [.int 0, .int 0, .null, .int 0]))])) (va_Qv (fun _ : Nat → Nat => True) (fun u t => va_P D vwCl [(h0, .inr (1, [.int 8, .int 6, .ref (u 0), .int 0])), ((u 0), .inl (cA .int, 48, .inl (fun _ => 0)))] t.heap ∧ va_K D vwCl [(cA .int, .int), (cA .char, .char)] t ∧ va_D (va_A [(h0, .inr (1, [.int 0, .int 0, .null, .int 0]))] sz) [(h0, .inr (1, [.int 8, .int 6, .ref (u 0), .int 0])), ((u 0), .inl (cA .int, 48, .inl (fun _ => 0)))]) (va_A [(h0, .inr (1, [.int 0, .int 0, .null, .int 0]))] sz)) 1 48 (va_A [(h0, .inr (1, [.int 0, .int 0, .null, .int 0]))] sz) := by
  refine Met.ofW (cc := prog_3_method_1_code) (maxL := 3) (ret := none) (by decide) rfl ?_
  intro p e s m args below meth c s₁ B hml hv
  obtain ⟨rfl, hsz, hP, hK, hD0⟩ := hv
  have hx := B.exec
  have hb := B.bytes
  have hr := B.returns
  have hts := atoms_spec (ws := .code yX1_init prog_3_method_1_code 3 none :: zgood) B.pre
  have hz : ∀ w ∈ zgood, w.before _ s = true := fun w h => hts w (List.mem_cons_of_mem _ h)
  have hown : s.vm.findClass RX1 = some m.cls := findClass_of_methodNamed B.named
  have hlocks := B.notSynchronized
  have hin : meth.name = "<init>" := (name_of_methodNamed B.named B.method).1
  subst hsz
  have hD := hD0.self (sz := s.heap.size)
  generalize hAe : va_A [(h0, .inr (1, [.int 0, .int 0, .null, .int 0]))] s.heap.size = A at hD ⊢
  have hA : ∀ q : Nat, s.heap.size ≤ q → A q := fun q h => by rw [← hAe]; exact Or.inr h
  have hS : va_S A s.heap s.heap [] := va_S.rf
  have hl := lv_entry ([.ref h0, .int 8, .int 6]) (n := 3) (Nat.le_of_ble_eq_true rfl)
  rw [lg_entry_eq]
  generalize (lg_sl ([.ref h0, .int 8, .int 6]) ++ List.replicate (3 - (lg_sl ([.ref h0, .int 8, .int 6])).length) Slot.unset).toArray = ls at hl ⊢
  have hl : lv_has ls 3 [(0, .ref h0), (1, .int 8), (2, .int 6)] := hl
  refine lv_aload_n hx hb (show decode prog_3_method_1_code 0 = .ok (.aload_n 0, 1) by decide +kernel) rfl (lv_at hl 0 rfl) ?_
  refine W.objInit hx hb hown (hz (.methodLink RX1 1 Lib.objectInit) (zw1 228 rfl rfl)) (hz (.instanceMethod Lib.objectInit) (zw1 26 rfl rfl)) (hz (.code Lib.objectInit ⟨#[0xb1]⟩ 1 none) (zw1 27 rfl rfl)) rfl (by rw [hml]; exact hl.1) rfl (show decode prog_3_method_1_code 1 = .ok (.invokespecial 1, 3) by decide +kernel) (Nat.le_of_ble_eq_true rfl) (Nat.le_of_ble_eq_true rfl) ?_
  refine W.eq (g2 := F0 m 4 ls []) rfl ?_
  refine lv_aload_n hx hb (show decode prog_3_method_1_code 4 = .ok (.aload_n 0, 1) by decide +kernel) rfl (lv_at hl 0 rfl) ?_
  refine lv_iconst (v := 0) hx hb (show decode prog_3_method_1_code 5 = .ok (.iconst 0, 1) by decide +kernel) (by decide) ?_
  refine va_put hx hb hz zi_1 tyX1 tyX1_ok nmX1 hown hK hP hD hS 0 rfl rfl 3 (by decide) (hz (.fieldLink RX1 7 (TX1 3).1 (TX1 3).2.1 (TX1 3).2.2.1) (zw1 235 rfl rfl)) (fun x h => h) rfl (tyX1_ok 3 (by decide)) rfl rfl (Nat.le_of_ble_eq_true rfl) (show decode prog_3_method_1_code 6 = .ok (.putfield 7, 3) by decide +kernel) (fun H locs hP hD hS => ?_)
  have hP : va_P D vwCl [(h0, .inr (1, [.int 0, .int 0, .null, .int 0]))] H := hP
  have hD : va_D A [(h0, .inr (1, [.int 0, .int 0, .null, .int 0]))] := hD
  refine lv_aload_n hx hb (show decode prog_3_method_1_code 9 = .ok (.aload_n 0, 1) by decide +kernel) rfl (lv_at hl 0 rfl) ?_
  refine lv_iload_n hx hb (show decode prog_3_method_1_code 10 = .ok (.iload_n 1, 1) by decide +kernel) rfl (lv_at hl 1 rfl) ?_
  refine va_putF hx hb hz zi_1 tyX1 tyX1_ok nmX1 hown hK hP hD hS 0 rfl rfl 0 (by decide) (hz (.fieldLink RX1 13 (TX1 0).1 (TX1 0).2.1 (TX1 0).2.2.1) (zw1 232 rfl rfl)) (fun x h => h) rfl hin rfl (tyX1_ok 0 (by decide)) rfl rfl (Nat.le_of_ble_eq_true rfl) (show decode prog_3_method_1_code 11 = .ok (.putfield 13, 3) by decide +kernel) (fun H locs hP hD hS => ?_)
  have hP : va_P D vwCl [(h0, .inr (1, [.int 8, .int 0, .null, .int 0]))] H := hP
  have hD : va_D A [(h0, .inr (1, [.int 8, .int 0, .null, .int 0]))] := hD
  refine lv_aload_n hx hb (show decode prog_3_method_1_code 14 = .ok (.aload_n 0, 1) by decide +kernel) rfl (lv_at hl 0 rfl) ?_
  refine lv_iload_n hx hb (show decode prog_3_method_1_code 15 = .ok (.iload_n 2, 1) by decide +kernel) rfl (lv_at hl 2 rfl) ?_
  refine va_putF hx hb hz zi_1 tyX1 tyX1_ok nmX1 hown hK hP hD hS 0 rfl rfl 1 (by decide) (hz (.fieldLink RX1 16 (TX1 1).1 (TX1 1).2.1 (TX1 1).2.2.1) (zw1 233 rfl rfl)) (fun x h => h) rfl hin rfl (tyX1_ok 1 (by decide)) rfl rfl (Nat.le_of_ble_eq_true rfl) (show decode prog_3_method_1_code 16 = .ok (.putfield 16, 3) by decide +kernel) (fun H locs hP hD hS => ?_)
  have hP : va_P D vwCl [(h0, .inr (1, [.int 8, .int 6, .null, .int 0]))] H := hP
  have hD : va_D A [(h0, .inr (1, [.int 8, .int 6, .null, .int 0]))] := hD
  refine lv_aload_n hx hb (show decode prog_3_method_1_code 19 = .ok (.aload_n 0, 1) by decide +kernel) rfl (lv_at hl 0 rfl) ?_
  refine lv_iconst (v := 0) hx hb (show decode prog_3_method_1_code 20 = .ok (.iconst 0, 1) by decide +kernel) (by decide) ?_
  refine lv_iload_n hx hb (show decode prog_3_method_1_code 21 = .ok (.iload_n 1, 1) by decide +kernel) rfl (lv_at hl 1 rfl) ?_
  refine lv_iload_n hx hb (show decode prog_3_method_1_code 22 = .ok (.iload_n 2, 1) by decide +kernel) rfl (lv_at hl 2 rfl) ?_
  refine lv_imul hx hb (show decode prog_3_method_1_code 23 = .ok (.imul, 1) by decide +kernel) ?_
  refine va_mmax hx hb (by rw [hml]; exact hl.1.symm) hown (hz (.methodLink RX1 19 Lib.Math.max.name) (zw1 229 rfl rfl)) (hz (.static Lib.Math.max.name) (zw1 230 rfl rfl)) (hz (.initialized "java/lang/Math") (zw1 11 rfl rfl)) (hz (.code Lib.Math.max.name Lib.Math.max.code 2 (some .int)) (zw1 231 rfl rfl)) (Nat.le_of_ble_eq_true rfl) (Nat.le_of_ble_eq_true rfl) (Nat.le_of_ble_eq_true rfl) (Nat.le_of_ble_eq_true rfl) (show decode prog_3_method_1_code 24 = .ok (.invokestatic 19, 3) by decide +kernel) ?_
  refine zna (N' := 48) hx hb (hz (.arrayClass .int) (zw1 110 rfl rfl)) (show newarray.typeOf .int = .int from rfl) (by decide) hK hP hD hS hA (by decide) (by decide) (Nat.le_of_ble_eq_true rfl) (Nat.le_of_ble_eq_true rfl) (Nat.le_of_ble_eq_true rfl) (show decode prog_3_method_1_code 27 = .ok (.newarray .int, 2) by decide +kernel) (fun q1 H hP hD hS => ?_)
  have hP : va_P D vwCl [(h0, .inr (1, [.int 8, .int 6, .null, .int 0])), (q1, .inl (cA .int, 48, .inl (fun _ => 0)))] H := hP
  have hD : va_D A [(h0, .inr (1, [.int 8, .int 6, .null, .int 0])), (q1, .inl (cA .int, 48, .inl (fun _ => 0)))] := hD
  refine W.widen (k := 1) (n := 48) (Nat.le_of_ble_eq_true rfl) (Nat.le_of_ble_eq_true rfl) ?_
  refine va_putF hx hb hz zi_1 tyX1 tyX1_ok nmX1 hown hK hP hD hS 0 rfl rfl 2 (by decide) (hz (.fieldLink RX1 25 (TX1 2).1 (TX1 2).2.1 (TX1 2).2.2.1) (zw1 234 rfl rfl)) (fun x h => h) rfl hin rfl (tyX1_ok 2 (by decide)) rfl rfl (Nat.le_of_ble_eq_true rfl) (show decode prog_3_method_1_code 29 = .ok (.putfield 25, 3) by decide +kernel) (fun H locs hP hD hS => ?_)
  have hP : va_P D vwCl [(h0, .inr (1, [.int 8, .int 6, .ref q1, .int 0])), (q1, .inl (cA .int, 48, .inl (fun _ => 0)))] H := hP
  have hD : va_D A [(h0, .inr (1, [.int 8, .int 6, .ref q1, .int 0])), (q1, .inl (cA .int, 48, .inl (fun _ => 0)))] := hD
  exact W.vret hx hb hr (fun t ht hW => ⟨⟨fun k => ([q1] : List Nat).getD k 0, rfl, trivial, by rw [ht]; exact hP, va_K.moved hW.alike hK, hD⟩, hS.F ht⟩) hS.2.2 (show decode prog_3_method_1_code 32 = .ok (.return_, 1) by decide +kernel)
theorem zgd_zcX1a : GoodIn zgood (.code yX1_init prog_3_method_1_code 3 none :: zgood) := zGoodIn fun w hw => by
  rcases List.mem_cons.mp hw with rfl | h
  · exact (zw1 227 rfl rfl)
  · exact h
set_option maxHeartbeats 4000000 in
set_option maxRecDepth 100000 in
theorem zcX1b (l : Launch) (D : va_G) (cA : FieldType → ClassId) (h0 sz : Nat) : Met l yX1_init (.code yX1_init prog_3_method_1_code 3 none :: zgood) ({ frames := 1, cells := 1, slots := 16, locals := 24 }) (va_Pc [.ref h0, .int 2, .int 8] (fun U => U.heap.size = sz ∧ va_P D vwCl [(h0, .inr (1, [.int 0, .int 0, .null, .int 0]))] U.heap ∧ va_K D vwCl [(cA .int, .int), (cA .char, .char)] U ∧ va_D (fun _ => True) [(h0, .inr (1, [.int 0, .int 0, .null, .int 0]))])) (va_Qv (fun _ : Nat → Nat => True) (fun u t => va_P D vwCl [(h0, .inr (1, [.int 2, .int 8, .ref (u 0), .int 0])), ((u 0), .inl (cA .int, 16, .inl (fun _ => 0)))] t.heap ∧ va_K D vwCl [(cA .int, .int), (cA .char, .char)] t ∧ va_D (va_A [(h0, .inr (1, [.int 0, .int 0, .null, .int 0]))] sz) [(h0, .inr (1, [.int 2, .int 8, .ref (u 0), .int 0])), ((u 0), .inl (cA .int, 16, .inl (fun _ => 0)))]) (va_A [(h0, .inr (1, [.int 0, .int 0, .null, .int 0]))] sz)) 1 16 (va_A [(h0, .inr (1, [.int 0, .int 0, .null, .int 0]))] sz) := by
  refine Met.ofW (cc := prog_3_method_1_code) (maxL := 3) (ret := none) (by decide) rfl ?_
  intro p e s m args below meth c s₁ B hml hv
  obtain ⟨rfl, hsz, hP, hK, hD0⟩ := hv
  have hx := B.exec
  have hb := B.bytes
  have hr := B.returns
  have hts := atoms_spec (ws := .code yX1_init prog_3_method_1_code 3 none :: zgood) B.pre
  have hz : ∀ w ∈ zgood, w.before _ s = true := fun w h => hts w (List.mem_cons_of_mem _ h)
  have hown : s.vm.findClass RX1 = some m.cls := findClass_of_methodNamed B.named
  have hlocks := B.notSynchronized
  have hin : meth.name = "<init>" := (name_of_methodNamed B.named B.method).1
  subst hsz
  have hD := hD0.self (sz := s.heap.size)
  generalize hAe : va_A [(h0, .inr (1, [.int 0, .int 0, .null, .int 0]))] s.heap.size = A at hD ⊢
  have hA : ∀ q : Nat, s.heap.size ≤ q → A q := fun q h => by rw [← hAe]; exact Or.inr h
  have hS : va_S A s.heap s.heap [] := va_S.rf
  have hl := lv_entry ([.ref h0, .int 2, .int 8]) (n := 3) (Nat.le_of_ble_eq_true rfl)
  rw [lg_entry_eq]
  generalize (lg_sl ([.ref h0, .int 2, .int 8]) ++ List.replicate (3 - (lg_sl ([.ref h0, .int 2, .int 8])).length) Slot.unset).toArray = ls at hl ⊢
  have hl : lv_has ls 3 [(0, .ref h0), (1, .int 2), (2, .int 8)] := hl
  refine lv_aload_n hx hb (show decode prog_3_method_1_code 0 = .ok (.aload_n 0, 1) by decide +kernel) rfl (lv_at hl 0 rfl) ?_
  refine W.objInit hx hb hown (hz (.methodLink RX1 1 Lib.objectInit) (zw1 228 rfl rfl)) (hz (.instanceMethod Lib.objectInit) (zw1 26 rfl rfl)) (hz (.code Lib.objectInit ⟨#[0xb1]⟩ 1 none) (zw1 27 rfl rfl)) rfl (by rw [hml]; exact hl.1) rfl (show decode prog_3_method_1_code 1 = .ok (.invokespecial 1, 3) by decide +kernel) (Nat.le_of_ble_eq_true rfl) (Nat.le_of_ble_eq_true rfl) ?_
  refine W.eq (g2 := F0 m 4 ls []) rfl ?_
  refine lv_aload_n hx hb (show decode prog_3_method_1_code 4 = .ok (.aload_n 0, 1) by decide +kernel) rfl (lv_at hl 0 rfl) ?_
  refine lv_iconst (v := 0) hx hb (show decode prog_3_method_1_code 5 = .ok (.iconst 0, 1) by decide +kernel) (by decide) ?_
  refine va_put hx hb hz zi_1 tyX1 tyX1_ok nmX1 hown hK hP hD hS 0 rfl rfl 3 (by decide) (hz (.fieldLink RX1 7 (TX1 3).1 (TX1 3).2.1 (TX1 3).2.2.1) (zw1 235 rfl rfl)) (fun x h => h) rfl (tyX1_ok 3 (by decide)) rfl rfl (Nat.le_of_ble_eq_true rfl) (show decode prog_3_method_1_code 6 = .ok (.putfield 7, 3) by decide +kernel) (fun H locs hP hD hS => ?_)
  have hP : va_P D vwCl [(h0, .inr (1, [.int 0, .int 0, .null, .int 0]))] H := hP
  have hD : va_D A [(h0, .inr (1, [.int 0, .int 0, .null, .int 0]))] := hD
  refine lv_aload_n hx hb (show decode prog_3_method_1_code 9 = .ok (.aload_n 0, 1) by decide +kernel) rfl (lv_at hl 0 rfl) ?_
  refine lv_iload_n hx hb (show decode prog_3_method_1_code 10 = .ok (.iload_n 1, 1) by decide +kernel) rfl (lv_at hl 1 rfl) ?_
  refine va_putF hx hb hz zi_1 tyX1 tyX1_ok nmX1 hown hK hP hD hS 0 rfl rfl 0 (by decide) (hz (.fieldLink RX1 13 (TX1 0).1 (TX1 0).2.1 (TX1 0).2.2.1) (zw1 232 rfl rfl)) (fun x h => h) rfl hin rfl (tyX1_ok 0 (by decide)) rfl rfl (Nat.le_of_ble_eq_true rfl) (show decode prog_3_method_1_code 11 = .ok (.putfield 13, 3) by decide +kernel) (fun H locs hP hD hS => ?_)
  have hP : va_P D vwCl [(h0, .inr (1, [.int 2, .int 0, .null, .int 0]))] H := hP
  have hD : va_D A [(h0, .inr (1, [.int 2, .int 0, .null, .int 0]))] := hD
  refine lv_aload_n hx hb (show decode prog_3_method_1_code 14 = .ok (.aload_n 0, 1) by decide +kernel) rfl (lv_at hl 0 rfl) ?_
  refine lv_iload_n hx hb (show decode prog_3_method_1_code 15 = .ok (.iload_n 2, 1) by decide +kernel) rfl (lv_at hl 2 rfl) ?_
  refine va_putF hx hb hz zi_1 tyX1 tyX1_ok nmX1 hown hK hP hD hS 0 rfl rfl 1 (by decide) (hz (.fieldLink RX1 16 (TX1 1).1 (TX1 1).2.1 (TX1 1).2.2.1) (zw1 233 rfl rfl)) (fun x h => h) rfl hin rfl (tyX1_ok 1 (by decide)) rfl rfl (Nat.le_of_ble_eq_true rfl) (show decode prog_3_method_1_code 16 = .ok (.putfield 16, 3) by decide +kernel) (fun H locs hP hD hS => ?_)
  have hP : va_P D vwCl [(h0, .inr (1, [.int 2, .int 8, .null, .int 0]))] H := hP
  have hD : va_D A [(h0, .inr (1, [.int 2, .int 8, .null, .int 0]))] := hD
  refine lv_aload_n hx hb (show decode prog_3_method_1_code 19 = .ok (.aload_n 0, 1) by decide +kernel) rfl (lv_at hl 0 rfl) ?_
  refine lv_iconst (v := 0) hx hb (show decode prog_3_method_1_code 20 = .ok (.iconst 0, 1) by decide +kernel) (by decide) ?_
  refine lv_iload_n hx hb (show decode prog_3_method_1_code 21 = .ok (.iload_n 1, 1) by decide +kernel) rfl (lv_at hl 1 rfl) ?_
  refine lv_iload_n hx hb (show decode prog_3_method_1_code 22 = .ok (.iload_n 2, 1) by decide +kernel) rfl (lv_at hl 2 rfl) ?_
  refine lv_imul hx hb (show decode prog_3_method_1_code 23 = .ok (.imul, 1) by decide +kernel) ?_
  refine va_mmax hx hb (by rw [hml]; exact hl.1.symm) hown (hz (.methodLink RX1 19 Lib.Math.max.name) (zw1 229 rfl rfl)) (hz (.static Lib.Math.max.name) (zw1 230 rfl rfl)) (hz (.initialized "java/lang/Math") (zw1 11 rfl rfl)) (hz (.code Lib.Math.max.name Lib.Math.max.code 2 (some .int)) (zw1 231 rfl rfl)) (Nat.le_of_ble_eq_true rfl) (Nat.le_of_ble_eq_true rfl) (Nat.le_of_ble_eq_true rfl) (Nat.le_of_ble_eq_true rfl) (show decode prog_3_method_1_code 24 = .ok (.invokestatic 19, 3) by decide +kernel) ?_
  refine zna (N' := 16) hx hb (hz (.arrayClass .int) (zw1 110 rfl rfl)) (show newarray.typeOf .int = .int from rfl) (by decide) hK hP hD hS hA (by decide) (by decide) (Nat.le_of_ble_eq_true rfl) (Nat.le_of_ble_eq_true rfl) (Nat.le_of_ble_eq_true rfl) (show decode prog_3_method_1_code 27 = .ok (.newarray .int, 2) by decide +kernel) (fun q1 H hP hD hS => ?_)
  have hP : va_P D vwCl [(h0, .inr (1, [.int 2, .int 8, .null, .int 0])), (q1, .inl (cA .int, 16, .inl (fun _ => 0)))] H := hP
  have hD : va_D A [(h0, .inr (1, [.int 2, .int 8, .null, .int 0])), (q1, .inl (cA .int, 16, .inl (fun _ => 0)))] := hD
  refine W.widen (k := 1) (n := 16) (Nat.le_of_ble_eq_true rfl) (Nat.le_of_ble_eq_true rfl) ?_
  refine va_putF hx hb hz zi_1 tyX1 tyX1_ok nmX1 hown hK hP hD hS 0 rfl rfl 2 (by decide) (hz (.fieldLink RX1 25 (TX1 2).1 (TX1 2).2.1 (TX1 2).2.2.1) (zw1 234 rfl rfl)) (fun x h => h) rfl hin rfl (tyX1_ok 2 (by decide)) rfl rfl (Nat.le_of_ble_eq_true rfl) (show decode prog_3_method_1_code 29 = .ok (.putfield 25, 3) by decide +kernel) (fun H locs hP hD hS => ?_)
  have hP : va_P D vwCl [(h0, .inr (1, [.int 2, .int 8, .ref q1, .int 0])), (q1, .inl (cA .int, 16, .inl (fun _ => 0)))] H := hP
  have hD : va_D A [(h0, .inr (1, [.int 2, .int 8, .ref q1, .int 0])), (q1, .inl (cA .int, 16, .inl (fun _ => 0)))] := hD
  exact W.vret hx hb hr (fun t ht hW => ⟨⟨fun k => ([q1] : List Nat).getD k 0, rfl, trivial, by rw [ht]; exact hP, va_K.moved hW.alike hK, hD⟩, hS.F ht⟩) hS.2.2 (show decode prog_3_method_1_code 32 = .ok (.return_, 1) by decide +kernel)
theorem zgd_zcX1b : GoodIn zgood (.code yX1_init prog_3_method_1_code 3 none :: zgood) := zGoodIn fun w hw => by
  rcases List.mem_cons.mp hw with rfl | h
  · exact (zw1 227 rfl rfl)
  · exact h
set_option maxHeartbeats 4000000 in
set_option maxRecDepth 100000 in
theorem zcX2 (l : Launch) (D : va_G) (cA : FieldType → ClassId) (h0 r1 sz : Nat) : Met l yX2_init (.code yX2_init prog_4_method_1_code 2 none :: zgood) ({ frames := 1, cells := 1, slots := 49, locals := 24 }) (va_Pc [.ref h0, .ref r1] (fun U => U.heap.size = sz ∧ va_P D vwCl [(h0, .inr (2, [.null, .null]))] U.heap ∧ va_K D vwCl [(cA .int, .int), (cA .char, .char)] U ∧ va_D (fun _ => True) [(h0, .inr (2, [.null, .null]))])) (va_Qv (fun _ : Nat → Nat => True) (fun u t => va_P D vwCl [(h0, .inr (2, [.ref r1, .ref (u 0)])), ((u 0), .inl (cA .int, 49, .inl (fun _ => 0)))] t.heap ∧ va_K D vwCl [(cA .int, .int), (cA .char, .char)] t ∧ va_D (va_A [(h0, .inr (2, [.null, .null]))] sz) [(h0, .inr (2, [.ref r1, .ref (u 0)])), ((u 0), .inl (cA .int, 49, .inl (fun _ => 0)))]) (va_A [(h0, .inr (2, [.null, .null]))] sz)) 1 49 (va_A [(h0, .inr (2, [.null, .null]))] sz) := by
  refine Met.ofW (cc := prog_4_method_1_code) (maxL := 2) (ret := none) (by decide) rfl ?_
  intro p e s m args below meth c s₁ B hml hv
  obtain ⟨rfl, hsz, hP, hK, hD0⟩ := hv
  have hx := B.exec
  have hb := B.bytes
  have hr := B.returns
  have hts := atoms_spec (ws := .code yX2_init prog_4_method_1_code 2 none :: zgood) B.pre
  have hz : ∀ w ∈ zgood, w.before _ s = true := fun w h => hts w (List.mem_cons_of_mem _ h)
  have hown : s.vm.findClass RX2 = some m.cls := findClass_of_methodNamed B.named
  have hlocks := B.notSynchronized
  have hin : meth.name = "<init>" := (name_of_methodNamed B.named B.method).1
  subst hsz
  have hD := hD0.self (sz := s.heap.size)
  generalize hAe : va_A [(h0, .inr (2, [.null, .null]))] s.heap.size = A at hD ⊢
  have hA : ∀ q : Nat, s.heap.size ≤ q → A q := fun q h => by rw [← hAe]; exact Or.inr h
  have hS : va_S A s.heap s.heap [] := va_S.rf
  have hl := lv_entry ([.ref h0, .ref r1]) (n := 2) (Nat.le_of_ble_eq_true rfl)
  rw [lg_entry_eq]
  generalize (lg_sl ([.ref h0, .ref r1]) ++ List.replicate (2 - (lg_sl ([.ref h0, .ref r1])).length) Slot.unset).toArray = ls at hl ⊢
  have hl : lv_has ls 2 [(0, .ref h0), (1, .ref r1)] := hl
  refine lv_aload_n hx hb (show decode prog_4_method_1_code 0 = .ok (.aload_n 0, 1) by decide +kernel) rfl (lv_at hl 0 rfl) ?_
  refine W.objInit hx hb hown (hz (.methodLink RX2 3 Lib.objectInit) (zw1 215 rfl rfl)) (hz (.instanceMethod Lib.objectInit) (zw1 26 rfl rfl)) (hz (.code Lib.objectInit ⟨#[0xb1]⟩ 1 none) (zw1 27 rfl rfl)) rfl (by rw [hml]; exact hl.1) rfl (show decode prog_4_method_1_code 1 = .ok (.invokespecial 3, 3) by decide +kernel) (Nat.le_of_ble_eq_true rfl) (Nat.le_of_ble_eq_true rfl) ?_
  refine W.eq (g2 := F0 m 4 ls []) rfl ?_
  refine lv_aload_n hx hb (show decode prog_4_method_1_code 4 = .ok (.aload_n 0, 1) by decide +kernel) rfl (lv_at hl 0 rfl) ?_
  refine lv_bipush (v := 49) hx hb (show decode prog_4_method_1_code 5 = .ok (.bipush 49, 2) by decide +kernel) (by decide) ?_
  refine zna (N' := 49) hx hb (hz (.arrayClass .int) (zw1 110 rfl rfl)) (show newarray.typeOf .int = .int from rfl) (by decide) hK hP hD hS hA (by decide) (by decide) (Nat.le_of_ble_eq_true rfl) (Nat.le_of_ble_eq_true rfl) (Nat.le_of_ble_eq_true rfl) (show decode prog_4_method_1_code 7 = .ok (.newarray .int, 2) by decide +kernel) (fun q1 H hP hD hS => ?_)
  have hP : va_P D vwCl [(h0, .inr (2, [.null, .null])), (q1, .inl (cA .int, 49, .inl (fun _ => 0)))] H := hP
  have hD : va_D A [(h0, .inr (2, [.null, .null])), (q1, .inl (cA .int, 49, .inl (fun _ => 0)))] := hD
  refine W.widen (k := 1) (n := 49) (Nat.le_of_ble_eq_true rfl) (Nat.le_of_ble_eq_true rfl) ?_
  refine va_putF hx hb hz zi_2 tyX2 tyX2_ok nmX2 hown hK hP hD hS 0 rfl rfl 1 (by decide) (hz (.fieldLink RX2 9 (TX2 1).1 (TX2 1).2.1 (TX2 1).2.2.1) (zw1 217 rfl rfl)) (fun x h => h) rfl hin rfl (tyX2_ok 1 (by decide)) rfl rfl (Nat.le_of_ble_eq_true rfl) (show decode prog_4_method_1_code 9 = .ok (.putfield 9, 3) by decide +kernel) (fun H locs hP hD hS => ?_)
  have hP : va_P D vwCl [(h0, .inr (2, [.null, .ref q1])), (q1, .inl (cA .int, 49, .inl (fun _ => 0)))] H := hP
  have hD : va_D A [(h0, .inr (2, [.null, .ref q1])), (q1, .inl (cA .int, 49, .inl (fun _ => 0)))] := hD
  refine lv_aload_n hx hb (show decode prog_4_method_1_code 12 = .ok (.aload_n 0, 1) by decide +kernel) rfl (lv_at hl 0 rfl) ?_
  refine lv_aload_n hx hb (show decode prog_4_method_1_code 13 = .ok (.aload_n 1, 1) by decide +kernel) rfl (lv_at hl 1 rfl) ?_
  refine va_putF hx hb hz zi_2 tyX2 tyX2_ok nmX2 hown hK hP hD hS 0 rfl rfl 0 (by decide) (hz (.fieldLink RX2 15 (TX2 0).1 (TX2 0).2.1 (TX2 0).2.2.1) (zw1 216 rfl rfl)) (fun x h => h) rfl hin rfl (tyX2_ok 0 (by decide)) rfl rfl (Nat.le_of_ble_eq_true rfl) (show decode prog_4_method_1_code 14 = .ok (.putfield 15, 3) by decide +kernel) (fun H locs hP hD hS => ?_)
  have hP : va_P D vwCl [(h0, .inr (2, [.ref r1, .ref q1])), (q1, .inl (cA .int, 49, .inl (fun _ => 0)))] H := hP
  have hD : va_D A [(h0, .inr (2, [.ref r1, .ref q1])), (q1, .inl (cA .int, 49, .inl (fun _ => 0)))] := hD
  exact W.vret hx hb hr (fun t ht hW => ⟨⟨fun k => ([q1] : List Nat).getD k 0, rfl, trivial, by rw [ht]; exact hP, va_K.moved hW.alike hK, hD⟩, hS.F ht⟩) hS.2.2 (show decode prog_4_method_1_code 17 = .ok (.return_, 1) by decide +kernel)
theorem zgd_zcX2 : GoodIn zgood (.code yX2_init prog_4_method_1_code 2 none :: zgood) := zGoodIn fun w hw => by
  rcases List.mem_cons.mp hw with rfl | h
  · exact (zw1 214 rfl rfl)
  · exact h
set_option maxHeartbeats 4000000 in
set_option maxRecDepth 100000 in
theorem zcX3 (l : Launch) (D : va_G) (cA : FieldType → ClassId) (h0 sz : Nat) : Met l yX3_init (.code yX3_init prog_5_method_1_code 1 none :: zgood) ({ frames := 1, cells := 2, slots := 203, locals := 24 }) (va_Pc [.ref h0] (fun U => U.heap.size = sz ∧ va_P D vwCl [(h0, .inr (3, [.null, .int 0, .null]))] U.heap ∧ va_K D vwCl [(cA .int, .int), (cA .char, .char)] U ∧ va_D (fun _ => True) [(h0, .inr (3, [.null, .int 0, .null]))])) (va_Qv (fun _ : Nat → Nat => True) (fun u t => va_P D vwCl [(h0, .inr (3, [.ref (u 0), .int 0, .ref (u 1)])), ((u 0), .inl (cA .char, 200, .inl (fun _ => 0))), ((u 1), .inl (cA .int, 3, .inl (fun _ => 0)))] t.heap ∧ va_K D vwCl [(cA .int, .int), (cA .char, .char)] t ∧ va_D (va_A [(h0, .inr (3, [.null, .int 0, .null]))] sz) [(h0, .inr (3, [.ref (u 0), .int 0, .ref (u 1)])), ((u 0), .inl (cA .char, 200, .inl (fun _ => 0))), ((u 1), .inl (cA .int, 3, .inl (fun _ => 0)))]) (va_A [(h0, .inr (3, [.null, .int 0, .null]))] sz)) 2 203 (va_A [(h0, .inr (3, [.null, .int 0, .null]))] sz) := by
  refine Met.ofW (cc := prog_5_method_1_code) (maxL := 1) (ret := none) (by decide) rfl ?_
  intro p e s m args below meth c s₁ B hml hv
  obtain ⟨rfl, hsz, hP, hK, hD0⟩ := hv
  have hx := B.exec
  have hb := B.bytes
  have hr := B.returns
  have hts := atoms_spec (ws := .code yX3_init prog_5_method_1_code 1 none :: zgood) B.pre
  have hz : ∀ w ∈ zgood, w.before _ s = true := fun w h => hts w (List.mem_cons_of_mem _ h)
  have hown : s.vm.findClass RX3 = some m.cls := findClass_of_methodNamed B.named
  have hlocks := B.notSynchronized
  have hin : meth.name = "<init>" := (name_of_methodNamed B.named B.method).1
  subst hsz
  have hD := hD0.self (sz := s.heap.size)
  generalize hAe : va_A [(h0, .inr (3, [.null, .int 0, .null]))] s.heap.size = A at hD ⊢
  have hA : ∀ q : Nat, s.heap.size ≤ q → A q := fun q h => by rw [← hAe]; exact Or.inr h
  have hS : va_S A s.heap s.heap [] := va_S.rf
  have hl := lv_entry ([.ref h0]) (n := 1) (Nat.le_of_ble_eq_true rfl)
  rw [lg_entry_eq]
  generalize (lg_sl ([.ref h0]) ++ List.replicate (1 - (lg_sl ([.ref h0])).length) Slot.unset).toArray = ls at hl ⊢
  have hl : lv_has ls 1 [(0, .ref h0)] := hl
  refine lv_aload_n hx hb (show decode prog_5_method_1_code 0 = .ok (.aload_n 0, 1) by decide +kernel) rfl (lv_at hl 0 rfl) ?_
  refine W.objInit hx hb hown (hz (.methodLink RX3 3 Lib.objectInit) (zw1 116 rfl rfl)) (hz (.instanceMethod Lib.objectInit) (zw1 26 rfl rfl)) (hz (.code Lib.objectInit ⟨#[0xb1]⟩ 1 none) (zw1 27 rfl rfl)) rfl (by rw [hml]; exact hl.1) rfl (show decode prog_5_method_1_code 1 = .ok (.invokespecial 3, 3) by decide +kernel) (Nat.le_of_ble_eq_true rfl) (Nat.le_of_ble_eq_true rfl) ?_
  refine W.eq (g2 := F0 m 4 ls []) rfl ?_
  refine lv_aload_n hx hb (show decode prog_5_method_1_code 4 = .ok (.aload_n 0, 1) by decide +kernel) rfl (lv_at hl 0 rfl) ?_
  refine lv_sipush (v := 200) hx hb (show decode prog_5_method_1_code 5 = .ok (.sipush 200, 3) by decide +kernel) (by decide) ?_
  refine zna (N' := 200) hx hb (hz (.arrayClass .char) (zw1 128 rfl rfl)) (show newarray.typeOf .char = .char from rfl) (by decide) hK hP hD hS hA (by decide) (by decide) (Nat.le_of_ble_eq_true rfl) (Nat.le_of_ble_eq_true rfl) (Nat.le_of_ble_eq_true rfl) (show decode prog_5_method_1_code 8 = .ok (.newarray .char, 2) by decide +kernel) (fun q1 H hP hD hS => ?_)
  have hP : va_P D vwCl [(h0, .inr (3, [.null, .int 0, .null])), (q1, .inl (cA .char, 200, .inl (fun _ => 0)))] H := hP
  have hD : va_D A [(h0, .inr (3, [.null, .int 0, .null])), (q1, .inl (cA .char, 200, .inl (fun _ => 0)))] := hD
  refine W.widen (k := 1) (n := 200) (Nat.le_of_ble_eq_true rfl) (Nat.le_of_ble_eq_true rfl) ?_
  refine va_putF hx hb hz zi_3 tyX3 tyX3_ok nmX3 hown hK hP hD hS 0 rfl rfl 0 (by decide) (hz (.fieldLink RX3 9 (TX3 0).1 (TX3 0).2.1 (TX3 0).2.2.1) (zw1 117 rfl rfl)) (fun x h => h) rfl hin rfl (tyX3_ok 0 (by decide)) rfl rfl (Nat.le_of_ble_eq_true rfl) (show decode prog_5_method_1_code 10 = .ok (.putfield 9, 3) by decide +kernel) (fun H locs hP hD hS => ?_)
  have hP : va_P D vwCl [(h0, .inr (3, [.ref q1, .int 0, .null])), (q1, .inl (cA .char, 200, .inl (fun _ => 0)))] H := hP
  have hD : va_D A [(h0, .inr (3, [.ref q1, .int 0, .null])), (q1, .inl (cA .char, 200, .inl (fun _ => 0)))] := hD
  refine lv_aload_n hx hb (show decode prog_5_method_1_code 13 = .ok (.aload_n 0, 1) by decide +kernel) rfl (lv_at hl 0 rfl) ?_
  refine lv_iconst (v := 0) hx hb (show decode prog_5_method_1_code 14 = .ok (.iconst 0, 1) by decide +kernel) (by decide) ?_
  refine va_put hx hb hz zi_3 tyX3 tyX3_ok nmX3 hown hK hP hD hS 0 rfl rfl 1 (by decide) (hz (.fieldLink RX3 15 (TX3 1).1 (TX3 1).2.1 (TX3 1).2.2.1) (zw1 118 rfl rfl)) (fun x h => h) rfl (tyX3_ok 1 (by decide)) rfl rfl (Nat.le_of_ble_eq_true rfl) (show decode prog_5_method_1_code 15 = .ok (.putfield 15, 3) by decide +kernel) (fun H locs hP hD hS => ?_)
  have hP : va_P D vwCl [(h0, .inr (3, [.ref q1, .int 0, .null])), (q1, .inl (cA .char, 200, .inl (fun _ => 0)))] H := hP
  have hD : va_D A [(h0, .inr (3, [.ref q1, .int 0, .null])), (q1, .inl (cA .char, 200, .inl (fun _ => 0)))] := hD
  refine lv_aload_n hx hb (show decode prog_5_method_1_code 18 = .ok (.aload_n 0, 1) by decide +kernel) rfl (lv_at hl 0 rfl) ?_
  refine lv_iconst (v := 3) hx hb (show decode prog_5_method_1_code 19 = .ok (.iconst 3, 1) by decide +kernel) (by decide) ?_
  refine zna (N' := 3) hx hb (hz (.arrayClass .int) (zw1 110 rfl rfl)) (show newarray.typeOf .int = .int from rfl) (by decide) hK hP hD hS hA (by decide) (by decide) (Nat.le_of_ble_eq_true rfl) (Nat.le_of_ble_eq_true rfl) (Nat.le_of_ble_eq_true rfl) (show decode prog_5_method_1_code 20 = .ok (.newarray .int, 2) by decide +kernel) (fun q2 H hP hD hS => ?_)
  have hP : va_P D vwCl [(h0, .inr (3, [.ref q1, .int 0, .null])), (q1, .inl (cA .char, 200, .inl (fun _ => 0))), (q2, .inl (cA .int, 3, .inl (fun _ => 0)))] H := hP
  have hD : va_D A [(h0, .inr (3, [.ref q1, .int 0, .null])), (q1, .inl (cA .char, 200, .inl (fun _ => 0))), (q2, .inl (cA .int, 3, .inl (fun _ => 0)))] := hD
  refine W.widen (k := 2) (n := 203) (Nat.le_of_ble_eq_true rfl) (Nat.le_of_ble_eq_true rfl) ?_
  refine va_putF hx hb hz zi_3 tyX3 tyX3_ok nmX3 hown hK hP hD hS 0 rfl rfl 2 (by decide) (hz (.fieldLink RX3 19 (TX3 2).1 (TX3 2).2.1 (TX3 2).2.2.1) (zw1 120 rfl rfl)) (fun x h => h) rfl hin rfl (tyX3_ok 2 (by decide)) rfl rfl (Nat.le_of_ble_eq_true rfl) (show decode prog_5_method_1_code 22 = .ok (.putfield 19, 3) by decide +kernel) (fun H locs hP hD hS => ?_)
  have hP : va_P D vwCl [(h0, .inr (3, [.ref q1, .int 0, .ref q2])), (q1, .inl (cA .char, 200, .inl (fun _ => 0))), (q2, .inl (cA .int, 3, .inl (fun _ => 0)))] H := hP
  have hD : va_D A [(h0, .inr (3, [.ref q1, .int 0, .ref q2])), (q1, .inl (cA .char, 200, .inl (fun _ => 0))), (q2, .inl (cA .int, 3, .inl (fun _ => 0)))] := hD
  exact W.vret hx hb hr (fun t ht hW => ⟨⟨fun k => ([q1, q2] : List Nat).getD k 0, rfl, trivial, by rw [ht]; exact hP, va_K.moved hW.alike hK, hD⟩, hS.F ht⟩) hS.2.2 (show decode prog_5_method_1_code 25 = .ok (.return_, 1) by decide +kernel)
theorem zgd_zcX3 : GoodIn zgood (.code yX3_init prog_5_method_1_code 1 none :: zgood) := zGoodIn fun w hw => by
  rcases List.mem_cons.mp hw with rfl | h
  · exact (zw1 115 rfl rfl)
  · exact h
set_option maxHeartbeats 4000000 in
set_option maxRecDepth 100000 in
theorem zcX4 (l : Launch) (D : va_G) (cA : FieldType → ClassId) (h0 r1 r2 sz : Nat) : Met l yX4_init (.code yX4_init prog_6_method_1_code 3 none :: zgood) ({ frames := 1, cells := 1, slots := 24100, locals := 24 }) (va_Pc [.ref h0, .ref r1, .ref r2] (fun U => U.heap.size = sz ∧ va_P D vwCl [(h0, .inr (4, [.null, .null, .null]))] U.heap ∧ va_K D vwCl [(cA .int, .int), (cA .char, .char)] U ∧ va_D (fun _ => True) [(h0, .inr (4, [.null, .null, .null]))])) (va_Qv (fun _ : Nat → Nat => True) (fun u t => va_P D vwCl [(h0, .inr (4, [.ref r1, .ref r2, .ref (u 0)])), ((u 0), .inl (cA .int, 24100, .inl (fun _ => 0)))] t.heap ∧ va_K D vwCl [(cA .int, .int), (cA .char, .char)] t ∧ va_D (va_A [(h0, .inr (4, [.null, .null, .null]))] sz) [(h0, .inr (4, [.ref r1, .ref r2, .ref (u 0)])), ((u 0), .inl (cA .int, 24100, .inl (fun _ => 0)))]) (va_A [(h0, .inr (4, [.null, .null, .null]))] sz)) 1 24100 (va_A [(h0, .inr (4, [.null, .null, .null]))] sz) := by
  refine Met.ofW (cc := prog_6_method_1_code) (maxL := 3) (ret := none) (by decide) rfl ?_
  intro p e s m args below meth c s₁ B hml hv
  obtain ⟨rfl, hsz, hP, hK, hD0⟩ := hv
  have hx := B.exec
  have hb := B.bytes
  have hr := B.returns
  have hts := atoms_spec (ws := .code yX4_init prog_6_method_1_code 3 none :: zgood) B.pre
  have hz : ∀ w ∈ zgood, w.before _ s = true := fun w h => hts w (List.mem_cons_of_mem _ h)
  have hown : s.vm.findClass RX4 = some m.cls := findClass_of_methodNamed B.named
  have hlocks := B.notSynchronized
  have hin : meth.name = "<init>" := (name_of_methodNamed B.named B.method).1
  subst hsz
  have hD := hD0.self (sz := s.heap.size)
  generalize hAe : va_A [(h0, .inr (4, [.null, .null, .null]))] s.heap.size = A at hD ⊢
  have hA : ∀ q : Nat, s.heap.size ≤ q → A q := fun q h => by rw [← hAe]; exact Or.inr h
  have hS : va_S A s.heap s.heap [] := va_S.rf
  have hl := lv_entry ([.ref h0, .ref r1, .ref r2]) (n := 3) (Nat.le_of_ble_eq_true rfl)
  rw [lg_entry_eq]
  generalize (lg_sl ([.ref h0, .ref r1, .ref r2]) ++ List.replicate (3 - (lg_sl ([.ref h0, .ref r1, .ref r2])).length) Slot.unset).toArray = ls at hl ⊢
  have hl : lv_has ls 3 [(0, .ref h0), (1, .ref r1), (2, .ref r2)] := hl
  refine lv_aload_n hx hb (show decode prog_6_method_1_code 0 = .ok (.aload_n 0, 1) by decide +kernel) rfl (lv_at hl 0 rfl) ?_
  refine W.objInit hx hb hown (hz (.methodLink RX4 3 Lib.objectInit) (zw1 176 rfl rfl)) (hz (.instanceMethod Lib.objectInit) (zw1 26 rfl rfl)) (hz (.code Lib.objectInit ⟨#[0xb1]⟩ 1 none) (zw1 27 rfl rfl)) rfl (by rw [hml]; exact hl.1) rfl (show decode prog_6_method_1_code 1 = .ok (.invokespecial 3, 3) by decide +kernel) (Nat.le_of_ble_eq_true rfl) (Nat.le_of_ble_eq_true rfl) ?_
  refine W.eq (g2 := F0 m 4 ls []) rfl ?_
  refine lv_aload_n hx hb (show decode prog_6_method_1_code 4 = .ok (.aload_n 0, 1) by decide +kernel) rfl (lv_at hl 0 rfl) ?_
  refine lv_sipush (v := 24100) hx hb (show decode prog_6_method_1_code 5 = .ok (.sipush 24100, 3) by decide +kernel) (by decide) ?_
  refine zna (N' := 24100) hx hb (hz (.arrayClass .int) (zw1 110 rfl rfl)) (show newarray.typeOf .int = .int from rfl) (by decide) hK hP hD hS hA (by decide) (by decide) (Nat.le_of_ble_eq_true rfl) (Nat.le_of_ble_eq_true rfl) (Nat.le_of_ble_eq_true rfl) (show decode prog_6_method_1_code 8 = .ok (.newarray .int, 2) by decide +kernel) (fun q1 H hP hD hS => ?_)
  have hP : va_P D vwCl [(h0, .inr (4, [.null, .null, .null])), (q1, .inl (cA .int, 24100, .inl (fun _ => 0)))] H := hP
  have hD : va_D A [(h0, .inr (4, [.null, .null, .null])), (q1, .inl (cA .int, 24100, .inl (fun _ => 0)))] := hD
  refine W.widen (k := 1) (n := 24100) (Nat.le_of_ble_eq_true rfl) (Nat.le_of_ble_eq_true rfl) ?_
  refine va_putF hx hb hz zi_4 tyX4 tyX4_ok nmX4 hown hK hP hD hS 0 rfl rfl 2 (by decide) (hz (.fieldLink RX4 11 (TX4 2).1 (TX4 2).2.1 (TX4 2).2.2.1) (zw1 179 rfl rfl)) (fun x h => h) rfl hin rfl (tyX4_ok 2 (by decide)) rfl rfl (Nat.le_of_ble_eq_true rfl) (show decode prog_6_method_1_code 10 = .ok (.putfield 11, 3) by decide +kernel) (fun H locs hP hD hS => ?_)
  have hP : va_P D vwCl [(h0, .inr (4, [.null, .null, .ref q1])), (q1, .inl (cA .int, 24100, .inl (fun _ => 0)))] H := hP
  have hD : va_D A [(h0, .inr (4, [.null, .null, .ref q1])), (q1, .inl (cA .int, 24100, .inl (fun _ => 0)))] := hD
  refine lv_aload_n hx hb (show decode prog_6_method_1_code 13 = .ok (.aload_n 0, 1) by decide +kernel) rfl (lv_at hl 0 rfl) ?_
  refine lv_aload_n hx hb (show decode prog_6_method_1_code 14 = .ok (.aload_n 1, 1) by decide +kernel) rfl (lv_at hl 1 rfl) ?_
  refine va_putF hx hb hz zi_4 tyX4 tyX4_ok nmX4 hown hK hP hD hS 0 rfl rfl 0 (by decide) (hz (.fieldLink RX4 15 (TX4 0).1 (TX4 0).2.1 (TX4 0).2.2.1) (zw1 177 rfl rfl)) (fun x h => h) rfl hin rfl (tyX4_ok 0 (by decide)) rfl rfl (Nat.le_of_ble_eq_true rfl) (show decode prog_6_method_1_code 15 = .ok (.putfield 15, 3) by decide +kernel) (fun H locs hP hD hS => ?_)
  have hP : va_P D vwCl [(h0, .inr (4, [.ref r1, .null, .ref q1])), (q1, .inl (cA .int, 24100, .inl (fun _ => 0)))] H := hP
  have hD : va_D A [(h0, .inr (4, [.ref r1, .null, .ref q1])), (q1, .inl (cA .int, 24100, .inl (fun _ => 0)))] := hD
  refine lv_aload_n hx hb (show decode prog_6_method_1_code 18 = .ok (.aload_n 0, 1) by decide +kernel) rfl (lv_at hl 0 rfl) ?_
  refine lv_aload_n hx hb (show decode prog_6_method_1_code 19 = .ok (.aload_n 2, 1) by decide +kernel) rfl (lv_at hl 2 rfl) ?_
  refine va_putF hx hb hz zi_4 tyX4 tyX4_ok nmX4 hown hK hP hD hS 0 rfl rfl 1 (by decide) (hz (.fieldLink RX4 19 (TX4 1).1 (TX4 1).2.1 (TX4 1).2.2.1) (zw1 178 rfl rfl)) (fun x h => h) rfl hin rfl (tyX4_ok 1 (by decide)) rfl rfl (Nat.le_of_ble_eq_true rfl) (show decode prog_6_method_1_code 20 = .ok (.putfield 19, 3) by decide +kernel) (fun H locs hP hD hS => ?_)
  have hP : va_P D vwCl [(h0, .inr (4, [.ref r1, .ref r2, .ref q1])), (q1, .inl (cA .int, 24100, .inl (fun _ => 0)))] H := hP
  have hD : va_D A [(h0, .inr (4, [.ref r1, .ref r2, .ref q1])), (q1, .inl (cA .int, 24100, .inl (fun _ => 0)))] := hD
  exact W.vret hx hb hr (fun t ht hW => ⟨⟨fun k => ([q1] : List Nat).getD k 0, rfl, trivial, by rw [ht]; exact hP, va_K.moved hW.alike hK, hD⟩, hS.F ht⟩) hS.2.2 (show decode prog_6_method_1_code 23 = .ok (.return_, 1) by decide +kernel)
theorem zgd_zcX4 : GoodIn zgood (.code yX4_init prog_6_method_1_code 3 none :: zgood) := zGoodIn fun w hw => by
  rcases List.mem_cons.mp hw with rfl | h
  · exact (zw1 175 rfl rfl)
  · exact h
set_option maxHeartbeats 4000000 in
set_option maxRecDepth 100000 in
theorem zcX5 (l : Launch) (D : va_G) (cA : FieldType → ClassId) (h0 r1 sz : Nat) : Met l yX5_init (.code yX5_init prog_7_method_1_code 2 none :: zgood) ({ frames := 1, cells := 2, slots := 6, locals := 24 }) (va_Pc [.ref h0, .ref r1] (fun U => U.heap.size = sz ∧ va_P D vwCl [(h0, .inr (5, [.null, .null, .null]))] U.heap ∧ va_K D vwCl [(cA .int, .int), (cA .char, .char)] U ∧ va_D (fun _ => True) [(h0, .inr (5, [.null, .null, .null]))])) (va_Qv (fun _ : Nat → Nat => True) (fun u t => va_P D vwCl [(h0, .inr (5, [.ref r1, .ref (u 0), .ref (u 1)])), ((u 0), .inl (cA .int, 3, .inl (fun _ => 0))), ((u 1), .inl (cA .int, 3, .inl (fun _ => 0)))] t.heap ∧ va_K D vwCl [(cA .int, .int), (cA .char, .char)] t ∧ va_D (va_A [(h0, .inr (5, [.null, .null, .null]))] sz) [(h0, .inr (5, [.ref r1, .ref (u 0), .ref (u 1)])), ((u 0), .inl (cA .int, 3, .inl (fun _ => 0))), ((u 1), .inl (cA .int, 3, .inl (fun _ => 0)))]) (va_A [(h0, .inr (5, [.null, .null, .null]))] sz)) 2 6 (va_A [(h0, .inr (5, [.null, .null, .null]))] sz) := by
  refine Met.ofW (cc := prog_7_method_1_code) (maxL := 2) (ret := none) (by decide) rfl ?_
  intro p e s m args below meth c s₁ B hml hv
  obtain ⟨rfl, hsz, hP, hK, hD0⟩ := hv
  have hx := B.exec
  have hb := B.bytes
  have hr := B.returns
  have hts := atoms_spec (ws := .code yX5_init prog_7_method_1_code 2 none :: zgood) B.pre
  have hz : ∀ w ∈ zgood, w.before _ s = true := fun w h => hts w (List.mem_cons_of_mem _ h)
  have hown : s.vm.findClass RX5 = some m.cls := findClass_of_methodNamed B.named
  have hlocks := B.notSynchronized
  have hin : meth.name = "<init>" := (name_of_methodNamed B.named B.method).1
  subst hsz
  have hD := hD0.self (sz := s.heap.size)
  generalize hAe : va_A [(h0, .inr (5, [.null, .null, .null]))] s.heap.size = A at hD ⊢
  have hA : ∀ q : Nat, s.heap.size ≤ q → A q := fun q h => by rw [← hAe]; exact Or.inr h
  have hS : va_S A s.heap s.heap [] := va_S.rf
  have hl := lv_entry ([.ref h0, .ref r1]) (n := 2) (Nat.le_of_ble_eq_true rfl)
  rw [lg_entry_eq]
  generalize (lg_sl ([.ref h0, .ref r1]) ++ List.replicate (2 - (lg_sl ([.ref h0, .ref r1])).length) Slot.unset).toArray = ls at hl ⊢
  have hl : lv_has ls 2 [(0, .ref h0), (1, .ref r1)] := hl
  refine lv_aload_n hx hb (show decode prog_7_method_1_code 0 = .ok (.aload_n 0, 1) by decide +kernel) rfl (lv_at hl 0 rfl) ?_
  refine W.objInit hx hb hown (hz (.methodLink RX5 3 Lib.objectInit) (zw1 134 rfl rfl)) (hz (.instanceMethod Lib.objectInit) (zw1 26 rfl rfl)) (hz (.code Lib.objectInit ⟨#[0xb1]⟩ 1 none) (zw1 27 rfl rfl)) rfl (by rw [hml]; exact hl.1) rfl (show decode prog_7_method_1_code 1 = .ok (.invokespecial 3, 3) by decide +kernel) (Nat.le_of_ble_eq_true rfl) (Nat.le_of_ble_eq_true rfl) ?_
  refine W.eq (g2 := F0 m 4 ls []) rfl ?_
  refine lv_aload_n hx hb (show decode prog_7_method_1_code 4 = .ok (.aload_n 0, 1) by decide +kernel) rfl (lv_at hl 0 rfl) ?_
  refine lv_iconst (v := 3) hx hb (show decode prog_7_method_1_code 5 = .ok (.iconst 3, 1) by decide +kernel) (by decide) ?_
  refine zna (N' := 3) hx hb (hz (.arrayClass .int) (zw1 110 rfl rfl)) (show newarray.typeOf .int = .int from rfl) (by decide) hK hP hD hS hA (by decide) (by decide) (Nat.le_of_ble_eq_true rfl) (Nat.le_of_ble_eq_true rfl) (Nat.le_of_ble_eq_true rfl) (show decode prog_7_method_1_code 6 = .ok (.newarray .int, 2) by decide +kernel) (fun q1 H hP hD hS => ?_)
  have hP : va_P D vwCl [(h0, .inr (5, [.null, .null, .null])), (q1, .inl (cA .int, 3, .inl (fun _ => 0)))] H := hP
  have hD : va_D A [(h0, .inr (5, [.null, .null, .null])), (q1, .inl (cA .int, 3, .inl (fun _ => 0)))] := hD
  refine W.widen (k := 1) (n := 3) (Nat.le_of_ble_eq_true rfl) (Nat.le_of_ble_eq_true rfl) ?_
  refine va_putF hx hb hz zi_5 tyX5 tyX5_ok nmX5 hown hK hP hD hS 0 rfl rfl 1 (by decide) (hz (.fieldLink RX5 9 (TX5 1).1 (TX5 1).2.1 (TX5 1).2.2.1) (zw1 136 rfl rfl)) (fun x h => h) rfl hin rfl (tyX5_ok 1 (by decide)) rfl rfl (Nat.le_of_ble_eq_true rfl) (show decode prog_7_method_1_code 8 = .ok (.putfield 9, 3) by decide +kernel) (fun H locs hP hD hS => ?_)
  have hP : va_P D vwCl [(h0, .inr (5, [.null, .ref q1, .null])), (q1, .inl (cA .int, 3, .inl (fun _ => 0)))] H := hP
  have hD : va_D A [(h0, .inr (5, [.null, .ref q1, .null])), (q1, .inl (cA .int, 3, .inl (fun _ => 0)))] := hD
  refine lv_aload_n hx hb (show decode prog_7_method_1_code 11 = .ok (.aload_n 0, 1) by decide +kernel) rfl (lv_at hl 0 rfl) ?_
  refine lv_iconst (v := 3) hx hb (show decode prog_7_method_1_code 12 = .ok (.iconst 3, 1) by decide +kernel) (by decide) ?_
  refine zna (N' := 3) hx hb (hz (.arrayClass .int) (zw1 110 rfl rfl)) (show newarray.typeOf .int = .int from rfl) (by decide) hK hP hD hS hA (by decide) (by decide) (Nat.le_of_ble_eq_true rfl) (Nat.le_of_ble_eq_true rfl) (Nat.le_of_ble_eq_true rfl) (show decode prog_7_method_1_code 13 = .ok (.newarray .int, 2) by decide +kernel) (fun q2 H hP hD hS => ?_)
  have hP : va_P D vwCl [(h0, .inr (5, [.null, .ref q1, .null])), (q1, .inl (cA .int, 3, .inl (fun _ => 0))), (q2, .inl (cA .int, 3, .inl (fun _ => 0)))] H := hP
  have hD : va_D A [(h0, .inr (5, [.null, .ref q1, .null])), (q1, .inl (cA .int, 3, .inl (fun _ => 0))), (q2, .inl (cA .int, 3, .inl (fun _ => 0)))] := hD
  refine W.widen (k := 2) (n := 6) (Nat.le_of_ble_eq_true rfl) (Nat.le_of_ble_eq_true rfl) ?_
  refine va_putF hx hb hz zi_5 tyX5 tyX5_ok nmX5 hown hK hP hD hS 0 rfl rfl 2 (by decide) (hz (.fieldLink RX5 15 (TX5 2).1 (TX5 2).2.1 (TX5 2).2.2.1) (zw1 139 rfl rfl)) (fun x h => h) rfl hin rfl (tyX5_ok 2 (by decide)) rfl rfl (Nat.le_of_ble_eq_true rfl) (show decode prog_7_method_1_code 15 = .ok (.putfield 15, 3) by decide +kernel) (fun H locs hP hD hS => ?_)
  have hP : va_P D vwCl [(h0, .inr (5, [.null, .ref q1, .ref q2])), (q1, .inl (cA .int, 3, .inl (fun _ => 0))), (q2, .inl (cA .int, 3, .inl (fun _ => 0)))] H := hP
  have hD : va_D A [(h0, .inr (5, [.null, .ref q1, .ref q2])), (q1, .inl (cA .int, 3, .inl (fun _ => 0))), (q2, .inl (cA .int, 3, .inl (fun _ => 0)))] := hD
  refine lv_aload_n hx hb (show decode prog_7_method_1_code 18 = .ok (.aload_n 0, 1) by decide +kernel) rfl (lv_at hl 0 rfl) ?_
  refine lv_aload_n hx hb (show decode prog_7_method_1_code 19 = .ok (.aload_n 1, 1) by decide +kernel) rfl (lv_at hl 1 rfl) ?_
  refine va_putF hx hb hz zi_5 tyX5 tyX5_ok nmX5 hown hK hP hD hS 0 rfl rfl 0 (by decide) (hz (.fieldLink RX5 18 (TX5 0).1 (TX5 0).2.1 (TX5 0).2.2.1) (zw1 135 rfl rfl)) (fun x h => h) rfl hin rfl (tyX5_ok 0 (by decide)) rfl rfl (Nat.le_of_ble_eq_true rfl) (show decode prog_7_method_1_code 20 = .ok (.putfield 18, 3) by decide +kernel) (fun H locs hP hD hS => ?_)
  have hP : va_P D vwCl [(h0, .inr (5, [.ref r1, .ref q1, .ref q2])), (q1, .inl (cA .int, 3, .inl (fun _ => 0))), (q2, .inl (cA .int, 3, .inl (fun _ => 0)))] H := hP
  have hD : va_D A [(h0, .inr (5, [.ref r1, .ref q1, .ref q2])), (q1, .inl (cA .int, 3, .inl (fun _ => 0))), (q2, .inl (cA .int, 3, .inl (fun _ => 0)))] := hD
  exact W.vret hx hb hr (fun t ht hW => ⟨⟨fun k => ([q1, q2] : List Nat).getD k 0, rfl, trivial, by rw [ht]; exact hP, va_K.moved hW.alike hK, hD⟩, hS.F ht⟩) hS.2.2 (show decode prog_7_method_1_code 23 = .ok (.return_, 1) by decide +kernel)
theorem zgd_zcX5 : GoodIn zgood (.code yX5_init prog_7_method_1_code 2 none :: zgood) := zGoodIn fun w hw => by
  rcases List.mem_cons.mp hw with rfl | h
  · exact (zw1 133 rfl rfl)
  · exact h
set_option maxHeartbeats 4000000 in
set_option maxRecDepth 100000 in
theorem zcX6 (l : Launch) (D : va_G) (cA : FieldType → ClassId) (h0 sz : Nat) : Met l yX6_init (.code yX6_init prog_8_method_1_code 1 none :: zgood) ({ frames := 1, cells := 10, slots := 105, locals := 24 }) (va_Pc [.ref h0] (fun U => U.heap.size = sz ∧ va_P D vwCl [(h0, .inr (6, [.null, .null, .int 0, .null, .null, .null, .int 0, .null, .null, .int 0, .null, .null, .null, .int 0, .int 0]))] U.heap ∧ va_K D vwCl [(cA .int, .int), (cA .char, .char)] U ∧ va_D (fun _ => True) [(h0, .inr (6, [.null, .null, .int 0, .null, .null, .null, .int 0, .null, .null, .int 0, .null, .null, .null, .int 0, .int 0]))])) (va_Qv (fun _ : Nat → Nat => True) (fun u t => va_P D vwCl [(h0, .inr (6, [.ref (u 0), .ref (u 1), .int 0, .ref (u 2), .ref (u 3), .ref (u 4), .int 0, .ref (u 5), .ref (u 6), .int 0, .ref (u 7), .ref (u 8), .ref (u 9), .int 0, .int 0])), ((u 0), .inl (cA .int, 12, .inl (fun _ => 0))), ((u 1), .inl (cA .int, 12, .inl (fun _ => 0))), ((u 2), .inl (cA .int, 12, .inl (fun _ => 0))), ((u 3), .inl (cA .int, 4, .inl (fun _ => 0))), ((u 4), .inl (cA .int, 4, .inl (fun _ => 0))), ((u 5), .inl (cA .int, 24, .inl (fun _ => 0))), ((u 6), .inl (cA .int, 7, .inl (fun _ => 0))), ((u 7), .inl (cA .int, 10, .inl (fun _ => 0))), ((u 8), .inl (cA .int, 10, .inl (fun _ => 0))), ((u 9), .inl (cA .int, 10, .inl (fun _ => 0)))] t.heap ∧ va_K D vwCl [(cA .int, .int), (cA .char, .char)] t ∧ va_D (va_A [(h0, .inr (6, [.null, .null, .int 0, .null, .null, .null, .int 0, .null, .null, .int 0, .null, .null, .null, .int 0, .int 0]))] sz) [(h0, .inr (6, [.ref (u 0), .ref (u 1), .int 0, .ref (u 2), .ref (u 3), .ref (u 4), .int 0, .ref (u 5), .ref (u 6), .int 0, .ref (u 7), .ref (u 8), .ref (u 9), .int 0, .int 0])), ((u 0), .inl (cA .int, 12, .inl (fun _ => 0))), ((u 1), .inl (cA .int, 12, .inl (fun _ => 0))), ((u 2), .inl (cA .int, 12, .inl (fun _ => 0))), ((u 3), .inl (cA .int, 4, .inl (fun _ => 0))), ((u 4), .inl (cA .int, 4, .inl (fun _ => 0))), ((u 5), .inl (cA .int, 24, .inl (fun _ => 0))), ((u 6), .inl (cA .int, 7, .inl (fun _ => 0))), ((u 7), .inl (cA .int, 10, .inl (fun _ => 0))), ((u 8), .inl (cA .int, 10, .inl (fun _ => 0))), ((u 9), .inl (cA .int, 10, .inl (fun _ => 0)))]) (va_A [(h0, .inr (6, [.null, .null, .int 0, .null, .null, .null, .int 0, .null, .null, .int 0, .null, .null, .null, .int 0, .int 0]))] sz)) 10 105 (va_A [(h0, .inr (6, [.null, .null, .int 0, .null, .null, .null, .int 0, .null, .null, .int 0, .null, .null, .null, .int 0, .int 0]))] sz) := by
  refine Met.ofW (cc := prog_8_method_1_code) (maxL := 1) (ret := none) (by decide) rfl ?_
  intro p e s m args below meth c s₁ B hml hv
  obtain ⟨rfl, hsz, hP, hK, hD0⟩ := hv
  have hx := B.exec
  have hb := B.bytes
  have hr := B.returns
  have hts := atoms_spec (ws := .code yX6_init prog_8_method_1_code 1 none :: zgood) B.pre
  have hz : ∀ w ∈ zgood, w.before _ s = true := fun w h => hts w (List.mem_cons_of_mem _ h)
  have hown : s.vm.findClass RX6 = some m.cls := findClass_of_methodNamed B.named
  have hlocks := B.notSynchronized
  have hin : meth.name = "<init>" := (name_of_methodNamed B.named B.method).1
  subst hsz
  have hD := hD0.self (sz := s.heap.size)
  generalize hAe : va_A [(h0, .inr (6, [.null, .null, .int 0, .null, .null, .null, .int 0, .null, .null, .int 0, .null, .null, .null, .int 0, .int 0]))] s.heap.size = A at hD ⊢
  have hA : ∀ q : Nat, s.heap.size ≤ q → A q := fun q h => by rw [← hAe]; exact Or.inr h
  have hS : va_S A s.heap s.heap [] := va_S.rf
  have hl := lv_entry ([.ref h0]) (n := 1) (Nat.le_of_ble_eq_true rfl)
  rw [lg_entry_eq]
  generalize (lg_sl ([.ref h0]) ++ List.replicate (1 - (lg_sl ([.ref h0])).length) Slot.unset).toArray = ls at hl ⊢
  have hl : lv_has ls 1 [(0, .ref h0)] := hl
  refine lv_aload_n hx hb (show decode prog_8_method_1_code 0 = .ok (.aload_n 0, 1) by decide +kernel) rfl (lv_at hl 0 rfl) ?_
  refine W.objInit hx hb hown (hz (.methodLink RX6 3 Lib.objectInit) (zw1 33 rfl rfl)) (hz (.instanceMethod Lib.objectInit) (zw1 26 rfl rfl)) (hz (.code Lib.objectInit ⟨#[0xb1]⟩ 1 none) (zw1 27 rfl rfl)) rfl (by rw [hml]; exact hl.1) rfl (show decode prog_8_method_1_code 1 = .ok (.invokespecial 3, 3) by decide +kernel) (Nat.le_of_ble_eq_true rfl) (Nat.le_of_ble_eq_true rfl) ?_
  refine W.eq (g2 := F0 m 4 ls []) rfl ?_
  refine lv_aload_n hx hb (show decode prog_8_method_1_code 4 = .ok (.aload_n 0, 1) by decide +kernel) rfl (lv_at hl 0 rfl) ?_
  refine lv_bipush (v := 12) hx hb (show decode prog_8_method_1_code 5 = .ok (.bipush 12, 2) by decide +kernel) (by decide) ?_
  refine zna (N' := 12) hx hb (hz (.arrayClass .int) (zw1 110 rfl rfl)) (show newarray.typeOf .int = .int from rfl) (by decide) hK hP hD hS hA (by decide) (by decide) (Nat.le_of_ble_eq_true rfl) (Nat.le_of_ble_eq_true rfl) (Nat.le_of_ble_eq_true rfl) (show decode prog_8_method_1_code 7 = .ok (.newarray .int, 2) by decide +kernel) (fun q1 H hP hD hS => ?_)
  have hP : va_P D vwCl [(h0, .inr (6, [.null, .null, .int 0, .null, .null, .null, .int 0, .null, .null, .int 0, .null, .null, .null, .int 0, .int 0])), (q1, .inl (cA .int, 12, .inl (fun _ => 0)))] H := hP
  have hD : va_D A [(h0, .inr (6, [.null, .null, .int 0, .null, .null, .null, .int 0, .null, .null, .int 0, .null, .null, .null, .int 0, .int 0])), (q1, .inl (cA .int, 12, .inl (fun _ => 0)))] := hD
  refine W.widen (k := 1) (n := 12) (Nat.le_of_ble_eq_true rfl) (Nat.le_of_ble_eq_true rfl) ?_
  refine va_putF hx hb hz zi_6 tyX6 tyX6_ok nmX6 hown hK hP hD hS 0 rfl rfl 0 (by decide) (hz (.fieldLink RX6 9 (TX6 0).1 (TX6 0).2.1 (TX6 0).2.2.1) (zw1 34 rfl rfl)) (fun x h => h) rfl hin rfl (tyX6_ok 0 (by decide)) rfl rfl (Nat.le_of_ble_eq_true rfl) (show decode prog_8_method_1_code 9 = .ok (.putfield 9, 3) by decide +kernel) (fun H locs hP hD hS => ?_)
  have hP : va_P D vwCl [(h0, .inr (6, [.ref q1, .null, .int 0, .null, .null, .null, .int 0, .null, .null, .int 0, .null, .null, .null, .int 0, .int 0])), (q1, .inl (cA .int, 12, .inl (fun _ => 0)))] H := hP
  have hD : va_D A [(h0, .inr (6, [.ref q1, .null, .int 0, .null, .null, .null, .int 0, .null, .null, .int 0, .null, .null, .null, .int 0, .int 0])), (q1, .inl (cA .int, 12, .inl (fun _ => 0)))] := hD
  refine lv_aload_n hx hb (show decode prog_8_method_1_code 12 = .ok (.aload_n 0, 1) by decide +kernel) rfl (lv_at hl 0 rfl) ?_
  refine lv_bipush (v := 12) hx hb (show decode prog_8_method_1_code 13 = .ok (.bipush 12, 2) by decide +kernel) (by decide) ?_
  refine zna (N' := 12) hx hb (hz (.arrayClass .int) (zw1 110 rfl rfl)) (show newarray.typeOf .int = .int from rfl) (by decide) hK hP hD hS hA (by decide) (by decide) (Nat.le_of_ble_eq_true rfl) (Nat.le_of_ble_eq_true rfl) (Nat.le_of_ble_eq_true rfl) (show decode prog_8_method_1_code 15 = .ok (.newarray .int, 2) by decide +kernel) (fun q2 H hP hD hS => ?_)
  have hP : va_P D vwCl [(h0, .inr (6, [.ref q1, .null, .int 0, .null, .null, .null, .int 0, .null, .null, .int 0, .null, .null, .null, .int 0, .int 0])), (q1, .inl (cA .int, 12, .inl (fun _ => 0))), (q2, .inl (cA .int, 12, .inl (fun _ => 0)))] H := hP
  have hD : va_D A [(h0, .inr (6, [.ref q1, .null, .int 0, .null, .null, .null, .int 0, .null, .null, .int 0, .null, .null, .null, .int 0, .int 0])), (q1, .inl (cA .int, 12, .inl (fun _ => 0))), (q2, .inl (cA .int, 12, .inl (fun _ => 0)))] := hD
  refine W.widen (k := 2) (n := 24) (Nat.le_of_ble_eq_true rfl) (Nat.le_of_ble_eq_true rfl) ?_
  refine va_putF hx hb hz zi_6 tyX6 tyX6_ok nmX6 hown hK hP hD hS 0 rfl rfl 1 (by decide) (hz (.fieldLink RX6 15 (TX6 1).1 (TX6 1).2.1 (TX6 1).2.2.1) (zw1 38 rfl rfl)) (fun x h => h) rfl hin rfl (tyX6_ok 1 (by decide)) rfl rfl (Nat.le_of_ble_eq_true rfl) (show decode prog_8_method_1_code 17 = .ok (.putfield 15, 3) by decide +kernel) (fun H locs hP hD hS => ?_)
  have hP : va_P D vwCl [(h0, .inr (6, [.ref q1, .ref q2, .int 0, .null, .null, .null, .int 0, .null, .null, .int 0, .null, .null, .null, .int 0, .int 0])), (q1, .inl (cA .int, 12, .inl (fun _ => 0))), (q2, .inl (cA .int, 12, .inl (fun _ => 0)))] H := hP
  have hD : va_D A [(h0, .inr (6, [.ref q1, .ref q2, .int 0, .null, .null, .null, .int 0, .null, .null, .int 0, .null, .null, .null, .int 0, .int 0])), (q1, .inl (cA .int, 12, .inl (fun _ => 0))), (q2, .inl (cA .int, 12, .inl (fun _ => 0)))] := hD
  refine lv_aload_n hx hb (show decode prog_8_method_1_code 20 = .ok (.aload_n 0, 1) by decide +kernel) rfl (lv_at hl 0 rfl) ?_
  refine lv_iconst (v := 0) hx hb (show decode prog_8_method_1_code 21 = .ok (.iconst 0, 1) by decide +kernel) (by decide) ?_
  refine va_put hx hb hz zi_6 tyX6 tyX6_ok nmX6 hown hK hP hD hS 0 rfl rfl 2 (by decide) (hz (.fieldLink RX6 18 (TX6 2).1 (TX6 2).2.1 (TX6 2).2.2.1) (zw1 41 rfl rfl)) (fun x h => h) rfl (tyX6_ok 2 (by decide)) rfl rfl (Nat.le_of_ble_eq_true rfl) (show decode prog_8_method_1_code 22 = .ok (.putfield 18, 3) by decide +kernel) (fun H locs hP hD hS => ?_)
  have hP : va_P D vwCl [(h0, .inr (6, [.ref q1, .ref q2, .int 0, .null, .null, .null, .int 0, .null, .null, .int 0, .null, .null, .null, .int 0, .int 0])), (q1, .inl (cA .int, 12, .inl (fun _ => 0))), (q2, .inl (cA .int, 12, .inl (fun _ => 0)))] H := hP
  have hD : va_D A [(h0, .inr (6, [.ref q1, .ref q2, .int 0, .null, .null, .null, .int 0, .null, .null, .int 0, .null, .null, .null, .int 0, .int 0])), (q1, .inl (cA .int, 12, .inl (fun _ => 0))), (q2, .inl (cA .int, 12, .inl (fun _ => 0)))] := hD
  refine lv_aload_n hx hb (show decode prog_8_method_1_code 25 = .ok (.aload_n 0, 1) by decide +kernel) rfl (lv_at hl 0 rfl) ?_
  refine lv_bipush (v := 12) hx hb (show decode prog_8_method_1_code 26 = .ok (.bipush 12, 2) by decide +kernel) (by decide) ?_
  refine zna (N' := 12) hx hb (hz (.arrayClass .int) (zw1 110 rfl rfl)) (show newarray.typeOf .int = .int from rfl) (by decide) hK hP hD hS hA (by decide) (by decide) (Nat.le_of_ble_eq_true rfl) (Nat.le_of_ble_eq_true rfl) (Nat.le_of_ble_eq_true rfl) (show decode prog_8_method_1_code 28 = .ok (.newarray .int, 2) by decide +kernel) (fun q3 H hP hD hS => ?_)
  have hP : va_P D vwCl [(h0, .inr (6, [.ref q1, .ref q2, .int 0, .null, .null, .null, .int 0, .null, .null, .int 0, .null, .null, .null, .int 0, .int 0])), (q1, .inl (cA .int, 12, .inl (fun _ => 0))), (q2, .inl (cA .int, 12, .inl (fun _ => 0))), (q3, .inl (cA .int, 12, .inl (fun _ => 0)))] H := hP
  have hD : va_D A [(h0, .inr (6, [.ref q1, .ref q2, .int 0, .null, .null, .null, .int 0, .null, .null, .int 0, .null, .null, .null, .int 0, .int 0])), (q1, .inl (cA .int, 12, .inl (fun _ => 0))), (q2, .inl (cA .int, 12, .inl (fun _ => 0))), (q3, .inl (cA .int, 12, .inl (fun _ => 0)))] := hD
  refine W.widen (k := 3) (n := 36) (Nat.le_of_ble_eq_true rfl) (Nat.le_of_ble_eq_true rfl) ?_
  refine va_putF hx hb hz zi_6 tyX6 tyX6_ok nmX6 hown hK hP hD hS 0 rfl rfl 3 (by decide) (hz (.fieldLink RX6 22 (TX6 3).1 (TX6 3).2.1 (TX6 3).2.2.1) (zw1 47 rfl rfl)) (fun x h => h) rfl hin rfl (tyX6_ok 3 (by decide)) rfl rfl (Nat.le_of_ble_eq_true rfl) (show decode prog_8_method_1_code 30 = .ok (.putfield 22, 3) by decide +kernel) (fun H locs hP hD hS => ?_)
  have hP : va_P D vwCl [(h0, .inr (6, [.ref q1, .ref q2, .int 0, .ref q3, .null, .null, .int 0, .null, .null, .int 0, .null, .null, .null, .int 0, .int 0])), (q1, .inl (cA .int, 12, .inl (fun _ => 0))), (q2, .inl (cA .int, 12, .inl (fun _ => 0))), (q3, .inl (cA .int, 12, .inl (fun _ => 0)))] H := hP
  have hD : va_D A [(h0, .inr (6, [.ref q1, .ref q2, .int 0, .ref q3, .null, .null, .int 0, .null, .null, .int 0, .null, .null, .null, .int 0, .int 0])), (q1, .inl (cA .int, 12, .inl (fun _ => 0))), (q2, .inl (cA .int, 12, .inl (fun _ => 0))), (q3, .inl (cA .int, 12, .inl (fun _ => 0)))] := hD
  refine lv_aload_n hx hb (show decode prog_8_method_1_code 33 = .ok (.aload_n 0, 1) by decide +kernel) rfl (lv_at hl 0 rfl) ?_
  refine lv_iconst (v := 4) hx hb (show decode prog_8_method_1_code 34 = .ok (.iconst 4, 1) by decide +kernel) (by decide) ?_
  refine zna (N' := 4) hx hb (hz (.arrayClass .int) (zw1 110 rfl rfl)) (show newarray.typeOf .int = .int from rfl) (by decide) hK hP hD hS hA (by decide) (by decide) (Nat.le_of_ble_eq_true rfl) (Nat.le_of_ble_eq_true rfl) (Nat.le_of_ble_eq_true rfl) (show decode prog_8_method_1_code 35 = .ok (.newarray .int, 2) by decide +kernel) (fun q4 H hP hD hS => ?_)
  have hP : va_P D vwCl [(h0, .inr (6, [.ref q1, .ref q2, .int 0, .ref q3, .null, .null, .int 0, .null, .null, .int 0, .null, .null, .null, .int 0, .int 0])), (q1, .inl (cA .int, 12, .inl (fun _ => 0))), (q2, .inl (cA .int, 12, .inl (fun _ => 0))), (q3, .inl (cA .int, 12, .inl (fun _ => 0))), (q4, .inl (cA .int, 4, .inl (fun _ => 0)))] H := hP
  have hD : va_D A [(h0, .inr (6, [.ref q1, .ref q2, .int 0, .ref q3, .null, .null, .int 0, .null, .null, .int 0, .null, .null, .null, .int 0, .int 0])), (q1, .inl (cA .int, 12, .inl (fun _ => 0))), (q2, .inl (cA .int, 12, .inl (fun _ => 0))), (q3, .inl (cA .int, 12, .inl (fun _ => 0))), (q4, .inl (cA .int, 4, .inl (fun _ => 0)))] := hD
  refine W.widen (k := 4) (n := 40) (Nat.le_of_ble_eq_true rfl) (Nat.le_of_ble_eq_true rfl) ?_
  refine va_putF hx hb hz zi_6 tyX6 tyX6_ok nmX6 hown hK hP hD hS 0 rfl rfl 4 (by decide) (hz (.fieldLink RX6 25 (TX6 4).1 (TX6 4).2.1 (TX6 4).2.2.1) (zw1 49 rfl rfl)) (fun x h => h) rfl hin rfl (tyX6_ok 4 (by decide)) rfl rfl (Nat.le_of_ble_eq_true rfl) (show decode prog_8_method_1_code 37 = .ok (.putfield 25, 3) by decide +kernel) (fun H locs hP hD hS => ?_)
  have hP : va_P D vwCl [(h0, .inr (6, [.ref q1, .ref q2, .int 0, .ref q3, .ref q4, .null, .int 0, .null, .null, .int 0, .null, .null, .null, .int 0, .int 0])), (q1, .inl (cA .int, 12, .inl (fun _ => 0))), (q2, .inl (cA .int, 12, .inl (fun _ => 0))), (q3, .inl (cA .int, 12, .inl (fun _ => 0))), (q4, .inl (cA .int, 4, .inl (fun _ => 0)))] H := hP
  have hD : va_D A [(h0, .inr (6, [.ref q1, .ref q2, .int 0, .ref q3, .ref q4, .null, .int 0, .null, .null, .int 0, .null, .null, .null, .int 0, .int 0])), (q1, .inl (cA .int, 12, .inl (fun _ => 0))), (q2, .inl (cA .int, 12, .inl (fun _ => 0))), (q3, .inl (cA .int, 12, .inl (fun _ => 0))), (q4, .inl (cA .int, 4, .inl (fun _ => 0)))] := hD
  refine lv_aload_n hx hb (show decode prog_8_method_1_code 40 = .ok (.aload_n 0, 1) by decide +kernel) rfl (lv_at hl 0 rfl) ?_
  refine lv_iconst (v := 4) hx hb (show decode prog_8_method_1_code 41 = .ok (.iconst 4, 1) by decide +kernel) (by decide) ?_
  refine zna (N' := 4) hx hb (hz (.arrayClass .int) (zw1 110 rfl rfl)) (show newarray.typeOf .int = .int from rfl) (by decide) hK hP hD hS hA (by decide) (by decide) (Nat.le_of_ble_eq_true rfl) (Nat.le_of_ble_eq_true rfl) (Nat.le_of_ble_eq_true rfl) (show decode prog_8_method_1_code 42 = .ok (.newarray .int, 2) by decide +kernel) (fun q5 H hP hD hS => ?_)
  have hP : va_P D vwCl [(h0, .inr (6, [.ref q1, .ref q2, .int 0, .ref q3, .ref q4, .null, .int 0, .null, .null, .int 0, .null, .null, .null, .int 0, .int 0])), (q1, .inl (cA .int, 12, .inl (fun _ => 0))), (q2, .inl (cA .int, 12, .inl (fun _ => 0))), (q3, .inl (cA .int, 12, .inl (fun _ => 0))), (q4, .inl (cA .int, 4, .inl (fun _ => 0))), (q5, .inl (cA .int, 4, .inl (fun _ => 0)))] H := hP
  have hD : va_D A [(h0, .inr (6, [.ref q1, .ref q2, .int 0, .ref q3, .ref q4, .null, .int 0, .null, .null, .int 0, .null, .null, .null, .int 0, .int 0])), (q1, .inl (cA .int, 12, .inl (fun _ => 0))), (q2, .inl (cA .int, 12, .inl (fun _ => 0))), (q3, .inl (cA .int, 12, .inl (fun _ => 0))), (q4, .inl (cA .int, 4, .inl (fun _ => 0))), (q5, .inl (cA .int, 4, .inl (fun _ => 0)))] := hD
  refine W.widen (k := 5) (n := 44) (Nat.le_of_ble_eq_true rfl) (Nat.le_of_ble_eq_true rfl) ?_
  refine va_putF hx hb hz zi_6 tyX6 tyX6_ok nmX6 hown hK hP hD hS 0 rfl rfl 5 (by decide) (hz (.fieldLink RX6 28 (TX6 5).1 (TX6 5).2.1 (TX6 5).2.2.1) (zw1 52 rfl rfl)) (fun x h => h) rfl hin rfl (tyX6_ok 5 (by decide)) rfl rfl (Nat.le_of_ble_eq_true rfl) (show decode prog_8_method_1_code 44 = .ok (.putfield 28, 3) by decide +kernel) (fun H locs hP hD hS => ?_)
  have hP : va_P D vwCl [(h0, .inr (6, [.ref q1, .ref q2, .int 0, .ref q3, .ref q4, .ref q5, .int 0, .null, .null, .int 0, .null, .null, .null, .int 0, .int 0])), (q1, .inl (cA .int, 12, .inl (fun _ => 0))), (q2, .inl (cA .int, 12, .inl (fun _ => 0))), (q3, .inl (cA .int, 12, .inl (fun _ => 0))), (q4, .inl (cA .int, 4, .inl (fun _ => 0))), (q5, .inl (cA .int, 4, .inl (fun _ => 0)))] H := hP
  have hD : va_D A [(h0, .inr (6, [.ref q1, .ref q2, .int 0, .ref q3, .ref q4, .ref q5, .int 0, .null, .null, .int 0, .null, .null, .null, .int 0, .int 0])), (q1, .inl (cA .int, 12, .inl (fun _ => 0))), (q2, .inl (cA .int, 12, .inl (fun _ => 0))), (q3, .inl (cA .int, 12, .inl (fun _ => 0))), (q4, .inl (cA .int, 4, .inl (fun _ => 0))), (q5, .inl (cA .int, 4, .inl (fun _ => 0)))] := hD
  refine lv_aload_n hx hb (show decode prog_8_method_1_code 47 = .ok (.aload_n 0, 1) by decide +kernel) rfl (lv_at hl 0 rfl) ?_
  refine lv_iconst (v := 0) hx hb (show decode prog_8_method_1_code 48 = .ok (.iconst 0, 1) by decide +kernel) (by decide) ?_
  refine va_put hx hb hz zi_6 tyX6 tyX6_ok nmX6 hown hK hP hD hS 0 rfl rfl 6 (by decide) (hz (.fieldLink RX6 31 (TX6 6).1 (TX6 6).2.1 (TX6 6).2.2.1) (zw1 55 rfl rfl)) (fun x h => h) rfl (tyX6_ok 6 (by decide)) rfl rfl (Nat.le_of_ble_eq_true rfl) (show decode prog_8_method_1_code 49 = .ok (.putfield 31, 3) by decide +kernel) (fun H locs hP hD hS => ?_)
  have hP : va_P D vwCl [(h0, .inr (6, [.ref q1, .ref q2, .int 0, .ref q3, .ref q4, .ref q5, .int 0, .null, .null, .int 0, .null, .null, .null, .int 0, .int 0])), (q1, .inl (cA .int, 12, .inl (fun _ => 0))), (q2, .inl (cA .int, 12, .inl (fun _ => 0))), (q3, .inl (cA .int, 12, .inl (fun _ => 0))), (q4, .inl (cA .int, 4, .inl (fun _ => 0))), (q5, .inl (cA .int, 4, .inl (fun _ => 0)))] H := hP
  have hD : va_D A [(h0, .inr (6, [.ref q1, .ref q2, .int 0, .ref q3, .ref q4, .ref q5, .int 0, .null, .null, .int 0, .null, .null, .null, .int 0, .int 0])), (q1, .inl (cA .int, 12, .inl (fun _ => 0))), (q2, .inl (cA .int, 12, .inl (fun _ => 0))), (q3, .inl (cA .int, 12, .inl (fun _ => 0))), (q4, .inl (cA .int, 4, .inl (fun _ => 0))), (q5, .inl (cA .int, 4, .inl (fun _ => 0)))] := hD
  refine lv_aload_n hx hb (show decode prog_8_method_1_code 52 = .ok (.aload_n 0, 1) by decide +kernel) rfl (lv_at hl 0 rfl) ?_
  refine lv_bipush (v := 24) hx hb (show decode prog_8_method_1_code 53 = .ok (.bipush 24, 2) by decide +kernel) (by decide) ?_
  refine zna (N' := 24) hx hb (hz (.arrayClass .int) (zw1 110 rfl rfl)) (show newarray.typeOf .int = .int from rfl) (by decide) hK hP hD hS hA (by decide) (by decide) (Nat.le_of_ble_eq_true rfl) (Nat.le_of_ble_eq_true rfl) (Nat.le_of_ble_eq_true rfl) (show decode prog_8_method_1_code 55 = .ok (.newarray .int, 2) by decide +kernel) (fun q6 H hP hD hS => ?_)
  have hP : va_P D vwCl [(h0, .inr (6, [.ref q1, .ref q2, .int 0, .ref q3, .ref q4, .ref q5, .int 0, .null, .null, .int 0, .null, .null, .null, .int 0, .int 0])), (q1, .inl (cA .int, 12, .inl (fun _ => 0))), (q2, .inl (cA .int, 12, .inl (fun _ => 0))), (q3, .inl (cA .int, 12, .inl (fun _ => 0))), (q4, .inl (cA .int, 4, .inl (fun _ => 0))), (q5, .inl (cA .int, 4, .inl (fun _ => 0))), (q6, .inl (cA .int, 24, .inl (fun _ => 0)))] H := hP
  have hD : va_D A [(h0, .inr (6, [.ref q1, .ref q2, .int 0, .ref q3, .ref q4, .ref q5, .int 0, .null, .null, .int 0, .null, .null, .null, .int 0, .int 0])), (q1, .inl (cA .int, 12, .inl (fun _ => 0))), (q2, .inl (cA .int, 12, .inl (fun _ => 0))), (q3, .inl (cA .int, 12, .inl (fun _ => 0))), (q4, .inl (cA .int, 4, .inl (fun _ => 0))), (q5, .inl (cA .int, 4, .inl (fun _ => 0))), (q6, .inl (cA .int, 24, .inl (fun _ => 0)))] := hD
  refine W.widen (k := 6) (n := 68) (Nat.le_of_ble_eq_true rfl) (Nat.le_of_ble_eq_true rfl) ?_
  refine va_putF hx hb hz zi_6 tyX6 tyX6_ok nmX6 hown hK hP hD hS 0 rfl rfl 7 (by decide) (hz (.fieldLink RX6 34 (TX6 7).1 (TX6 7).2.1 (TX6 7).2.2.1) (zw1 58 rfl rfl)) (fun x h => h) rfl hin rfl (tyX6_ok 7 (by decide)) rfl rfl (Nat.le_of_ble_eq_true rfl) (show decode prog_8_method_1_code 57 = .ok (.putfield 34, 3) by decide +kernel) (fun H locs hP hD hS => ?_)
  have hP : va_P D vwCl [(h0, .inr (6, [.ref q1, .ref q2, .int 0, .ref q3, .ref q4, .ref q5, .int 0, .ref q6, .null, .int 0, .null, .null, .null, .int 0, .int 0])), (q1, .inl (cA .int, 12, .inl (fun _ => 0))), (q2, .inl (cA .int, 12, .inl (fun _ => 0))), (q3, .inl (cA .int, 12, .inl (fun _ => 0))), (q4, .inl (cA .int, 4, .inl (fun _ => 0))), (q5, .inl (cA .int, 4, .inl (fun _ => 0))), (q6, .inl (cA .int, 24, .inl (fun _ => 0)))] H := hP
  have hD : va_D A [(h0, .inr (6, [.ref q1, .ref q2, .int 0, .ref q3, .ref q4, .ref q5, .int 0, .ref q6, .null, .int 0, .null, .null, .null, .int 0, .int 0])), (q1, .inl (cA .int, 12, .inl (fun _ => 0))), (q2, .inl (cA .int, 12, .inl (fun _ => 0))), (q3, .inl (cA .int, 12, .inl (fun _ => 0))), (q4, .inl (cA .int, 4, .inl (fun _ => 0))), (q5, .inl (cA .int, 4, .inl (fun _ => 0))), (q6, .inl (cA .int, 24, .inl (fun _ => 0)))] := hD
  refine lv_aload_n hx hb (show decode prog_8_method_1_code 60 = .ok (.aload_n 0, 1) by decide +kernel) rfl (lv_at hl 0 rfl) ?_
  refine lv_bipush (v := 7) hx hb (show decode prog_8_method_1_code 61 = .ok (.bipush 7, 2) by decide +kernel) (by decide) ?_
  refine zna (N' := 7) hx hb (hz (.arrayClass .int) (zw1 110 rfl rfl)) (show newarray.typeOf .int = .int from rfl) (by decide) hK hP hD hS hA (by decide) (by decide) (Nat.le_of_ble_eq_true rfl) (Nat.le_of_ble_eq_true rfl) (Nat.le_of_ble_eq_true rfl) (show decode prog_8_method_1_code 63 = .ok (.newarray .int, 2) by decide +kernel) (fun q7 H hP hD hS => ?_)
  have hP : va_P D vwCl [(h0, .inr (6, [.ref q1, .ref q2, .int 0, .ref q3, .ref q4, .ref q5, .int 0, .ref q6, .null, .int 0, .null, .null, .null, .int 0, .int 0])), (q1, .inl (cA .int, 12, .inl (fun _ => 0))), (q2, .inl (cA .int, 12, .inl (fun _ => 0))), (q3, .inl (cA .int, 12, .inl (fun _ => 0))), (q4, .inl (cA .int, 4, .inl (fun _ => 0))), (q5, .inl (cA .int, 4, .inl (fun _ => 0))), (q6, .inl (cA .int, 24, .inl (fun _ => 0))), (q7, .inl (cA .int, 7, .inl (fun _ => 0)))] H := hP
  have hD : va_D A [(h0, .inr (6, [.ref q1, .ref q2, .int 0, .ref q3, .ref q4, .ref q5, .int 0, .ref q6, .null, .int 0, .null, .null, .null, .int 0, .int 0])), (q1, .inl (cA .int, 12, .inl (fun _ => 0))), (q2, .inl (cA .int, 12, .inl (fun _ => 0))), (q3, .inl (cA .int, 12, .inl (fun _ => 0))), (q4, .inl (cA .int, 4, .inl (fun _ => 0))), (q5, .inl (cA .int, 4, .inl (fun _ => 0))), (q6, .inl (cA .int, 24, .inl (fun _ => 0))), (q7, .inl (cA .int, 7, .inl (fun _ => 0)))] := hD
  refine W.widen (k := 7) (n := 75) (Nat.le_of_ble_eq_true rfl) (Nat.le_of_ble_eq_true rfl) ?_
  refine va_putF hx hb hz zi_6 tyX6 tyX6_ok nmX6 hown hK hP hD hS 0 rfl rfl 8 (by decide) (hz (.fieldLink RX6 37 (TX6 8).1 (TX6 8).2.1 (TX6 8).2.2.1) (zw1 61 rfl rfl)) (fun x h => h) rfl hin rfl (tyX6_ok 8 (by decide)) rfl rfl (Nat.le_of_ble_eq_true rfl) (show decode prog_8_method_1_code 65 = .ok (.putfield 37, 3) by decide +kernel) (fun H locs hP hD hS => ?_)
  have hP : va_P D vwCl [(h0, .inr (6, [.ref q1, .ref q2, .int 0, .ref q3, .ref q4, .ref q5, .int 0, .ref q6, .ref q7, .int 0, .null, .null, .null, .int 0, .int 0])), (q1, .inl (cA .int, 12, .inl (fun _ => 0))), (q2, .inl (cA .int, 12, .inl (fun _ => 0))), (q3, .inl (cA .int, 12, .inl (fun _ => 0))), (q4, .inl (cA .int, 4, .inl (fun _ => 0))), (q5, .inl (cA .int, 4, .inl (fun _ => 0))), (q6, .inl (cA .int, 24, .inl (fun _ => 0))), (q7, .inl (cA .int, 7, .inl (fun _ => 0)))] H := hP
  have hD : va_D A [(h0, .inr (6, [.ref q1, .ref q2, .int 0, .ref q3, .ref q4, .ref q5, .int 0, .ref q6, .ref q7, .int 0, .null, .null, .null, .int 0, .int 0])), (q1, .inl (cA .int, 12, .inl (fun _ => 0))), (q2, .inl (cA .int, 12, .inl (fun _ => 0))), (q3, .inl (cA .int, 12, .inl (fun _ => 0))), (q4, .inl (cA .int, 4, .inl (fun _ => 0))), (q5, .inl (cA .int, 4, .inl (fun _ => 0))), (q6, .inl (cA .int, 24, .inl (fun _ => 0))), (q7, .inl (cA .int, 7, .inl (fun _ => 0)))] := hD
  refine lv_aload_n hx hb (show decode prog_8_method_1_code 68 = .ok (.aload_n 0, 1) by decide +kernel) rfl (lv_at hl 0 rfl) ?_
  refine lv_iconst (v := 0) hx hb (show decode prog_8_method_1_code 69 = .ok (.iconst 0, 1) by decide +kernel) (by decide) ?_
  refine va_put hx hb hz zi_6 tyX6 tyX6_ok nmX6 hown hK hP hD hS 0 rfl rfl 9 (by decide) (hz (.fieldLink RX6 40 (TX6 9).1 (TX6 9).2.1 (TX6 9).2.2.1) (zw1 64 rfl rfl)) (fun x h => h) rfl (tyX6_ok 9 (by decide)) rfl rfl (Nat.le_of_ble_eq_true rfl) (show decode prog_8_method_1_code 70 = .ok (.putfield 40, 3) by decide +kernel) (fun H locs hP hD hS => ?_)
  have hP : va_P D vwCl [(h0, .inr (6, [.ref q1, .ref q2, .int 0, .ref q3, .ref q4, .ref q5, .int 0, .ref q6, .ref q7, .int 0, .null, .null, .null, .int 0, .int 0])), (q1, .inl (cA .int, 12, .inl (fun _ => 0))), (q2, .inl (cA .int, 12, .inl (fun _ => 0))), (q3, .inl (cA .int, 12, .inl (fun _ => 0))), (q4, .inl (cA .int, 4, .inl (fun _ => 0))), (q5, .inl (cA .int, 4, .inl (fun _ => 0))), (q6, .inl (cA .int, 24, .inl (fun _ => 0))), (q7, .inl (cA .int, 7, .inl (fun _ => 0)))] H := hP
  have hD : va_D A [(h0, .inr (6, [.ref q1, .ref q2, .int 0, .ref q3, .ref q4, .ref q5, .int 0, .ref q6, .ref q7, .int 0, .null, .null, .null, .int 0, .int 0])), (q1, .inl (cA .int, 12, .inl (fun _ => 0))), (q2, .inl (cA .int, 12, .inl (fun _ => 0))), (q3, .inl (cA .int, 12, .inl (fun _ => 0))), (q4, .inl (cA .int, 4, .inl (fun _ => 0))), (q5, .inl (cA .int, 4, .inl (fun _ => 0))), (q6, .inl (cA .int, 24, .inl (fun _ => 0))), (q7, .inl (cA .int, 7, .inl (fun _ => 0)))] := hD
  refine lv_aload_n hx hb (show decode prog_8_method_1_code 73 = .ok (.aload_n 0, 1) by decide +kernel) rfl (lv_at hl 0 rfl) ?_
  refine lv_bipush (v := 10) hx hb (show decode prog_8_method_1_code 74 = .ok (.bipush 10, 2) by decide +kernel) (by decide) ?_
  refine zna (N' := 10) hx hb (hz (.arrayClass .int) (zw1 110 rfl rfl)) (show newarray.typeOf .int = .int from rfl) (by decide) hK hP hD hS hA (by decide) (by decide) (Nat.le_of_ble_eq_true rfl) (Nat.le_of_ble_eq_true rfl) (Nat.le_of_ble_eq_true rfl) (show decode prog_8_method_1_code 76 = .ok (.newarray .int, 2) by decide +kernel) (fun q8 H hP hD hS => ?_)
  have hP : va_P D vwCl [(h0, .inr (6, [.ref q1, .ref q2, .int 0, .ref q3, .ref q4, .ref q5, .int 0, .ref q6, .ref q7, .int 0, .null, .null, .null, .int 0, .int 0])), (q1, .inl (cA .int, 12, .inl (fun _ => 0))), (q2, .inl (cA .int, 12, .inl (fun _ => 0))), (q3, .inl (cA .int, 12, .inl (fun _ => 0))), (q4, .inl (cA .int, 4, .inl (fun _ => 0))), (q5, .inl (cA .int, 4, .inl (fun _ => 0))), (q6, .inl (cA .int, 24, .inl (fun _ => 0))), (q7, .inl (cA .int, 7, .inl (fun _ => 0))), (q8, .inl (cA .int, 10, .inl (fun _ => 0)))] H := hP
  have hD : va_D A [(h0, .inr (6, [.ref q1, .ref q2, .int 0, .ref q3, .ref q4, .ref q5, .int 0, .ref q6, .ref q7, .int 0, .null, .null, .null, .int 0, .int 0])), (q1, .inl (cA .int, 12, .inl (fun _ => 0))), (q2, .inl (cA .int, 12, .inl (fun _ => 0))), (q3, .inl (cA .int, 12, .inl (fun _ => 0))), (q4, .inl (cA .int, 4, .inl (fun _ => 0))), (q5, .inl (cA .int, 4, .inl (fun _ => 0))), (q6, .inl (cA .int, 24, .inl (fun _ => 0))), (q7, .inl (cA .int, 7, .inl (fun _ => 0))), (q8, .inl (cA .int, 10, .inl (fun _ => 0)))] := hD
  refine W.widen (k := 8) (n := 85) (Nat.le_of_ble_eq_true rfl) (Nat.le_of_ble_eq_true rfl) ?_
  refine va_putF hx hb hz zi_6 tyX6 tyX6_ok nmX6 hown hK hP hD hS 0 rfl rfl 10 (by decide) (hz (.fieldLink RX6 43 (TX6 10).1 (TX6 10).2.1 (TX6 10).2.2.1) (zw1 67 rfl rfl)) (fun x h => h) rfl hin rfl (tyX6_ok 10 (by decide)) rfl rfl (Nat.le_of_ble_eq_true rfl) (show decode prog_8_method_1_code 78 = .ok (.putfield 43, 3) by decide +kernel) (fun H locs hP hD hS => ?_)
  have hP : va_P D vwCl [(h0, .inr (6, [.ref q1, .ref q2, .int 0, .ref q3, .ref q4, .ref q5, .int 0, .ref q6, .ref q7, .int 0, .ref q8, .null, .null, .int 0, .int 0])), (q1, .inl (cA .int, 12, .inl (fun _ => 0))), (q2, .inl (cA .int, 12, .inl (fun _ => 0))), (q3, .inl (cA .int, 12, .inl (fun _ => 0))), (q4, .inl (cA .int, 4, .inl (fun _ => 0))), (q5, .inl (cA .int, 4, .inl (fun _ => 0))), (q6, .inl (cA .int, 24, .inl (fun _ => 0))), (q7, .inl (cA .int, 7, .inl (fun _ => 0))), (q8, .inl (cA .int, 10, .inl (fun _ => 0)))] H := hP
  have hD : va_D A [(h0, .inr (6, [.ref q1, .ref q2, .int 0, .ref q3, .ref q4, .ref q5, .int 0, .ref q6, .ref q7, .int 0, .ref q8, .null, .null, .int 0, .int 0])), (q1, .inl (cA .int, 12, .inl (fun _ => 0))), (q2, .inl (cA .int, 12, .inl (fun _ => 0))), (q3, .inl (cA .int, 12, .inl (fun _ => 0))), (q4, .inl (cA .int, 4, .inl (fun _ => 0))), (q5, .inl (cA .int, 4, .inl (fun _ => 0))), (q6, .inl (cA .int, 24, .inl (fun _ => 0))), (q7, .inl (cA .int, 7, .inl (fun _ => 0))), (q8, .inl (cA .int, 10, .inl (fun _ => 0)))] := hD
  refine lv_aload_n hx hb (show decode prog_8_method_1_code 81 = .ok (.aload_n 0, 1) by decide +kernel) rfl (lv_at hl 0 rfl) ?_
  refine lv_bipush (v := 10) hx hb (show decode prog_8_method_1_code 82 = .ok (.bipush 10, 2) by decide +kernel) (by decide) ?_
  refine zna (N' := 10) hx hb (hz (.arrayClass .int) (zw1 110 rfl rfl)) (show newarray.typeOf .int = .int from rfl) (by decide) hK hP hD hS hA (by decide) (by decide) (Nat.le_of_ble_eq_true rfl) (Nat.le_of_ble_eq_true rfl) (Nat.le_of_ble_eq_true rfl) (show decode prog_8_method_1_code 84 = .ok (.newarray .int, 2) by decide +kernel) (fun q9 H hP hD hS => ?_)
  have hP : va_P D vwCl [(h0, .inr (6, [.ref q1, .ref q2, .int 0, .ref q3, .ref q4, .ref q5, .int 0, .ref q6, .ref q7, .int 0, .ref q8, .null, .null, .int 0, .int 0])), (q1, .inl (cA .int, 12, .inl (fun _ => 0))), (q2, .inl (cA .int, 12, .inl (fun _ => 0))), (q3, .inl (cA .int, 12, .inl (fun _ => 0))), (q4, .inl (cA .int, 4, .inl (fun _ => 0))), (q5, .inl (cA .int, 4, .inl (fun _ => 0))), (q6, .inl (cA .int, 24, .inl (fun _ => 0))), (q7, .inl (cA .int, 7, .inl (fun _ => 0))), (q8, .inl (cA .int, 10, .inl (fun _ => 0))), (q9, .inl (cA .int, 10, .inl (fun _ => 0)))] H := hP
  have hD : va_D A [(h0, .inr (6, [.ref q1, .ref q2, .int 0, .ref q3, .ref q4, .ref q5, .int 0, .ref q6, .ref q7, .int 0, .ref q8, .null, .null, .int 0, .int 0])), (q1, .inl (cA .int, 12, .inl (fun _ => 0))), (q2, .inl (cA .int, 12, .inl (fun _ => 0))), (q3, .inl (cA .int, 12, .inl (fun _ => 0))), (q4, .inl (cA .int, 4, .inl (fun _ => 0))), (q5, .inl (cA .int, 4, .inl (fun _ => 0))), (q6, .inl (cA .int, 24, .inl (fun _ => 0))), (q7, .inl (cA .int, 7, .inl (fun _ => 0))), (q8, .inl (cA .int, 10, .inl (fun _ => 0))), (q9, .inl (cA .int, 10, .inl (fun _ => 0)))] := hD
  refine W.widen (k := 9) (n := 95) (Nat.le_of_ble_eq_true rfl) (Nat.le_of_ble_eq_true rfl) ?_
  refine va_putF hx hb hz zi_6 tyX6 tyX6_ok nmX6 hown hK hP hD hS 0 rfl rfl 11 (by decide) (hz (.fieldLink RX6 46 (TX6 11).1 (TX6 11).2.1 (TX6 11).2.2.1) (zw1 69 rfl rfl)) (fun x h => h) rfl hin rfl (tyX6_ok 11 (by decide)) rfl rfl (Nat.le_of_ble_eq_true rfl) (show decode prog_8_method_1_code 86 = .ok (.putfield 46, 3) by decide +kernel) (fun H locs hP hD hS => ?_)
  have hP : va_P D vwCl [(h0, .inr (6, [.ref q1, .ref q2, .int 0, .ref q3, .ref q4, .ref q5, .int 0, .ref q6, .ref q7, .int 0, .ref q8, .ref q9, .null, .int 0, .int 0])), (q1, .inl (cA .int, 12, .inl (fun _ => 0))), (q2, .inl (cA .int, 12, .inl (fun _ => 0))), (q3, .inl (cA .int, 12, .inl (fun _ => 0))), (q4, .inl (cA .int, 4, .inl (fun _ => 0))), (q5, .inl (cA .int, 4, .inl (fun _ => 0))), (q6, .inl (cA .int, 24, .inl (fun _ => 0))), (q7, .inl (cA .int, 7, .inl (fun _ => 0))), (q8, .inl (cA .int, 10, .inl (fun _ => 0))), (q9, .inl (cA .int, 10, .inl (fun _ => 0)))] H := hP
  have hD : va_D A [(h0, .inr (6, [.ref q1, .ref q2, .int 0, .ref q3, .ref q4, .ref q5, .int 0, .ref q6, .ref q7, .int 0, .ref q8, .ref q9, .null, .int 0, .int 0])), (q1, .inl (cA .int, 12, .inl (fun _ => 0))), (q2, .inl (cA .int, 12, .inl (fun _ => 0))), (q3, .inl (cA .int, 12, .inl (fun _ => 0))), (q4, .inl (cA .int, 4, .inl (fun _ => 0))), (q5, .inl (cA .int, 4, .inl (fun _ => 0))), (q6, .inl (cA .int, 24, .inl (fun _ => 0))), (q7, .inl (cA .int, 7, .inl (fun _ => 0))), (q8, .inl (cA .int, 10, .inl (fun _ => 0))), (q9, .inl (cA .int, 10, .inl (fun _ => 0)))] := hD
  refine lv_aload_n hx hb (show decode prog_8_method_1_code 89 = .ok (.aload_n 0, 1) by decide +kernel) rfl (lv_at hl 0 rfl) ?_
  refine lv_bipush (v := 10) hx hb (show decode prog_8_method_1_code 90 = .ok (.bipush 10, 2) by decide +kernel) (by decide) ?_
  refine zna (N' := 10) hx hb (hz (.arrayClass .int) (zw1 110 rfl rfl)) (show newarray.typeOf .int = .int from rfl) (by decide) hK hP hD hS hA (by decide) (by decide) (Nat.le_of_ble_eq_true rfl) (Nat.le_of_ble_eq_true rfl) (Nat.le_of_ble_eq_true rfl) (show decode prog_8_method_1_code 92 = .ok (.newarray .int, 2) by decide +kernel) (fun q10 H hP hD hS => ?_)
  have hP : va_P D vwCl [(h0, .inr (6, [.ref q1, .ref q2, .int 0, .ref q3, .ref q4, .ref q5, .int 0, .ref q6, .ref q7, .int 0, .ref q8, .ref q9, .null, .int 0, .int 0])), (q1, .inl (cA .int, 12, .inl (fun _ => 0))), (q2, .inl (cA .int, 12, .inl (fun _ => 0))), (q3, .inl (cA .int, 12, .inl (fun _ => 0))), (q4, .inl (cA .int, 4, .inl (fun _ => 0))), (q5, .inl (cA .int, 4, .inl (fun _ => 0))), (q6, .inl (cA .int, 24, .inl (fun _ => 0))), (q7, .inl (cA .int, 7, .inl (fun _ => 0))), (q8, .inl (cA .int, 10, .inl (fun _ => 0))), (q9, .inl (cA .int, 10, .inl (fun _ => 0))), (q10, .inl (cA .int, 10, .inl (fun _ => 0)))] H := hP
  have hD : va_D A [(h0, .inr (6, [.ref q1, .ref q2, .int 0, .ref q3, .ref q4, .ref q5, .int 0, .ref q6, .ref q7, .int 0, .ref q8, .ref q9, .null, .int 0, .int 0])), (q1, .inl (cA .int, 12, .inl (fun _ => 0))), (q2, .inl (cA .int, 12, .inl (fun _ => 0))), (q3, .inl (cA .int, 12, .inl (fun _ => 0))), (q4, .inl (cA .int, 4, .inl (fun _ => 0))), (q5, .inl (cA .int, 4, .inl (fun _ => 0))), (q6, .inl (cA .int, 24, .inl (fun _ => 0))), (q7, .inl (cA .int, 7, .inl (fun _ => 0))), (q8, .inl (cA .int, 10, .inl (fun _ => 0))), (q9, .inl (cA .int, 10, .inl (fun _ => 0))), (q10, .inl (cA .int, 10, .inl (fun _ => 0)))] := hD
  refine W.widen (k := 10) (n := 105) (Nat.le_of_ble_eq_true rfl) (Nat.le_of_ble_eq_true rfl) ?_
  refine va_putF hx hb hz zi_6 tyX6 tyX6_ok nmX6 hown hK hP hD hS 0 rfl rfl 12 (by decide) (hz (.fieldLink RX6 49 (TX6 12).1 (TX6 12).2.1 (TX6 12).2.2.1) (zw1 71 rfl rfl)) (fun x h => h) rfl hin rfl (tyX6_ok 12 (by decide)) rfl rfl (Nat.le_of_ble_eq_true rfl) (show decode prog_8_method_1_code 94 = .ok (.putfield 49, 3) by decide +kernel) (fun H locs hP hD hS => ?_)
  have hP : va_P D vwCl [(h0, .inr (6, [.ref q1, .ref q2, .int 0, .ref q3, .ref q4, .ref q5, .int 0, .ref q6, .ref q7, .int 0, .ref q8, .ref q9, .ref q10, .int 0, .int 0])), (q1, .inl (cA .int, 12, .inl (fun _ => 0))), (q2, .inl (cA .int, 12, .inl (fun _ => 0))), (q3, .inl (cA .int, 12, .inl (fun _ => 0))), (q4, .inl (cA .int, 4, .inl (fun _ => 0))), (q5, .inl (cA .int, 4, .inl (fun _ => 0))), (q6, .inl (cA .int, 24, .inl (fun _ => 0))), (q7, .inl (cA .int, 7, .inl (fun _ => 0))), (q8, .inl (cA .int, 10, .inl (fun _ => 0))), (q9, .inl (cA .int, 10, .inl (fun _ => 0))), (q10, .inl (cA .int, 10, .inl (fun _ => 0)))] H := hP
  have hD : va_D A [(h0, .inr (6, [.ref q1, .ref q2, .int 0, .ref q3, .ref q4, .ref q5, .int 0, .ref q6, .ref q7, .int 0, .ref q8, .ref q9, .ref q10, .int 0, .int 0])), (q1, .inl (cA .int, 12, .inl (fun _ => 0))), (q2, .inl (cA .int, 12, .inl (fun _ => 0))), (q3, .inl (cA .int, 12, .inl (fun _ => 0))), (q4, .inl (cA .int, 4, .inl (fun _ => 0))), (q5, .inl (cA .int, 4, .inl (fun _ => 0))), (q6, .inl (cA .int, 24, .inl (fun _ => 0))), (q7, .inl (cA .int, 7, .inl (fun _ => 0))), (q8, .inl (cA .int, 10, .inl (fun _ => 0))), (q9, .inl (cA .int, 10, .inl (fun _ => 0))), (q10, .inl (cA .int, 10, .inl (fun _ => 0)))] := hD
  refine lv_aload_n hx hb (show decode prog_8_method_1_code 97 = .ok (.aload_n 0, 1) by decide +kernel) rfl (lv_at hl 0 rfl) ?_
  refine lv_iconst (v := 0) hx hb (show decode prog_8_method_1_code 98 = .ok (.iconst 0, 1) by decide +kernel) (by decide) ?_
  refine va_put hx hb hz zi_6 tyX6 tyX6_ok nmX6 hown hK hP hD hS 0 rfl rfl 13 (by decide) (hz (.fieldLink RX6 52 (TX6 13).1 (TX6 13).2.1 (TX6 13).2.2.1) (zw1 73 rfl rfl)) (fun x h => h) rfl (tyX6_ok 13 (by decide)) rfl rfl (Nat.le_of_ble_eq_true rfl) (show decode prog_8_method_1_code 99 = .ok (.putfield 52, 3) by decide +kernel) (fun H locs hP hD hS => ?_)
  have hP : va_P D vwCl [(h0, .inr (6, [.ref q1, .ref q2, .int 0, .ref q3, .ref q4, .ref q5, .int 0, .ref q6, .ref q7, .int 0, .ref q8, .ref q9, .ref q10, .int 0, .int 0])), (q1, .inl (cA .int, 12, .inl (fun _ => 0))), (q2, .inl (cA .int, 12, .inl (fun _ => 0))), (q3, .inl (cA .int, 12, .inl (fun _ => 0))), (q4, .inl (cA .int, 4, .inl (fun _ => 0))), (q5, .inl (cA .int, 4, .inl (fun _ => 0))), (q6, .inl (cA .int, 24, .inl (fun _ => 0))), (q7, .inl (cA .int, 7, .inl (fun _ => 0))), (q8, .inl (cA .int, 10, .inl (fun _ => 0))), (q9, .inl (cA .int, 10, .inl (fun _ => 0))), (q10, .inl (cA .int, 10, .inl (fun _ => 0)))] H := hP
  have hD : va_D A [(h0, .inr (6, [.ref q1, .ref q2, .int 0, .ref q3, .ref q4, .ref q5, .int 0, .ref q6, .ref q7, .int 0, .ref q8, .ref q9, .ref q10, .int 0, .int 0])), (q1, .inl (cA .int, 12, .inl (fun _ => 0))), (q2, .inl (cA .int, 12, .inl (fun _ => 0))), (q3, .inl (cA .int, 12, .inl (fun _ => 0))), (q4, .inl (cA .int, 4, .inl (fun _ => 0))), (q5, .inl (cA .int, 4, .inl (fun _ => 0))), (q6, .inl (cA .int, 24, .inl (fun _ => 0))), (q7, .inl (cA .int, 7, .inl (fun _ => 0))), (q8, .inl (cA .int, 10, .inl (fun _ => 0))), (q9, .inl (cA .int, 10, .inl (fun _ => 0))), (q10, .inl (cA .int, 10, .inl (fun _ => 0)))] := hD
  refine lv_aload_n hx hb (show decode prog_8_method_1_code 102 = .ok (.aload_n 0, 1) by decide +kernel) rfl (lv_at hl 0 rfl) ?_
  refine lv_iconst (v := 0) hx hb (show decode prog_8_method_1_code 103 = .ok (.iconst 0, 1) by decide +kernel) (by decide) ?_
  refine va_put hx hb hz zi_6 tyX6 tyX6_ok nmX6 hown hK hP hD hS 0 rfl rfl 14 (by decide) (hz (.fieldLink RX6 55 (TX6 14).1 (TX6 14).2.1 (TX6 14).2.2.1) (zw1 76 rfl rfl)) (fun x h => h) rfl (tyX6_ok 14 (by decide)) rfl rfl (Nat.le_of_ble_eq_true rfl) (show decode prog_8_method_1_code 104 = .ok (.putfield 55, 3) by decide +kernel) (fun H locs hP hD hS => ?_)
  have hP : va_P D vwCl [(h0, .inr (6, [.ref q1, .ref q2, .int 0, .ref q3, .ref q4, .ref q5, .int 0, .ref q6, .ref q7, .int 0, .ref q8, .ref q9, .ref q10, .int 0, .int 0])), (q1, .inl (cA .int, 12, .inl (fun _ => 0))), (q2, .inl (cA .int, 12, .inl (fun _ => 0))), (q3, .inl (cA .int, 12, .inl (fun _ => 0))), (q4, .inl (cA .int, 4, .inl (fun _ => 0))), (q5, .inl (cA .int, 4, .inl (fun _ => 0))), (q6, .inl (cA .int, 24, .inl (fun _ => 0))), (q7, .inl (cA .int, 7, .inl (fun _ => 0))), (q8, .inl (cA .int, 10, .inl (fun _ => 0))), (q9, .inl (cA .int, 10, .inl (fun _ => 0))), (q10, .inl (cA .int, 10, .inl (fun _ => 0)))] H := hP
  have hD : va_D A [(h0, .inr (6, [.ref q1, .ref q2, .int 0, .ref q3, .ref q4, .ref q5, .int 0, .ref q6, .ref q7, .int 0, .ref q8, .ref q9, .ref q10, .int 0, .int 0])), (q1, .inl (cA .int, 12, .inl (fun _ => 0))), (q2, .inl (cA .int, 12, .inl (fun _ => 0))), (q3, .inl (cA .int, 12, .inl (fun _ => 0))), (q4, .inl (cA .int, 4, .inl (fun _ => 0))), (q5, .inl (cA .int, 4, .inl (fun _ => 0))), (q6, .inl (cA .int, 24, .inl (fun _ => 0))), (q7, .inl (cA .int, 7, .inl (fun _ => 0))), (q8, .inl (cA .int, 10, .inl (fun _ => 0))), (q9, .inl (cA .int, 10, .inl (fun _ => 0))), (q10, .inl (cA .int, 10, .inl (fun _ => 0)))] := hD
  exact W.vret hx hb hr (fun t ht hW => ⟨⟨fun k => ([q1, q2, q3, q4, q5, q6, q7, q8, q9, q10] : List Nat).getD k 0, rfl, trivial, by rw [ht]; exact hP, va_K.moved hW.alike hK, hD⟩, hS.F ht⟩) hS.2.2 (show decode prog_8_method_1_code 107 = .ok (.return_, 1) by decide +kernel)
theorem zgd_zcX6 : GoodIn zgood (.code yX6_init prog_8_method_1_code 1 none :: zgood) := zGoodIn fun w hw => by
  rcases List.mem_cons.mp hw with rfl | h
  · exact (zw1 32 rfl rfl)
  · exact h
set_option maxHeartbeats 4000000 in
set_option maxRecDepth 100000 in
theorem zcX7 (l : Launch) (D : va_G) (cA : FieldType → ClassId) (h0 r1 sz : Nat) : Met l yX7_init (.code yX7_init prog_9_method_1_code 2 none :: zgood) ({ frames := 1, cells := 0, slots := 0, locals := 24 }) (va_Pc [.ref h0, .ref r1] (fun U => U.heap.size = sz ∧ va_P D vwCl [(h0, .inr (7, [.null]))] U.heap ∧ va_K D vwCl [(cA .int, .int), (cA .char, .char)] U ∧ va_D (fun _ => True) [(h0, .inr (7, [.null]))])) (va_Qv (fun _ : Nat → Nat => True) (fun u t => va_P D vwCl [(h0, .inr (7, [.ref r1]))] t.heap ∧ va_K D vwCl [(cA .int, .int), (cA .char, .char)] t ∧ va_D (va_A [(h0, .inr (7, [.null]))] sz) [(h0, .inr (7, [.ref r1]))]) (va_A [(h0, .inr (7, [.null]))] sz)) 0 0 (va_A [(h0, .inr (7, [.null]))] sz) := by
  refine Met.ofW (cc := prog_9_method_1_code) (maxL := 2) (ret := none) (by decide) rfl ?_
  intro p e s m args below meth c s₁ B hml hv
  obtain ⟨rfl, hsz, hP, hK, hD0⟩ := hv
  have hx := B.exec
  have hb := B.bytes
  have hr := B.returns
  have hts := atoms_spec (ws := .code yX7_init prog_9_method_1_code 2 none :: zgood) B.pre
  have hz : ∀ w ∈ zgood, w.before _ s = true := fun w h => hts w (List.mem_cons_of_mem _ h)
  have hown : s.vm.findClass RX7 = some m.cls := findClass_of_methodNamed B.named
  have hlocks := B.notSynchronized
  have hin : meth.name = "<init>" := (name_of_methodNamed B.named B.method).1
  subst hsz
  have hD := hD0.self (sz := s.heap.size)
  generalize hAe : va_A [(h0, .inr (7, [.null]))] s.heap.size = A at hD ⊢
  have hA : ∀ q : Nat, s.heap.size ≤ q → A q := fun q h => by rw [← hAe]; exact Or.inr h
  have hS : va_S A s.heap s.heap [] := va_S.rf
  have hl := lv_entry ([.ref h0, .ref r1]) (n := 2) (Nat.le_of_ble_eq_true rfl)
  rw [lg_entry_eq]
  generalize (lg_sl ([.ref h0, .ref r1]) ++ List.replicate (2 - (lg_sl ([.ref h0, .ref r1])).length) Slot.unset).toArray = ls at hl ⊢
  have hl : lv_has ls 2 [(0, .ref h0), (1, .ref r1)] := hl
  refine lv_aload_n hx hb (show decode prog_9_method_1_code 0 = .ok (.aload_n 0, 1) by decide +kernel) rfl (lv_at hl 0 rfl) ?_
  refine W.objInit hx hb hown (hz (.methodLink RX7 3 Lib.objectInit) (zw1 192 rfl rfl)) (hz (.instanceMethod Lib.objectInit) (zw1 26 rfl rfl)) (hz (.code Lib.objectInit ⟨#[0xb1]⟩ 1 none) (zw1 27 rfl rfl)) rfl (by rw [hml]; exact hl.1) rfl (show decode prog_9_method_1_code 1 = .ok (.invokespecial 3, 3) by decide +kernel) (Nat.le_of_ble_eq_true rfl) (Nat.le_of_ble_eq_true rfl) ?_
  refine W.eq (g2 := F0 m 4 ls []) rfl ?_
  refine lv_aload_n hx hb (show decode prog_9_method_1_code 4 = .ok (.aload_n 0, 1) by decide +kernel) rfl (lv_at hl 0 rfl) ?_
  refine lv_aload_n hx hb (show decode prog_9_method_1_code 5 = .ok (.aload_n 1, 1) by decide +kernel) rfl (lv_at hl 1 rfl) ?_
  refine va_putF hx hb hz zi_7 tyX7 tyX7_ok nmX7 hown hK hP hD hS 0 rfl rfl 0 (by decide) (hz (.fieldLink RX7 9 (TX7 0).1 (TX7 0).2.1 (TX7 0).2.2.1) (zw1 193 rfl rfl)) (fun x h => h) rfl hin rfl (tyX7_ok 0 (by decide)) rfl rfl (Nat.le_of_ble_eq_true rfl) (show decode prog_9_method_1_code 6 = .ok (.putfield 9, 3) by decide +kernel) (fun H locs hP hD hS => ?_)
  have hP : va_P D vwCl [(h0, .inr (7, [.ref r1]))] H := hP
  have hD : va_D A [(h0, .inr (7, [.ref r1]))] := hD
  exact W.vret hx hb hr (fun t ht hW => ⟨⟨fun k => ([] : List Nat).getD k 0, rfl, trivial, by rw [ht]; exact hP, va_K.moved hW.alike hK, hD⟩, hS.F ht⟩) hS.2.2 (show decode prog_9_method_1_code 9 = .ok (.return_, 1) by decide +kernel)
theorem zgd_zcX7 : GoodIn zgood (.code yX7_init prog_9_method_1_code 2 none :: zgood) := zGoodIn fun w hw => by
  rcases List.mem_cons.mp hw with rfl | h
  · exact (zw1 191 rfl rfl)
  · exact h
set_option maxHeartbeats 4000000 in
set_option maxRecDepth 100000 in
theorem zcX8 (l : Launch) (D : va_G) (cA : FieldType → ClassId) (h0 r1 r2 sz : Nat) : Met l yX8_init (.code yX8_init prog_10_method_1_code 3 none :: zgood) ({ frames := 1, cells := 3, slots := 203, locals := 24 }) (va_Pc [.ref h0, .ref r1, .ref r2] (fun U => U.heap.size = sz ∧ va_P D vwCl [(h0, .inr (8, [.null, .null, .null, .null, .null]))] U.heap ∧ va_K D vwCl [(cA .int, .int), (cA .char, .char)] U ∧ va_D (fun _ => True) [(h0, .inr (8, [.null, .null, .null, .null, .null]))])) (va_Qv (fun _ : Nat → Nat => True) (fun u t => va_P D vwCl [(h0, .inr (8, [.ref r1, .ref r2, .ref (u 0), .ref (u 1), .ref (u 2)])), ((u 0), .inl (cA .int, 100, .inl (fun _ => 0))), ((u 1), .inl (cA .int, 100, .inl (fun _ => 0))), ((u 2), .inl (cA .int, 3, .inl (fun _ => 0)))] t.heap ∧ va_K D vwCl [(cA .int, .int), (cA .char, .char)] t ∧ va_D (va_A [(h0, .inr (8, [.null, .null, .null, .null, .null]))] sz) [(h0, .inr (8, [.ref r1, .ref r2, .ref (u 0), .ref (u 1), .ref (u 2)])), ((u 0), .inl (cA .int, 100, .inl (fun _ => 0))), ((u 1), .inl (cA .int, 100, .inl (fun _ => 0))), ((u 2), .inl (cA .int, 3, .inl (fun _ => 0)))]) (va_A [(h0, .inr (8, [.null, .null, .null, .null, .null]))] sz)) 3 203 (va_A [(h0, .inr (8, [.null, .null, .null, .null, .null]))] sz) := by
  refine Met.ofW (cc := prog_10_method_1_code) (maxL := 3) (ret := none) (by decide) rfl ?_
  intro p e s m args below meth c s₁ B hml hv
  obtain ⟨rfl, hsz, hP, hK, hD0⟩ := hv
  have hx := B.exec
  have hb := B.bytes
  have hr := B.returns
  have hts := atoms_spec (ws := .code yX8_init prog_10_method_1_code 3 none :: zgood) B.pre
  have hz : ∀ w ∈ zgood, w.before _ s = true := fun w h => hts w (List.mem_cons_of_mem _ h)
  have hown : s.vm.findClass RX8 = some m.cls := findClass_of_methodNamed B.named
  have hlocks := B.notSynchronized
  have hin : meth.name = "<init>" := (name_of_methodNamed B.named B.method).1
  subst hsz
  have hD := hD0.self (sz := s.heap.size)
  generalize hAe : va_A [(h0, .inr (8, [.null, .null, .null, .null, .null]))] s.heap.size = A at hD ⊢
  have hA : ∀ q : Nat, s.heap.size ≤ q → A q := fun q h => by rw [← hAe]; exact Or.inr h
  have hS : va_S A s.heap s.heap [] := va_S.rf
  have hl := lv_entry ([.ref h0, .ref r1, .ref r2]) (n := 3) (Nat.le_of_ble_eq_true rfl)
  rw [lg_entry_eq]
  generalize (lg_sl ([.ref h0, .ref r1, .ref r2]) ++ List.replicate (3 - (lg_sl ([.ref h0, .ref r1, .ref r2])).length) Slot.unset).toArray = ls at hl ⊢
  have hl : lv_has ls 3 [(0, .ref h0), (1, .ref r1), (2, .ref r2)] := hl
  refine lv_aload_n hx hb (show decode prog_10_method_1_code 0 = .ok (.aload_n 0, 1) by decide +kernel) rfl (lv_at hl 0 rfl) ?_
  refine W.objInit hx hb hown (hz (.methodLink RX8 3 Lib.objectInit) (zw1 154 rfl rfl)) (hz (.instanceMethod Lib.objectInit) (zw1 26 rfl rfl)) (hz (.code Lib.objectInit ⟨#[0xb1]⟩ 1 none) (zw1 27 rfl rfl)) rfl (by rw [hml]; exact hl.1) rfl (show decode prog_10_method_1_code 1 = .ok (.invokespecial 3, 3) by decide +kernel) (Nat.le_of_ble_eq_true rfl) (Nat.le_of_ble_eq_true rfl) ?_
  refine W.eq (g2 := F0 m 4 ls []) rfl ?_
  refine lv_aload_n hx hb (show decode prog_10_method_1_code 4 = .ok (.aload_n 0, 1) by decide +kernel) rfl (lv_at hl 0 rfl) ?_
  refine lv_bipush (v := 100) hx hb (show decode prog_10_method_1_code 5 = .ok (.bipush 100, 2) by decide +kernel) (by decide) ?_
  refine zna (N' := 100) hx hb (hz (.arrayClass .int) (zw1 110 rfl rfl)) (show newarray.typeOf .int = .int from rfl) (by decide) hK hP hD hS hA (by decide) (by decide) (Nat.le_of_ble_eq_true rfl) (Nat.le_of_ble_eq_true rfl) (Nat.le_of_ble_eq_true rfl) (show decode prog_10_method_1_code 7 = .ok (.newarray .int, 2) by decide +kernel) (fun q1 H hP hD hS => ?_)
  have hP : va_P D vwCl [(h0, .inr (8, [.null, .null, .null, .null, .null])), (q1, .inl (cA .int, 100, .inl (fun _ => 0)))] H := hP
  have hD : va_D A [(h0, .inr (8, [.null, .null, .null, .null, .null])), (q1, .inl (cA .int, 100, .inl (fun _ => 0)))] := hD
  refine W.widen (k := 1) (n := 100) (Nat.le_of_ble_eq_true rfl) (Nat.le_of_ble_eq_true rfl) ?_
  refine va_putF hx hb hz zi_8 tyX8 tyX8_ok nmX8 hown hK hP hD hS 0 rfl rfl 2 (by decide) (hz (.fieldLink RX8 9 (TX8 2).1 (TX8 2).2.1 (TX8 2).2.2.1) (zw1 157 rfl rfl)) (fun x h => h) rfl hin rfl (tyX8_ok 2 (by decide)) rfl rfl (Nat.le_of_ble_eq_true rfl) (show decode prog_10_method_1_code 9 = .ok (.putfield 9, 3) by decide +kernel) (fun H locs hP hD hS => ?_)
  have hP : va_P D vwCl [(h0, .inr (8, [.null, .null, .ref q1, .null, .null])), (q1, .inl (cA .int, 100, .inl (fun _ => 0)))] H := hP
  have hD : va_D A [(h0, .inr (8, [.null, .null, .ref q1, .null, .null])), (q1, .inl (cA .int, 100, .inl (fun _ => 0)))] := hD
  refine lv_aload_n hx hb (show decode prog_10_method_1_code 12 = .ok (.aload_n 0, 1) by decide +kernel) rfl (lv_at hl 0 rfl) ?_
  refine lv_bipush (v := 100) hx hb (show decode prog_10_method_1_code 13 = .ok (.bipush 100, 2) by decide +kernel) (by decide) ?_
  refine zna (N' := 100) hx hb (hz (.arrayClass .int) (zw1 110 rfl rfl)) (show newarray.typeOf .int = .int from rfl) (by decide) hK hP hD hS hA (by decide) (by decide) (Nat.le_of_ble_eq_true rfl) (Nat.le_of_ble_eq_true rfl) (Nat.le_of_ble_eq_true rfl) (show decode prog_10_method_1_code 15 = .ok (.newarray .int, 2) by decide +kernel) (fun q2 H hP hD hS => ?_)
  have hP : va_P D vwCl [(h0, .inr (8, [.null, .null, .ref q1, .null, .null])), (q1, .inl (cA .int, 100, .inl (fun _ => 0))), (q2, .inl (cA .int, 100, .inl (fun _ => 0)))] H := hP
  have hD : va_D A [(h0, .inr (8, [.null, .null, .ref q1, .null, .null])), (q1, .inl (cA .int, 100, .inl (fun _ => 0))), (q2, .inl (cA .int, 100, .inl (fun _ => 0)))] := hD
  refine W.widen (k := 2) (n := 200) (Nat.le_of_ble_eq_true rfl) (Nat.le_of_ble_eq_true rfl) ?_
  refine va_putF hx hb hz zi_8 tyX8 tyX8_ok nmX8 hown hK hP hD hS 0 rfl rfl 3 (by decide) (hz (.fieldLink RX8 15 (TX8 3).1 (TX8 3).2.1 (TX8 3).2.2.1) (zw1 158 rfl rfl)) (fun x h => h) rfl hin rfl (tyX8_ok 3 (by decide)) rfl rfl (Nat.le_of_ble_eq_true rfl) (show decode prog_10_method_1_code 17 = .ok (.putfield 15, 3) by decide +kernel) (fun H locs hP hD hS => ?_)
  have hP : va_P D vwCl [(h0, .inr (8, [.null, .null, .ref q1, .ref q2, .null])), (q1, .inl (cA .int, 100, .inl (fun _ => 0))), (q2, .inl (cA .int, 100, .inl (fun _ => 0)))] H := hP
  have hD : va_D A [(h0, .inr (8, [.null, .null, .ref q1, .ref q2, .null])), (q1, .inl (cA .int, 100, .inl (fun _ => 0))), (q2, .inl (cA .int, 100, .inl (fun _ => 0)))] := hD
  refine lv_aload_n hx hb (show decode prog_10_method_1_code 20 = .ok (.aload_n 0, 1) by decide +kernel) rfl (lv_at hl 0 rfl) ?_
  refine lv_iconst (v := 3) hx hb (show decode prog_10_method_1_code 21 = .ok (.iconst 3, 1) by decide +kernel) (by decide) ?_
  refine zna (N' := 3) hx hb (hz (.arrayClass .int) (zw1 110 rfl rfl)) (show newarray.typeOf .int = .int from rfl) (by decide) hK hP hD hS hA (by decide) (by decide) (Nat.le_of_ble_eq_true rfl) (Nat.le_of_ble_eq_true rfl) (Nat.le_of_ble_eq_true rfl) (show decode prog_10_method_1_code 22 = .ok (.newarray .int, 2) by decide +kernel) (fun q3 H hP hD hS => ?_)
  have hP : va_P D vwCl [(h0, .inr (8, [.null, .null, .ref q1, .ref q2, .null])), (q1, .inl (cA .int, 100, .inl (fun _ => 0))), (q2, .inl (cA .int, 100, .inl (fun _ => 0))), (q3, .inl (cA .int, 3, .inl (fun _ => 0)))] H := hP
  have hD : va_D A [(h0, .inr (8, [.null, .null, .ref q1, .ref q2, .null])), (q1, .inl (cA .int, 100, .inl (fun _ => 0))), (q2, .inl (cA .int, 100, .inl (fun _ => 0))), (q3, .inl (cA .int, 3, .inl (fun _ => 0)))] := hD
  refine W.widen (k := 3) (n := 203) (Nat.le_of_ble_eq_true rfl) (Nat.le_of_ble_eq_true rfl) ?_
  refine va_putF hx hb hz zi_8 tyX8 tyX8_ok nmX8 hown hK hP hD hS 0 rfl rfl 4 (by decide) (hz (.fieldLink RX8 18 (TX8 4).1 (TX8 4).2.1 (TX8 4).2.2.1) (zw1 159 rfl rfl)) (fun x h => h) rfl hin rfl (tyX8_ok 4 (by decide)) rfl rfl (Nat.le_of_ble_eq_true rfl) (show decode prog_10_method_1_code 24 = .ok (.putfield 18, 3) by decide +kernel) (fun H locs hP hD hS => ?_)
  have hP : va_P D vwCl [(h0, .inr (8, [.null, .null, .ref q1, .ref q2, .ref q3])), (q1, .inl (cA .int, 100, .inl (fun _ => 0))), (q2, .inl (cA .int, 100, .inl (fun _ => 0))), (q3, .inl (cA .int, 3, .inl (fun _ => 0)))] H := hP
  have hD : va_D A [(h0, .inr (8, [.null, .null, .ref q1, .ref q2, .ref q3])), (q1, .inl (cA .int, 100, .inl (fun _ => 0))), (q2, .inl (cA .int, 100, .inl (fun _ => 0))), (q3, .inl (cA .int, 3, .inl (fun _ => 0)))] := hD
  refine lv_aload_n hx hb (show decode prog_10_method_1_code 27 = .ok (.aload_n 0, 1) by decide +kernel) rfl (lv_at hl 0 rfl) ?_
  refine lv_aload_n hx hb (show decode prog_10_method_1_code 28 = .ok (.aload_n 1, 1) by decide +kernel) rfl (lv_at hl 1 rfl) ?_
  refine va_putF hx hb hz zi_8 tyX8 tyX8_ok nmX8 hown hK hP hD hS 0 rfl rfl 0 (by decide) (hz (.fieldLink RX8 21 (TX8 0).1 (TX8 0).2.1 (TX8 0).2.2.1) (zw1 155 rfl rfl)) (fun x h => h) rfl hin rfl (tyX8_ok 0 (by decide)) rfl rfl (Nat.le_of_ble_eq_true rfl) (show decode prog_10_method_1_code 29 = .ok (.putfield 21, 3) by decide +kernel) (fun H locs hP hD hS => ?_)
  have hP : va_P D vwCl [(h0, .inr (8, [.ref r1, .null, .ref q1, .ref q2, .ref q3])), (q1, .inl (cA .int, 100, .inl (fun _ => 0))), (q2, .inl (cA .int, 100, .inl (fun _ => 0))), (q3, .inl (cA .int, 3, .inl (fun _ => 0)))] H := hP
  have hD : va_D A [(h0, .inr (8, [.ref r1, .null, .ref q1, .ref q2, .ref q3])), (q1, .inl (cA .int, 100, .inl (fun _ => 0))), (q2, .inl (cA .int, 100, .inl (fun _ => 0))), (q3, .inl (cA .int, 3, .inl (fun _ => 0)))] := hD
  refine lv_aload_n hx hb (show decode prog_10_method_1_code 32 = .ok (.aload_n 0, 1) by decide +kernel) rfl (lv_at hl 0 rfl) ?_
  refine lv_aload_n hx hb (show decode prog_10_method_1_code 33 = .ok (.aload_n 2, 1) by decide +kernel) rfl (lv_at hl 2 rfl) ?_
  refine va_putF hx hb hz zi_8 tyX8 tyX8_ok nmX8 hown hK hP hD hS 0 rfl rfl 1 (by decide) (hz (.fieldLink RX8 25 (TX8 1).1 (TX8 1).2.1 (TX8 1).2.2.1) (zw1 156 rfl rfl)) (fun x h => h) rfl hin rfl (tyX8_ok 1 (by decide)) rfl rfl (Nat.le_of_ble_eq_true rfl) (show decode prog_10_method_1_code 34 = .ok (.putfield 25, 3) by decide +kernel) (fun H locs hP hD hS => ?_)
  have hP : va_P D vwCl [(h0, .inr (8, [.ref r1, .ref r2, .ref q1, .ref q2, .ref q3])), (q1, .inl (cA .int, 100, .inl (fun _ => 0))), (q2, .inl (cA .int, 100, .inl (fun _ => 0))), (q3, .inl (cA .int, 3, .inl (fun _ => 0)))] H := hP
  have hD : va_D A [(h0, .inr (8, [.ref r1, .ref r2, .ref q1, .ref q2, .ref q3])), (q1, .inl (cA .int, 100, .inl (fun _ => 0))), (q2, .inl (cA .int, 100, .inl (fun _ => 0))), (q3, .inl (cA .int, 3, .inl (fun _ => 0)))] := hD
  exact W.vret hx hb hr (fun t ht hW => ⟨⟨fun k => ([q1, q2, q3] : List Nat).getD k 0, rfl, trivial, by rw [ht]; exact hP, va_K.moved hW.alike hK, hD⟩, hS.F ht⟩) hS.2.2 (show decode prog_10_method_1_code 37 = .ok (.return_, 1) by decide +kernel)
theorem zgd_zcX8 : GoodIn zgood (.code yX8_init prog_10_method_1_code 3 none :: zgood) := zGoodIn fun w hw => by
  rcases List.mem_cons.mp hw with rfl | h
  · exact (zw1 153 rfl rfl)
  · exact h
