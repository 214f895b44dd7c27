section ZC
variable {p : Program} {l : Launch} {e : Env} {R : Room} {s : State} {m : MethodId} {args : Array Value} {below : List Frame} {meth : Method} {c : Code} {H : Heap} {locs : List Loc} {cells slots : Nat} {Q : State → Prop}
variable {L : Nat} {ad : Nat → Nat} {D : va_G} {cA : FieldType → ClassId} {A : Nat → Prop} {M0 M M' : zM} {bb : ByteArray} {cn mx pc : Nat} {ls : Array Slot} {lc lc' : zLo} {st st' : List Value}
theorem zrunW {a : Array Value} {st0 rest : List Value} {v : Option Value} (hr : va_Run p l e R s m args below meth c H locs cells slots 0 0 (F0 m pc ls st0) rest (zQc L ad D cA A M0 v M' a) A) (hS : va_S A s.heap H locs)
    (kk : ∀ (H1 : Heap) (locs1 : List Loc), va_P D vwCl (zws L ad cA M') H1 → va_S A s.heap H1 locs1 → (∀ i, zNW ≤ i → M' i = M0 i) → W p l e R s m args below meth c H1 locs1 cells slots Q (F0 m (pc + 3) ls ((v.map (zv ad)).toList ++ rest))) : W p l e R s m args below meth c H locs cells slots Q (F0 m pc ls st0) := by
  intro T hT X
  obtain ⟨v', st₀, t, T', LL, h0, X', hL, e1, e2, ⟨hv, hP1, hM1, hz, hk⟩, st⟩ := hr T hT X
  cases hv
  rw [h0] at hz hk
  obtain ⟨t2, a1, b1⟩ := kk T'.heap (locs ++ LL) (by rw [e1]; exact hP1)
    ⟨Nat.le_trans hS.1 (by rw [e1]; exact hz), fun q h1 h2 => by rw [e1, hk q (Nat.lt_of_lt_of_le h1 hS.1) h2]; exact hS.2.1 q h1 h2, fun q hq => by
      rcases List.mem_append.mp hq with h | h
      · exact hS.2.2 q h
      · exact hL q h⟩ hM1 T' rfl X'
  exact ⟨t2, st t2 a1, b1⟩
theorem zpc_U {as : List Value} (hG : zG L ad D cA A M0 s) (hP : va_P D vwCl (zws L ad cA M) H) (hS : va_S A s.heap H locs) (U : State) (hU : U.heap = H) (hW : s.WarmedH U.vm) : zPc L ad D cA A M0 as M (as.map (zv ad)).toArray U :=
  ⟨rfl, by rw [hU]; exact hP, hG.warm hW (fun a h1 h2 => by rw [hU]; exact hS.2.1 a h1 h2)⟩
theorem zrecv_W (hG : zG L ad D cA A M0 s) (hP : va_P D vwCl (zws L ad cA M) H) (hS : va_S A s.heap H locs) {o c0 : Nat} {C : String} (ho : zocl L o = c0 + 1) (hc : (c0 = 11 ∧ C = "java/lang/String") ∨ (c0 < 11 ∧ (vwCl[c0]?.map (fun z => z.1)) = some C)) : ∃ cell : Cell, H[ad o]? = some cell ∧ cell.vm.isStatics = false ∧ s.vm.findClass C = some cell.cls := by
  unfold zocl at ho
  split at ho
  case h_2 => cases ho
  case h_1 c1 fs hsh =>
  have e1 : c1 = c0 := by omega
  subst e1
  rcases zsh_obj hsh with ⟨hlt, hc1⟩ | ⟨rfl, rfl, -⟩ | hc9
  · rcases hc with ⟨h1, -⟩ | ⟨-, h2⟩
    · omega
    · cases hq : vwCl[c1]? with
      | none => rw [hq] at h2; cases h2
      | some q =>
        rw [hq] at h2
        have hget : (zws L ad cA M)[o]? = some (ad o, .inr (c1, zfv ad (M o) 0 fs)) := by
          rw [zws_get hlt]
          unfold zcell
          rw [hsh]
        have := va_recv hG.1 hP hq hget
        simp only [Option.map_some, Option.some.injEq] at h2
        rwa [h2] at this
  · rcases hc with ⟨-, h2⟩ | ⟨h1, -⟩
    · subst h2
      obtain ⟨cell, g1, g2, g3, -⟩ := hG.2.2.2.2.1.kept hS.2.1
      exact ⟨cell, g1, g2, g3⟩
    · omega
  · rcases hc with ⟨h1, -⟩ | ⟨h1, -⟩ <;> omega
end ZC
set_option maxHeartbeats 4000000 in
theorem zmet_of (l : Launch) (L : Nat) (ad : Nat → Nat) (D : va_G) (cA : FieldType → ClassId) (A : Nat → Prop) (M0 : zM) {q : zMe} {b : Bool} (hq : zMok b q) {as : List Value} {M M' : zM} {v : Option Value} (has : (zslots as).length ≤ q.2.2.2.1) (hM : ∀ i, zNW ≤ i → M i = M0 i)
    (body : ∀ {p : Program} {e : Env} {R : Room} {s : State} {m : MethodId} {args : Array Value} {below : List Frame} {meth : Method} {c : Code} {H : Heap} {locs : List Loc} {cells slots : Nat} {Q : State → Prop} {ls : Array Slot},
      p.tables.exec = Jvm.exec → c.code = q.2.2.1 → c.maxLocals = q.2.2.2.1 → s.vm.findClass (zon q.1) = some m.cls → (∀ w ∈ zgood, w.before args s = true) → zG L ad D cA A M0 s → q.2.2.2.2.2.2.1 ≤ R.frames → q.2.2.2.2.2.2.2 ≤ R.locals → cells ≤ R.cells → slots ≤ R.slots → zLs ad ls q.2.2.2.1 (zini q.2.2.2.1 as) → va_P D vwCl (zws L ad cA M) H → va_S A s.heap H locs →
      (∀ (pc' : Nat) (ls' : Array Slot) (H' : Heap) (locs' : List Loc), zretOk q.2.2.1 q.2.2.2.2.1 pc' v → va_P D vwCl (zws L ad cA M') H' → va_S A s.heap H' locs' → (∀ i, zNW ≤ i → M' i = M0 i) → W p l e R s m args below meth c H' locs' cells slots Q (F0 m pc' ls' (v.toList.map (zv ad)))) → W p l e R s m args below meth c H locs cells slots Q (F0 m 0 ls [])) :
    Met l q.2.1 (zwm q) (zrm q) (zPc L ad D cA A M0 as M) (zQc L ad D cA A M0 v M') 0 0 A := by
  obtain ⟨hcls, hpl, hmh, hps, hini, hcode, hkind⟩ := hq
  refine va_MetF (cc := q.2.2.1) (maxL := q.2.2.2.1) (ret := q.2.2.2.2.1) hpl rfl ?_
  intro p e s m args below meth c s₁ B hml hv
  obtain ⟨rfl, hP, hG⟩ := hv
  have hts0 := atoms_spec (ws := zwm q) B.pre
  have hts : ∀ w ∈ zgood, w.before (as.map (zv ad)).toArray s = true := fun w hw => hts0 w (List.mem_cons_of_mem _ hw)
  have hown : s.vm.findClass (zon q.1) = some m.cls := by rw [← hcls]; exact findClass_of_methodNamed B.named
  have hlocks := B.notSynchronized
  have hr := B.returns
  have hx := B.exec
  have hb := B.bytes
  have hl := lv_entry (as.map (zv ad)) (n := q.2.2.2.1) (by rw [zslots_len]; exact has)
  rw [lg_entry_eq]
  generalize (lg_sl (as.map (zv ad)) ++ List.replicate (q.2.2.2.1 - (lg_sl (as.map (zv ad))).length) Slot.unset).toArray = ls at hl ⊢
  refine body hx hb hml hown hts hG (Nat.le_refl _) (Nat.le_refl _) (Nat.le_refl _) (Nat.le_refl _) (zini_Ls hl) hP va_S.rf ?_
  intro pc' ls' H' locs' hret hP' hS' hM'
  unfold zretOk at hret
  have fin : ∀ t : State, t.heap = H' → zQc L ad D cA A M0 v M' (as.map (zv ad)).toArray s (.returned (v.map (zv ad))) t := fun t ht => ⟨rfl, by rw [ht]; exact hP', hM', hS'.F ht⟩
  split at hret
  · obtain ⟨h1, t, h2, h3⟩ := hret
    exact W.zret hx hb (hr.trans h2) h3 (fun t ht _ => fin t ht) hS'.2.2 h1
  · obtain ⟨h1, h2⟩ := hret
    exact W.lret hx hb (hr.trans h2) (fun t ht _ => fin t ht) hS'.2.2 h1
  · obtain ⟨h1, h2⟩ := hret
    exact W.vret hx hb (hr.trans h2) (fun t ht _ => fin t ht) hS'.2.2 h1
  · exact hret.elim
