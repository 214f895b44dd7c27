theorem zoff_in (d x : Int) : ∀ ps : List (Int × Int), Op.lookupswitch.offset ps d x = d ∨ ∃ q ∈ ps, Op.lookupswitch.offset ps d x = q.2
  | [] => Or.inl (by simp [Op.lookupswitch.offset])
  | (a, o) :: ps => by
    rw [Op.lookupswitch.offset_cons]
    split
    · exact Or.inr ⟨(a, o), List.mem_cons_self, rfl⟩
    · rcases zoff_in d x ps with h | ⟨q, hq, h⟩
      · exact Or.inl h
      · exact Or.inr ⟨q, List.mem_cons_of_mem _ hq, h⟩
section ZJ
variable {p : Program} {l : Launch} {e : Env} {R : Room} {s : State} {m : MethodId} {args : Array Value} {below : List Frame} {meth : Method} {c : Code} {H : Heap} {locs : List Loc} {cells slots : Nat} {Q : State → Prop}
variable {L : Nat} {ad : Nat → Nat} {bb : ByteArray} {cn pc pc' : Nat} {ls : Array Slot} {st st' : List Value} {rt : Option FieldType}
theorem zargs_inr {np rc mi mx rk : Nat} {o : zO} (h : zargs L np rc mi mx rk st = some o) : ∃ x, o = .inr (.inr x) := by
  unfold zargs at h
  split at h
  · cases h; exact ⟨_, rfl⟩
  · cases h
theorem zif_W (hx : p.tables.exec = Jvm.exec) (hb : c.code = bb) {cc : ClassFile.Cond} {off : Int} {tgt : Nat} {x y : Int32} {rest : List Value} (hd : decode bb pc = .ok (.ifCond cc off, 3)) (ht : (pc : Int) + off = (tgt : Int))
    (k : W p l e R s m args below meth c H locs cells slots Q (F0 m (if zcmp cc x 0 = true then tgt else pc + 3) ls rest)) : W p l e R s m args below meth c H locs cells slots Q (F0 m pc ls (.int x :: rest)) := by
  cases cc
  · exact lv_if_eq hx hb hd ht (fun h => by rw [if_pos (by simpa [zcmp] using h)] at k; exact k) (fun h => by rw [if_neg (by simpa [zcmp] using h)] at k; exact k)
  · exact lv_if_ne hx hb hd ht (fun h => by rw [if_pos (by simpa [zcmp] using h)] at k; exact k) (fun h => by rw [if_neg (by simpa [zcmp] using h)] at k; exact k)
  · exact lv_if_lt hx hb hd ht (fun h => by rw [if_pos (by simpa [zcmp] using h)] at k; exact k) (fun h => by rw [if_neg (by simpa [zcmp] using h)] at k; exact k)
  · exact lv_if_ge hx hb hd ht (fun h => by rw [if_pos (by simpa [zcmp] using h)] at k; exact k) (fun h => by rw [if_neg (by simpa [zcmp] using h)] at k; exact k)
  · exact lv_if_gt hx hb hd ht (fun h => by rw [if_pos (by simpa [zcmp] using h)] at k; exact k) (fun h => by rw [if_neg (by simpa [zcmp] using h)] at k; exact k)
  · exact lv_if_le hx hb hd ht (fun h => by rw [if_pos (by simpa [zcmp] using h)] at k; exact k) (fun h => by rw [if_neg (by simpa [zcmp] using h)] at k; exact k)
theorem zicmp_W (hx : p.tables.exec = Jvm.exec) (hb : c.code = bb) {cc : ClassFile.Cond} {off : Int} {tgt : Nat} {x y : Int32} {rest : List Value} (hd : decode bb pc = .ok (.if_icmp cc off, 3)) (ht : (pc : Int) + off = (tgt : Int))
    (k : W p l e R s m args below meth c H locs cells slots Q (F0 m (if zcmp cc x y = true then tgt else pc + 3) ls rest)) : W p l e R s m args below meth c H locs cells slots Q (F0 m pc ls (.int y :: .int x :: rest)) := by
  cases cc
  · exact lv_icmp_eq hx hb hd ht (fun h => by rw [if_pos (by simpa [zcmp] using h)] at k; exact k) (fun h => by rw [if_neg (by simpa [zcmp] using h)] at k; exact k)
  · exact lv_icmp_ne hx hb hd ht (fun h => by rw [if_pos (by simpa [zcmp] using h)] at k; exact k) (fun h => by rw [if_neg (by simpa [zcmp] using h)] at k; exact k)
  · exact lv_icmp_lt hx hb hd ht (fun h => by rw [if_pos (by simpa [zcmp] using h)] at k; exact k) (fun h => by rw [if_neg (by simpa [zcmp] using h)] at k; exact k)
  · exact lv_icmp_ge hx hb hd ht (fun h => by rw [if_pos (by simpa [zcmp] using h)] at k; exact k) (fun h => by rw [if_neg (by simpa [zcmp] using h)] at k; exact k)
  · exact lv_icmp_gt hx hb hd ht (fun h => by rw [if_pos (by simpa [zcmp] using h)] at k; exact k) (fun h => by rw [if_neg (by simpa [zcmp] using h)] at k; exact k)
  · exact lv_icmp_le hx hb hd ht (fun h => by rw [if_pos (by simpa [zcmp] using h)] at k; exact k) (fun h => by rw [if_neg (by simpa [zcmp] using h)] at k; exact k)
theorem ztab_W (hx : p.tables.exec = Jvm.exec) (hb : c.code = bb) {d lo hi : Int} {offs : Array Int} {len : Nat} {x : Int32} {rest : List Value} (hd : decode bb pc = .ok (.tableswitch d lo hi offs, len)) (h2 : 0 ≤ (pc : Int) + d) (h3 : offs.toList.all (fun o => decide (0 ≤ (pc : Int) + o)) = true) (h4 : (offs.size : Int) = hi - lo + 1)
    (k : W p l e R s m args below meth c H locs cells slots Q (F0 m (ztsw pc d lo hi offs x) ls rest)) : W p l e R s m args below meth c H locs cells slots Q (F0 m pc ls (.int x :: rest)) := by
  by_cases ho : x.toInt < lo ∨ hi < x.toInt
  · unfold ztsw at k
    rw [if_pos ho] at k
    exact lv_tableOut hx hb hd ho (by omega) k
  · unfold ztsw at k
    rw [if_neg ho] at k
    have hlt : (x.toInt - lo).toNat < offs.size := by omega
    have hg : offs[(x.toInt - lo).toNat]? = some (offs[(x.toInt - lo).toNat]) := Array.getElem?_eq_getElem hlt
    rw [hg] at k
    have h5 := List.all_eq_true.mp h3 (offs[(x.toInt - lo).toNat]) (by simp)
    simp only [decide_eq_true_eq] at h5
    simp only [Option.getD_some] at k
    exact lv_tableIn hx hb hd (by omega) (by omega) hg (by omega) k
theorem zlook_W (hx : p.tables.exec = Jvm.exec) (hb : c.code = bb) {d : Int} {ps : Array (Int × Int)} {len : Nat} {x : Int32} {rest : List Value} (hd : decode bb pc = .ok (.lookupswitch d ps, len)) (h2 : 0 ≤ (pc : Int) + d) (h3 : ps.toList.all (fun o => decide (0 ≤ (pc : Int) + o.2)) = true) (h4 : (ps.toList.zip (ps.toList.drop 1)).all (fun (a, next) => a.1 < next.1) = true)
    (k : W p l e R s m args below meth c H locs cells slots Q (F0 m (zlsw pc d ps x) ls rest)) : W p l e R s m args below meth c H locs cells slots Q (F0 m pc ls (.int x :: rest)) := by
  unfold zlsw at k
  refine lv_lookup hx hb hd h4 rfl ?_ k
  rcases zoff_in d x.toInt ps.toList with h | ⟨q, hq, h⟩
  · rw [h]; omega
  · rw [h]
    have h5 := List.all_eq_true.mp h3 q hq
    simp only [decide_eq_true_eq] at h5
    omega
set_option maxHeartbeats 4000000 in
theorem zjump_W (hx : p.tables.exec = Jvm.exec) (hb : c.code = bb) {en : zE} (hd : decode bb pc = .ok (en.1, en.2.1 - pc)) (hok : zlenOk cn pc en = true) (hc : zctl L rt en st = some (.inl (pc', st')))
    (k : W p l e R s m args below meth c H locs cells slots Q (F0 m pc' ls (st'.map (zv ad)))) : W p l e R s m args below meth c H locs cells slots Q (F0 m pc ls (st.map (zv ad))) := by
  obtain ⟨ins, nx, v, ax⟩ := en
  dsimp only at hd
  have hbA : c.code = bb ∧ True := ⟨hb, trivial⟩
  clear hb
  unfold zctl at hc
  split at hc
  all_goals (try dsimp only at hc)
  case h_1 =>
    subst_vars
    cases hc
    simp only [zlenOk, Bool.and_eq_true, decide_eq_true_eq] at hok
    obtain ⟨h1, h2⟩ := hok
    obtain ⟨hd9, rfl⟩ := zdk h1 hd
    exact lv_goto hx hbA.1 hd9 h2 k
  case h_2 =>
    subst_vars
    cases hc
    simp only [zlenOk, Bool.and_eq_true, decide_eq_true_eq] at hok
    obtain ⟨h1, h2⟩ := hok
    obtain ⟨hd9, rfl⟩ := zdk h1 hd
    exact zif_W (y := 0) hx hbA.1 hd9 h2 k
  case h_3 =>
    subst_vars
    cases hc
    simp only [zlenOk, Bool.and_eq_true, decide_eq_true_eq] at hok
    obtain ⟨h1, h2⟩ := hok
    obtain ⟨hd9, rfl⟩ := zdk h1 hd
    exact zicmp_W hx hbA.1 hd9 h2 k
  case h_4 =>
    subst_vars
    cases hc
    simp only [zlenOk, Bool.and_eq_true, decide_eq_true_eq] at hok
    obtain ⟨⟨⟨h1, h2⟩, h3⟩, h4⟩ := hok
    have e1 := zbq h1
    subst e1
    exact ztab_W hx hbA.1 hd h2 h3 h4 k
  case h_5 =>
    subst_vars
    cases hc
    simp only [zlenOk, Bool.and_eq_true, decide_eq_true_eq] at hok
    obtain ⟨⟨⟨h1, h2⟩, h3⟩, h4⟩ := hok
    have e1 := zbq h1
    subst e1
    exact zlook_W hx hbA.1 hd h2 h3 h4 k
  case h_6 =>
    split at hc <;> cases hc
  case h_7 => cases hc
  case h_8 => cases hc
  case h_9 =>
    obtain ⟨x, hx'⟩ := zargs_inr hc
    cases hx'
  case h_10 =>
    obtain ⟨x, hx'⟩ := zargs_inr hc
    cases hx'
  case h_11 => cases hc
end ZJ
