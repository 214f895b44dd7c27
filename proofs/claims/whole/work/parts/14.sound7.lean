section ZN
variable {p : Program} {l : Launch} {e : Env} {R : Room} {s : State} {m : MethodId} {args : Array Value} {below : List Frame} {meth : Method} {c : Code} {H : Heap} {locs : List Loc} {cells slots : Nat} {Q : State → Prop}
variable {L : Nat} {ad : Nat → Nat} {D : va_G} {cA : FieldType → ClassId} {A : Nat → Prop} {M0 M M' : zM} {bb : ByteArray} {cn mx pc : Nat} {ls : Array Slot} {st st' : List Value}
theorem zret_ok {rt : Option FieldType} {en : zE} {v : Option Value} (hd : decode bb pc = .ok (en.1, en.2.1 - pc)) (hok : zlenOk cn pc en = true) (hrt : zrtOk rt en = true) (hc : zctl L rt en st = some (.inr (.inl v))) : zretOk bb rt pc v ∧ st = v.toList := by
  obtain ⟨ins, nx, w, ax⟩ := en
  dsimp only at hd
  unfold zctl at hc
  split at hc
  all_goals (try dsimp only at hc)
  case h_6 =>
    subst_vars
    split at hc
    case isFalse => cases hc
    case isTrue hf =>
      cases hc
      obtain ⟨hd9, -⟩ := zd1 hok hd
      refine ⟨⟨hd9, ?_⟩, rfl⟩
      unfold zfit at hf
      split at hf
      · exact ⟨_, rfl, rfl⟩
      · exact ⟨_, rfl, by simpa using hf⟩
      · cases hf
  case h_7 =>
    subst_vars
    cases hc
    obtain ⟨hd9, -⟩ := zd1 hok hd
    exact ⟨⟨hd9, by simpa [zrtOk] using hrt⟩, rfl⟩
  case h_8 =>
    subst_vars
    cases hc
    obtain ⟨hd9, -⟩ := zd1 hok hd
    exact ⟨⟨hd9, by simpa [zrtOk] using hrt⟩, rfl⟩
  case h_9 =>
    obtain ⟨x, hx'⟩ := zargs_inr hc
    cases hx'
  case h_10 =>
    obtain ⟨x, hx'⟩ := zargs_inr hc
    cases hx'
  all_goals cases hc
theorem zargs_ok {np rc mi mx rk mi' mx' rk' : Nat} {as rest : List Value} (h : zargs L np rc mi mx rk st = some (.inr (.inr (mi', as, rest, mx', rk')))) : mi' = mi ∧ mx' = mx ∧ rk' = rk ∧ as.length = np ∧ (zslots as).length ≤ mx ∧ (rest.map fun v => v.category).sum ≤ 8 ∧ zrcOk L rc as = true ∧ st = as.reverse ++ rest := by
  unfold zargs at h
  split at h
  case isFalse => cases h
  case isTrue hq =>
  cases h
  simp only [Bool.and_eq_true, Nat.ble_eq] at hq
  obtain ⟨h1, h2, h3, h4⟩ := hq
  refine ⟨rfl, rfl, rfl, ?_, h2, h3, h4, ?_⟩
  · simp; omega
  · simp
end ZN
section ZV
variable {p : Program} {l : Launch} {e : Env} {R : Room} {s : State} {m : MethodId} {args : Array Value} {below : List Frame} {meth : Method} {c : Code} {H : Heap} {locs : List Loc} {cells slots : Nat} {Q : State → Prop}
variable {L : Nat} {ad : Nat → Nat} {D : va_G} {cA : FieldType → ClassId} {A : Nat → Prop} {M0 M M1 : zM} {bb : ByteArray} {cn mx pc : Nat} {ls : Array Slot} {q' : zMe} {as rest : List Value} {v1 : Option Value} {i : Nat}
theorem zgi_V (hq : zMok false q') (hlink : Cond.methodLink (zon cn) i q'.2.1 ∈ zgood) : GoodIn zgood (wsV (zon cn) i q'.2.1.cls q'.2.1 (zwm q')) := by
  obtain ⟨hcls, hpl, hmh, hps, hini, hcd, hk⟩ := hq
  refine zGoodIn fun w hw => ?_
  unfold wsV zwm at hw
  rcases List.mem_append.mp hw with h | h
  · simp only [List.mem_cons, List.not_mem_nil, or_false] at h
    rcases h with rfl | rfl | rfl | rfl
    · exact hlink
    · exact hk.1
    · exact hk.2.1
    · exact hini
  · rcases List.mem_cons.mp h with rfl | h
    · exact hcd
    · exact h
theorem zgi_S (hq : zMok true q') (hlink : Cond.methodLink (zon cn) i q'.2.1 ∈ zgood) : GoodIn zgood (va_wsS (zon cn) i q'.2.1 (zwm q')) := by
  obtain ⟨hcls, hpl, hmh, hps, hini, hcd, hk⟩ := hq
  refine zGoodIn fun w hw => ?_
  unfold va_wsS zwm at hw
  rcases List.mem_append.mp hw with h | h
  · simp only [List.mem_cons, List.not_mem_nil, or_false] at h
    rcases h with rfl | rfl | rfl
    · exact hlink
    · exact hk
    · exact hini
  · rcases List.mem_cons.mp h with rfl | h
    · exact hcd
    · exact h
theorem zgi_N {b : Bool} (hq : zMok b q') : GoodIn zgood (zwm q') := by
  refine zGoodIn fun w hw => ?_
  rcases List.mem_cons.mp hw with rfl | h
  · exact hq.2.2.2.2.2.1
  · exact h
set_option maxHeartbeats 4000000 in
theorem zcallV_W (hx : p.tables.exec = Jvm.exec) (hb : c.code = bb) (hml : c.maxLocals = mx) (hown : s.vm.findClass (zon cn) = some m.cls) (hts : ∀ w ∈ zgood, w.before args s = true) (hG : zG L ad D cA A M0 s) (hP : va_P D vwCl (zws L ad cA M) H) (hS : va_S A s.heap H locs)
    (hq : zMok false q') (hlink : Cond.methodLink (zon cn) i q'.2.1 ∈ zgood) (hMet : Met l q'.2.1 (zwm q') (zrm q') (zPc L ad D cA A M0 as M) (zQc L ad D cA A M0 v1 M1) 0 0 A) (hnp : as.length = q'.2.2.2.2.2.1) (hrc : zrcOk L (q'.1 + 1) as = true) (hcat : (rest.map fun v => v.category).sum ≤ 8)
    (hfr : q'.2.2.2.2.2.2.1 + 1 ≤ R.frames) (hlo : 8 + (q'.2.2.2.1 + 11) + q'.2.2.2.2.2.2.2 ≤ R.locals) (hsz : ls.size = mx) (hce : cells ≤ R.cells) (hsl : slots ≤ R.slots) (hd : decode bb pc = .ok (.invokevirtual i, 3))
    (kk : ∀ (H1 : Heap) (locs1 : List Loc), va_P D vwCl (zws L ad cA M1) H1 → va_S A s.heap H1 locs1 → (∀ i, zNW ≤ i → M1 i = M0 i) → W p l e R s m args below meth c H1 locs1 cells slots Q (F0 m (pc + 3) ls ((v1.map (zv ad)).toList ++ rest.map (zv ad)))) : W p l e R s m args below meth c H locs cells slots Q (F0 m pc ls ((as.reverse ++ rest).map (zv ad))) := by
  have hT := zgi_V (cn := cn) (i := i) hq hlink
  obtain ⟨hcls, hpl, hmh, hps, hini, hcd, hk⟩ := hq
  obtain ⟨-, -, h1np, hcl⟩ := hk
  rcases as with _ | ⟨a0, As⟩
  · simp [zrcOk] at hrc
  · cases a0 <;> simp only [zrcOk] at hrc <;> try cases hrc
    case ref b =>
    have hrc := Nat.eq_of_beq_eq_true hrc
    have hcat' : ((rest.map (zv ad)).map fun v => v.category) = rest.map fun v => v.category := by
      rw [List.map_map]
      exact List.map_congr_left (fun v _ => zv_cat ad v)
    have hcl' : (q'.1 = 11 ∧ q'.2.1.cls = "java/lang/String") ∨ (q'.1 < 11 ∧ (vwCl[q'.1]?.map (fun z => z.1)) = some q'.2.1.cls) := by
      rcases hcl with h | h
      · exact Or.inl ⟨h, by rw [hcls, h]; rfl⟩
      · exact Or.inr h
    have hlen : (As.map (zv ad)).length = q'.2.2.2.2.2.1 - 1 := by simp only [List.length_map, List.length_cons] at hnp ⊢; omega
    have hstk : (F0 m pc ls (((Value.ref b :: As).reverse ++ rest).map (zv ad))).stack = (As.map (zv ad)).reverse ++ .ref (ad b) :: rest.map (zv ad) := by
      show (((Value.ref b :: As).reverse ++ rest).map (zv ad)) = _
      simp [zv]
    exact zrunW (va_runV (As := As.map (zv ad)) (rest := rest.map (zv ad)) ⟨hx, hb, hml, hown, hts⟩ hMet (cwV (q'.2.2.2.2.2.1 - 1) hts hT rfl rfl rfl ⟨rfl, hmh.1, hmh.2, by simpa using hps⟩ ⟨hfr, hlo⟩) ⟨zblind, zrecv_W hG hP hS hrc hcl', fun U hU hW => zpc_U (as := Value.ref b :: As) hG hP hS U hU hW⟩ rfl hlen hsz hstk (lv_room (by rw [hcat']; exact hcat)) hd ⟨hce, hsl⟩) hS kk
set_option maxHeartbeats 4000000 in
theorem zcallS_W (hx : p.tables.exec = Jvm.exec) (hb : c.code = bb) (hml : c.maxLocals = mx) (hown : s.vm.findClass (zon cn) = some m.cls) (hts : ∀ w ∈ zgood, w.before args s = true) (hG : zG L ad D cA A M0 s) (hP : va_P D vwCl (zws L ad cA M) H) (hS : va_S A s.heap H locs)
    (hq : zMok true q') (hlink : Cond.methodLink (zon cn) i q'.2.1 ∈ zgood ∨ Cond.methodLinkNest (zon cn) i q'.2.1 zHost ∈ znest) (hMet : Met l q'.2.1 (zwm q') (zrm q') (zPc L ad D cA A M0 as M) (zQc L ad D cA A M0 v1 M1) 0 0 A) (hnp : as.length = q'.2.2.2.2.2.1) (hcat : (rest.map fun v => v.category).sum ≤ 8)
    (hfr : q'.2.2.2.2.2.2.1 + 1 ≤ R.frames) (hlo : 8 + (q'.2.2.2.1 + 11) + q'.2.2.2.2.2.2.2 ≤ R.locals) (hsz : ls.size = mx) (hce : cells ≤ R.cells) (hsl : slots ≤ R.slots) (hd : decode bb pc = .ok (.invokestatic i, 3))
    (kk : ∀ (H1 : Heap) (locs1 : List Loc), va_P D vwCl (zws L ad cA M1) H1 → va_S A s.heap H1 locs1 → (∀ i, zNW ≤ i → M1 i = M0 i) → W p l e R s m args below meth c H1 locs1 cells slots Q (F0 m (pc + 3) ls ((v1.map (zv ad)).toList ++ rest.map (zv ad)))) : W p l e R s m args below meth c H locs cells slots Q (F0 m pc ls ((as.reverse ++ rest).map (zv ad))) := by
  have hgN := zgi_N hq
  have hgS := fun h => zgi_S (cn := cn) (i := i) hq h
  obtain ⟨hcls, hpl, hmh, hps, hini, hcd, hk⟩ := hq
  have hcat' : ((rest.map (zv ad)).map fun v => v.category) = rest.map fun v => v.category := by
    rw [List.map_map]
    exact List.map_congr_left (fun v _ => zv_cat ad v)
  have hlen : (as.map (zv ad)).length = q'.2.2.2.2.2.1 := by rw [List.length_map]; exact hnp
  have hstk : (F0 m pc ls ((as.reverse ++ rest).map (zv ad))).stack = (as.map (zv ad)).reverse ++ rest.map (zv ad) := by
    show ((as.reverse ++ rest).map (zv ad)) = _
    simp
  rcases hlink with hlink | hlink
  · exact zrunW (va_runS (As := as.map (zv ad)) (rest := rest.map (zv ad)) ⟨hx, hb, hml, hown, hts⟩ hMet (va_cwS q'.2.2.2.2.2.1 hts (hgS hlink) rfl rfl rfl ⟨hmh.1, hmh.2, by simpa using hps⟩ ⟨hfr, hlo⟩) ⟨zblind, fun U hU hW => zpc_U (as := as) hG hP hS U hU hW⟩ rfl hlen hsz hstk (lv_room (by rw [hcat']; exact hcat)) hd ⟨hce, hsl⟩) hS kk
  · exact zrunW (va_runSN (As := as.map (zv ad)) (rest := rest.map (zv ad)) ⟨hx, hb, hml, hown, hts⟩ hMet ⟨va_cnB q'.2.2.2.2.2.1 hts hgN rfl rfl rfl (hG.2.1 _ hlink) (hts _ hini) ⟨hmh.1, hmh.2, by simpa using hps⟩ ⟨hfr, hlo⟩, hts _ hk, trivial⟩ ⟨zblind, fun U hU hW => zpc_U (as := as) hG hP hS U hU hW⟩ rfl hlen hsz hstk (lv_room (by rw [hcat']; exact hcat)) hd ⟨hce, hsl⟩) hS kk
end ZV
def zCode : Prop := ∀ (mi : Nat) (q : zMe), zmeth[mi]? = some q → (zcode mi).all (zokE q) = true
section ZA
variable {L : Nat} {ad : Nat → Nat} {D : va_G} {cA : FieldType → ClassId} {A : Nat → Prop} {M0 : zM}
/-- what a frame of a method stands on -/
def zFix (l : Launch) (L : Nat) (ad : Nat → Nat) (D : va_G) (cA : FieldType → ClassId) (A : Nat → Prop) (M0 : zM) (q : zMe) (p : Program) (R : Room) (s : State) (m : MethodId) (args : Array Value) (c : Code) (cells slots : Nat) : Prop :=
  p.tables.exec = Jvm.exec ∧ c.code = q.2.2.1 ∧ c.maxLocals = q.2.2.2.1 ∧ s.vm.findClass (zon q.1) = some m.cls ∧ (∀ w ∈ zgood, w.before args s = true) ∧ zG L ad D cA A M0 s ∧ q.2.2.2.2.2.2.1 ≤ R.frames ∧ q.2.2.2.2.2.2.2 ≤ R.locals ∧ cells ≤ R.cells ∧ slots ≤ R.slots
def zGoal (l : Launch) (L : Nat) (ad : Nat → Nat) (D : va_G) (cA : FieldType → ClassId) (A : Nat → Prop) (M0 : zM) (n : Nat) : Prop :=
  ∀ (mi : Nat) (q : zMe) (pc : Nat) (lc : zLo) (st : List Value) (M : zM) (v : Option Value) (M' : zM), zmeth[mi]? = some q → zrun L n mi pc lc st M = some (v, M') →
    ∀ {p : Program} {e : Env} {R : Room} {s : State} {m : MethodId} {args : Array Value} {below : List Frame} {meth : Method} {c : Code} {H : Heap} {locs : List Loc} {cells slots : Nat} {Q : State → Prop} {ls : Array Slot},
      zFix l L ad D cA A M0 q p R s m args c cells slots → zLs ad ls q.2.2.2.1 lc → va_P D vwCl (zws L ad cA M) H → va_S A s.heap H locs → (∀ i, zNW ≤ i → M i = M0 i) →
      (∀ (pc' : Nat) (ls' : Array Slot) (H' : Heap) (locs' : List Loc), zretOk q.2.2.1 q.2.2.2.2.1 pc' v → va_P D vwCl (zws L ad cA M') H' → va_S A s.heap H' locs' → (∀ i, zNW ≤ i → M' i = M0 i) → W p l e R s m args below meth c H' locs' cells slots Q (F0 m pc' ls' (v.toList.map (zv ad)))) →
      W p l e R s m args below meth c H locs cells slots Q (F0 m pc ls (st.map (zv ad)))
set_option maxHeartbeats 4000000 in
theorem zmet_n (l : Launch) {n : Nat} (ih : zGoal l L ad D cA A M0 n) {mi : Nat} {q : zMe} {b : Bool} (hmi : zmeth[mi]? = some q) (hq : zMok b q) {as : List Value} {M M' : zM} {v : Option Value} (has : (zslots as).length ≤ q.2.2.2.1) (hM : ∀ i, zNW ≤ i → M i = M0 i) (hr : zrun L n mi 0 (zini q.2.2.2.1 as) [] M = some (v, M')) :
    Met l q.2.1 (zwm q) (zrm q) (zPc L ad D cA A M0 as M) (zQc L ad D cA A M0 v M') 0 0 A :=
  zmet_of l L ad D cA A M0 hq has hM (fun h1 h2 h3 h4 h5 h6 h7 h8 h9 h10 h11 h12 h13 h14 => ih mi q 0 _ [] M v M' hmi hr ⟨h1, h2, h3, h4, h5, h6, h7, h8, h9, h10⟩ h11 h12 h13 hM h14)
set_option maxHeartbeats 8000000 in
theorem zgoal (hcode : zCode) (hinj : ∀ i j, i < zN L → j < zN L → ad i = ad j → i = j) (hAd : ∀ i, i < zN L → A (ad i)) (l : Launch) : ∀ n, zGoal l L ad D cA A M0 n := by
  intro n
  induction n with
  | zero => intro mi q pc lc st M v M' _ h; simp [zrun] at h
  | succ n ih =>
    intro mi q pc lc st M v M' hmi h p e R s m args below meth c H locs cells slots Q ls hF hl hP hS hM hret
    obtain ⟨hx, hb, hml, hown, hts, hG, hfr, hlo, hce, hsl⟩ := id hF
    have hzr : zret mi = q.2.2.2.2.1 := by
      unfold zret
      rw [znth_eq, hmi]
    simp only [zrun] at h
    cases hf : zfetch (zcode mi) pc with
    | none => simp [hf] at h
    | some en =>
      simp only [hf] at h
      have hok := List.all_eq_true.mp (hcode mi q hmi) _ (zfetch_mem hf)
      simp only [zokE, Bool.and_eq_true, decide_eq_true_eq] at hok
      obtain ⟨⟨⟨⟨hd, hlen⟩, hroom⟩, hst⟩, hrt⟩ := hok
      cases hs : zs1 L en lc st M with
      | some t =>
        simp only [hs] at h
        exact zs1_sound hx hb hown hts hG hinj hAd hd hlen hl hP hS hM hs hst (fun ls' H' locs' q1 q2 q3 q4 => ih mi q _ _ _ _ v M' hmi h hF q1 q2 q3 q4 hret)
      | none =>
        simp only [hs] at h
        cases hc : zctl L (zret mi) en st with
        | none => simp [hc] at h
        | some o =>
          simp only [hc] at h
          rw [hzr] at hc
          rcases o with t | w | t
          · exact zjump_W hx hb hd hlen hc (ih mi q _ _ _ _ v M' hmi h hF hl hP hS hM hret)
          · cases h
            obtain ⟨h1, h2⟩ := zret_ok hd hlen hrt hc
            subst h2
            exact hret pc ls H locs h1 hP hS hM
          · obtain ⟨mi', as, rest, mx', rk⟩ := t
            dsimp only at h
            cases hr : zrun L n mi' 0 (zini mx' as) [] M with
            | none => simp [hr] at h
            | some r =>
              obtain ⟨v1, M1⟩ := r
              simp only [hr] at h
              cases hp : zpush rk v1 rest with
              | none => simp [hp] at h
              | some st' =>
                simp only [hp] at h
                have next : ∀ (H1 : Heap) (locs1 : List Loc), va_P D vwCl (zws L ad cA M1) H1 → va_S A s.heap H1 locs1 → (∀ i, zNW ≤ i → M1 i = M0 i) → en.2.1 = pc + 3 → W p l e R s m args below meth c H1 locs1 cells slots Q (F0 m (pc + 3) ls ((v1.map (zv ad)).toList ++ rest.map (zv ad))) := by
                  intro H1 locs1 q1 q2 q3 q4
                  rw [← zpush_map hp, ← q4]
                  exact ih mi q _ _ _ _ v M' hmi h hF hl q1 q2 q3 hret
                have hcat : ((rest.map (zv ad)).map fun v => v.category) = rest.map fun v => v.category := by
                  rw [List.map_map]
                  exact List.map_congr_left (fun v _ => zv_cat ad v)
                obtain ⟨ins, nx, vv, ax⟩ := en
                dsimp only at hd next
                have hbA : c.code = q.2.2.1 ∧ True := ⟨hb, trivial⟩
                have hmA : c.maxLocals = q.2.2.2.1 ∧ True := ⟨hml, trivial⟩
                unfold zctl at hc
                split at hc
                all_goals (try dsimp only at hc)
                case h_6 => split at hc <;> cases hc
                case h_9 =>
                  subst_vars
                  obtain ⟨e1, e2, e3, hnp, hsl2, hcat, hrc, hst0⟩ := zargs_ok hc
                  subst e1; subst e2; subst e3; subst hst0
                  simp only [zlenOk, Bool.and_eq_true, decide_eq_true_eq] at hlen
                  obtain ⟨h1, h2⟩ := hlen
                  obtain ⟨hd9, rfl⟩ := zdk h1 hd
                  obtain ⟨c', y, b', r', fr, lo, g1, g2, g3, g4, g5⟩ := zcp_ok _ _ h2
                  subst g4
                  simp only [zrooms, g1, Bool.and_eq_true, Nat.ble_eq] at hroom
                  exact zcallV_W hx hbA.1 hmA.1 hown hts hG hP hS g2 g5 (zmet_n l ih g1 g2 hsl2 hM hr) hnp hrc hcat (Nat.le_trans hroom.1 hfr) (Nat.le_trans hroom.2 hlo) hl.1 hce hsl hd9 (fun H1 locs1 q1 q2 q3 => next H1 locs1 q1 q2 q3 rfl)
                case h_10 =>
                  subst_vars
                  obtain ⟨e1, e2, e3, hnp, hsl2, hcat, hrc, hst0⟩ := zargs_ok hc
                  subst e1; subst e2; subst e3; subst hst0
                  simp only [zlenOk, Bool.and_eq_true, Bool.or_eq_true, decide_eq_true_eq] at hlen
                  obtain ⟨h1, h2⟩ := hlen
                  obtain ⟨hd9, rfl⟩ := zdk h1 hd
                  rcases h2 with h2 | h2
                  · obtain ⟨c', y, b', r', fr, lo, g1, g2, g3, g4, g5⟩ := zcp_ok _ _ h2
                    simp only [zrooms, g1, Bool.and_eq_true, Nat.ble_eq] at hroom
                    exact zcallS_W hx hbA.1 hmA.1 hown hts hG hP hS g2 (Or.inl g5) (zmet_n l ih g1 g2 hsl2 hM hr) hnp hcat (Nat.le_trans hroom.1 hfr) (Nat.le_trans hroom.2 hlo) hl.1 hce hsl hd9 (fun H1 locs1 q1 q2 q3 => next H1 locs1 q1 q2 q3 rfl)
                  · obtain ⟨c', y, b', r', fr, lo, g1, g2, g3, g4, g5⟩ := zcp_ok _ _ h2
                    simp only [zrooms, g1, Bool.and_eq_true, Nat.ble_eq] at hroom
                    exact zcallS_W hx hbA.1 hmA.1 hown hts hG hP hS g2 (Or.inr g5) (zmet_n l ih g1 g2 hsl2 hM hr) hnp hcat (Nat.le_trans hroom.1 hfr) (Nat.le_trans hroom.2 hlo) hl.1 hce hsl hd9 (fun H1 locs1 q1 q2 q3 => next H1 locs1 q1 q2 q3 rfl)
                all_goals cases hc
end ZA
