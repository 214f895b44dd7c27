theorem zgd_zcX9 : GoodIn zgood (.code yX9_init prog_1_method_1_code 1 none :: zgood) := zGoodIn fun w hw => by
  rcases List.mem_cons.mp hw with rfl | h
  · exact (zw1 24 rfl rfl)
  · exact h
theorem zgd_zcX10 : GoodIn zgood (.code yX10_init prog_12_method_1_code 2 none :: zgood) := zGoodIn fun w hw => by
  rcases List.mem_cons.mp hw with rfl | h
  · exact (zw5 21 rfl rfl)
  · exact h
set_option maxHeartbeats 16000000 in
set_option maxRecDepth 100000 in
theorem whole_start0 (hcode : zCode) {p : Program} {e : Env} {s : State} {m : MethodId} {below : List Frame} {meth : Method} {c : Code} (l : Launch) {b L : Nat} {xs : Nat → Int32} (hL : L ≤ 384) (C0 : lw_At p s m meth c b L xs) : W p l e room_1 s m #[Value.ref b] below meth c s.heap [] 0 0 (lw_Z below #[Value.ref b] s) (entryFrame m ([Value.ref b] : List Value).toArray 4) := by
  obtain ⟨hx, hb, hr, hml, hown, hts, hX, hbl, hlocks, hgv⟩ := id C0
  have hz : ∀ w ∈ zgood, w.before #[Value.ref b] s = true := fun w h => hts w (List.mem_filter.mp h).1
  obtain ⟨adR, D, cA, hb62, hG⟩ := z_begin hts hX hbl hgv
  obtain ⟨A, hAe⟩ : ∃ A : Nat → Prop, A = fun q : Nat => s.heap.size ≤ q := ⟨_, rfl⟩
  rw [← hAe] at hG
  have hA : ∀ q : Nat, s.heap.size ≤ q → A q := fun q h => by rw [hAe]; exact h
  have hA2 : ∀ q : Nat, A q → s.heap.size ≤ q := fun q h => by rw [hAe] at h; exact h
  have hro := zM0_ro xs
  generalize zM0 xs = M0 at hG hro
  have hK := hG.1
  have hS : va_S A s.heap s.heap [] := va_S.rf
  have hP : va_P D vwCl [] s.heap := fun k q h => by simp at h
  have hD : va_D A [] := ⟨fun i j p q h => by simp at h, fun k q h => by simp at h⟩
  have hl := lv_entry ([.ref b]) (n := 4) (Nat.le_of_ble_eq_true rfl)
  rw [lg_entry_eq]
  generalize (lg_sl ([.ref b]) ++ List.replicate (4 - (lg_sl ([.ref b])).length) Slot.unset).toArray = ls at hl ⊢
  have hl : lv_has ls 4 [(0, .ref b)] := hl
  refine va_new (ci := 9) (fs := [.null, .null, .null, .null, .null, .null, .null, .null, .null, .null, .null, .null, .null, .null, .null, .int 0]) (C := RX9) (T := TX9) (N := 16) hx hb hz zi_9 tyX9 tyX9_ok hown (hz (.classLink R_law 7 RX9) (zw1 20 rfl rfl)) (hz (.instantiable RX9 16) (zw1 21 rfl rfl)) (hz (.initialized RX9) (zw1 1 rfl rfl)) hK hP hD hS hA rfl zdf_9 (Nat.le_of_ble_eq_true rfl) (Nat.le_of_ble_eq_true rfl) (show decode code 0 = .ok (.new 7, 3) by decide +kernel) (fun q1 H hP hD hS => ?_)
  have hP : va_P D vwCl [(q1, .inr (9, [.null, .null, .null, .null, .null, .null, .null, .null, .null, .null, .null, .null, .null, .null, .null, .int 0]))] H := hP
  have hD : va_D A [(q1, .inr (9, [.null, .null, .null, .null, .null, .null, .null, .null, .null, .null, .null, .null, .null, .null, .null, .int 0]))] := hD
  refine W.widen (k := 1) (n := 16) (Nat.le_of_ble_eq_true rfl) (Nat.le_of_ble_eq_true rfl) ?_
  refine lv_dup hx hb (show decode code 3 = .ok (.dup, 1) by decide +kernel) rfl ?_
  have hAq : A q1 := hD.2 0 _ rfl
  refine va_callv (va_runI (As := []) (rest := [.ref q1]) ⟨hx, hb, hml, hown, hz⟩ (zcX9 hcode l D cA adR A M0 q1 H.size (fun q h => hA q (Nat.le_trans hS.1 h)) hAq hro.1) (cwI 0 hz zgd_zcX9 rfl rfl rfl (hz (.initialized RX9) (zw1 1 rfl rfl)) (hz (.methodLink R_law 9 yX9_init) (zw1 22 rfl rfl)) (hz (.instanceMethod yX9_init) (zw1 23 rfl rfl)) rfl ⟨by decide +kernel, by decide +kernel, by decide +kernel⟩ ⟨Nat.le_of_ble_eq_true rfl, Nat.le_of_ble_eq_true rfl⟩) ⟨fun a U g mk q => by obtain ⟨y0, y1, yP, yG⟩ := q; exact ⟨y0, y1, yP, zG.same (s := U) rfl rfl yG⟩, fun U hU hW => ⟨rfl, by rw [hU], by rw [hU]; exact hP, (zG_early hG).warm hW (fun a h1 h2 => by rw [hU]; exact hS.2.1 a h1 h2)⟩⟩ rfl rfl hl.1 rfl (lv_room (Nat.le_of_ble_eq_true rfl)) (show decode code 4 = .ok (.invokespecial 9, 3) by decide +kernel) ⟨Nat.le_of_ble_eq_true rfl, Nat.le_of_ble_eq_true rfl⟩) hS (fun q _ h => h) (fun q h => h) (fun u t H1 locs ht hvm hw hB hz1 hk1 hS => ?_)
  obtain ⟨ad0, P, C⟩ := u
  obtain ⟨w1, w2, w3, w4, w5, w6, w7, w8⟩ := hw
  dsimp only at w1 w2 w3 w4 w5 w6 w8
  have hP : va_P D vwCl (zws 0 ad0 cA C) H1 := by rw [← ht]; exact hB
  clear hB ht hk1 hz1 hvm
  have hD : va_D A (zws 0 ad0 cA C) := zD (L := 0) (ad := ad0) w2 w3 C
  refine W.widen (k := 48) (n := 24972) (Nat.le_of_ble_eq_true rfl) (Nat.le_of_ble_eq_true rfl) ?_
  refine lv_astore_n (lv' := [(1, .ref q1), (0, .ref b)]) hx hb (show decode code 7 = .ok (.astore_n 1, 1) by decide +kernel) rfl hl (by decide) rfl (fun ls hl => ?_)
  refine va_new (ci := 10) (fs := [.null, .null, .null, .int 0, .null, .null, .int 0, .null, .int 0, .null, .int 0, .int 0, .null, .null, .null, .null, .null, .null]) (C := RX10) (T := TX10) (N := 18) hx hb hz zi_10 tyX10 tyX10_ok hown (hz (.classLink R_law 10 RX10) (zw5 17 rfl rfl)) (hz (.instantiable RX10 18) (zw5 18 rfl rfl)) (hz (.initialized RX10) (zw1 13 rfl rfl)) hK hP hD hS hA rfl zdf_10 (Nat.le_of_ble_eq_true rfl) (Nat.le_of_ble_eq_true rfl) (show decode code 8 = .ok (.new 10, 3) by decide +kernel) (fun q2 H hP hD hS => ?_)
  have hlen : (zws 0 ad0 cA C).length = 48 := zws_len
  have hP2 : va_P D vwCl [(q2, .inr (10, [.null, .null, .null, .int 0, .null, .null, .int 0, .null, .int 0, .null, .int 0, .int 0, .null, .null, .null, .null, .null, .null]))] H := fun k q hk => by
    have h1 := (List.getElem?_eq_some_iff.mp hk).1
    simp only [List.length_cons, List.length_nil] at h1
    obtain rfl : k = 0 := by omega
    exact hP 48 q (by rw [List.getElem?_append_right (by omega), hlen]; exact hk)
  have hP1 : va_P D vwCl (zws 0 ad0 cA C) H := fun k q hk => hP k q (by
    have h1 := (List.getElem?_eq_some_iff.mp hk).1
    rw [List.getElem?_append_left h1]; exact hk)
  have e48 : (zws 0 ad0 cA C ++ [(q2, .inr (10, [.null, .null, .null, .int 0, .null, .null, .int 0, .null, .int 0, .null, .int 0, .int 0, .null, .null, .null, .null, .null, .null]))])[48]? = some (q2, .inr (10, [.null, .null, .null, .int 0, .null, .null, .int 0, .null, .int 0, .null, .int 0, .int 0, .null, .null, .null, .null, .null, .null])) := by
    rw [List.getElem?_append_right (by omega), hlen]; rfl
  have hAq2 : A q2 := hD.2 48 _ e48
  have hdis : ∀ i, i < 48 → ad0 i ≠ q2 := fun i hi h => by
    have := hD.1 i 48 _ _ (by rw [List.getElem?_append_left (by omega)]; exact zws_get hi) e48 h
    omega
  clear hP hD
  refine W.widen (k := 49) (n := 24990) (Nat.le_of_ble_eq_true rfl) (Nat.le_of_ble_eq_true rfl) ?_
  refine lv_dup hx hb (show decode code 11 = .ok (.dup, 1) by decide +kernel) rfl ?_
  have hG2 : zG (L + 1) ad0 D cA A M0 s := zG_ad (fun i hi => w1 i (by omega)) hG
  refine va_callv (va_runI (As := []) (rest := [.ref q2]) ⟨hx, hb, hml, hown, hz⟩ (zcX10 hcode l L D cA ad0 A M0 C q2 H.size (fun q h => hA q (Nat.le_trans hS.1 h)) hAq2 w3 hdis w2) (cwI 0 hz zgd_zcX10 rfl rfl rfl (hz (.initialized RX10) (zw1 13 rfl rfl)) (hz (.methodLink R_law 12 yX10_init) (zw5 19 rfl rfl)) (hz (.instanceMethod yX10_init) (zw5 20 rfl rfl)) rfl ⟨by decide +kernel, by decide +kernel, by decide +kernel⟩ ⟨Nat.le_of_ble_eq_true rfl, Nat.le_of_ble_eq_true rfl⟩) ⟨fun a U g mk q => by obtain ⟨y0, y1, yP, yP2, yG⟩ := q; exact ⟨y0, y1, yP, yP2, zG.same (s := U) rfl rfl yG⟩, fun U hU hW => ⟨rfl, by rw [hU], by rw [hU]; exact hP2, by rw [hU]; exact hP1, hG2.warm hW (fun a h1 h2 => by rw [hU]; exact hS.2.1 a h1 h2)⟩⟩ rfl rfl hl.1 rfl (lv_room (Nat.le_of_ble_eq_true rfl)) (show decode code 12 = .ok (.invokespecial 12, 3) by decide +kernel) ⟨Nat.le_of_ble_eq_true rfl, Nat.le_of_ble_eq_true rfl⟩) hS (fun q _ h => h) (fun q h => h) (fun u t H1 locs ht hvm hw hB hz1 hk1 hS => ?_)
  obtain ⟨ad, Q0, F⟩ := u
  obtain ⟨v1, v2, v3, v4, v5, v6, v7, v8⟩ := hw
  dsimp only at v1 v2 v3 v4 v5 v6 v7 v8
  have hP : va_P D vwCl (zws (L + 1) ad cA F) H1 := by rw [← ht]; exact hB
  clear hB ht hk1 hz1 hvm
  refine W.widen (k := 62) (n := 171070) (Nat.le_of_ble_eq_true rfl) (Nat.le_of_ble_eq_true rfl) ?_
  refine lv_astore_n (lv' := [(2, .ref q2), (1, .ref q1), (0, .ref b)]) hx hb (show decode code 15 = .ok (.astore_n 2, 1) by decide +kernel) rfl hl (by decide) rfl (fun ls hl => ?_)
  refine lv_iconst (v := 0) hx hb (show decode code 16 = .ok (.iconst 0, 1) by decide +kernel) (by decide) ?_
  refine lv_istore_n (lv' := [(3, .int 0), (2, .ref q2), (1, .ref q1), (0, .ref b)]) hx hb (show decode code 17 = .ok (.istore_n 3, 1) by decide +kernel) rfl hl (by decide) rfl (fun ls hl => ?_)
  have hRel : zRel F := z_both w4 w6 w7 (by rw [w5 23 (by omega)]; rfl) ⟨by rw [w5 43 (by omega)]; rfl, by rw [w5 43 (by omega)]; rfl⟩ ⟨by rw [w5 45 (by omega)]; rfl, by rw [w5 45 (by omega)]; rfl, by rw [w5 45 (by omega)]; rfl⟩ v4 v6 (fun i hi => by rw [v5 i (by omega)]; unfold zP10; rw [if_pos hi]) ⟨by rw [v5 48 (by omega)]; rfl, by rw [v5 48 (by omega)]; rfl⟩
  obtain ⟨F', z1⟩ := z_law (L := L) hro hL L 0 (by omega) (by omega) F hRel v8
  obtain ⟨n, hn⟩ := zden_iff.mp z1
  have hG3 : zG (L + 1) ad D cA A M0 s := zG_ad (fun i hi => v1 i (Or.inr hi)) hG2
  refine zgoal (L := L + 1) (ad := ad) (cA := cA) (D := D) (A := A) (M0 := M0) hcode v2 v3 l n 231 zm_231 18 [some (.ref 62), some (.ref 0), some (.ref 48), some (.int (nI 0))] [] F (some (.int 1)) F' rfl hn ⟨hx, hb, hml, hown, hz, hG3, Nat.le_of_ble_eq_true rfl, Nat.le_of_ble_eq_true rfl, Nat.le_of_ble_eq_true rfl, Nat.le_of_ble_eq_true rfl⟩ ⟨hl.1, hl.2.1, fun i v h => ?_⟩ hP hS v8 (fun pc' ls' H' locs' hret hP hS hM => ?_)
  · match i, h with
    | 0, h =>
      cases h
      show ls[0]? = some (.val (.ref (ad 62)))
      rw [v1 62 (Or.inr (by omega)), w1 62 (by omega), hb62]
      exact lv_at hl 3 rfl
    | 1, h =>
      cases h
      show ls[1]? = some (.val (.ref (ad 0)))
      rw [v1 0 (Or.inl (by omega)), w8]
      exact lv_at hl 2 rfl
    | 2, h =>
      cases h
      show ls[2]? = some (.val (.ref (ad 48)))
      rw [v7]
      exact lv_at hl 1 rfl
    | 3, h =>
      cases h
      exact lv_at hl 0 rfl
    | i + 4, h => simp at h
  · refine va_forget (fun q hq => hA2 _ (hS.2.2 q hq)) ?_
    refine W.widen (k := 600000) (n := 7302250) (Nat.le_of_ble_eq_true rfl) (Nat.le_of_ble_eq_true rfl) ?_
    exact lw_ret hx hb hr hlocks hret.1
