theorem e200_15 (L : Nat) (o0 : Option Value) (o1 : Option Value) (o2 : Option Value) (o3 : Option Value) (o4 : Option Value) (o5 : Option Value) (o6 : Option Value) (o7 : Option Value) (o8 : Option Value) (o9 : Option Value) (o10 : Option Value) (o11 : Option Value) (o12 : Option Value) (M : zM) : zden (L + 1) 200 15 [o0, o1, o2, o3, o4, o5, o6, o7, o8, o9, o10, o11, o12] [] M =
  some (some (.long (-1)), M) :=
  (zd_w zf_200 7 1 rfl).trans
  (zd_rl zf_200 rfl)
theorem e200_27 (L : Nat) (v1 : Int32) (v2 : Int32) (v3 : Int64) (o4 : Option Value) (v5 : Int64) (o6 : Option Value) (v7 : Int32) (o8 : Option Value) (o9 : Option Value) (o10 : Option Value) (o11 : Option Value) (o12 : Option Value) (M : zM) : zden (L + 1) 200 27 [some (.ref 48), some (.int v1), some (.int v2), some (.long v3), o4, some (.long v5), o6, some (.int v7), o8, o9, o10, o11, o12] [] M =
  if v7 < (M 49 0) then (if zinb (44 + v1) 116 = true then (zden (L + 1) 200 27 [some (.ref 48), some (.int v1), some (.int v2), some (.long (v3 * ((10 - (M 49 (44 + v1).toNatClampNeg)).toInt64))), none, some (.long (v5 * 10)), none, some (.int (v7 + 1)), o8, o9, o10, o11, o12] [] M) else none) else (zden (L + 1) 200 75 [some (.ref 48), some (.int v1), some (.int v2), some (.long v3), o4, some (.long v5), (zkl o6), some (.long v3), none, some (.long v5), none, o11, o12] [] M) :=
  (zd_w zf_200 15 5 rfl).trans
  (zd_ge zf_200 rfl ((zd_w zf_200 39 4 rfl)) ((zd_w zf_200 21 7 rfl).trans
  (zd_ld zf_200 rfl rfl ((zd_w zf_200 29 9 rfl).trans
  (zd_goto zf_200 rfl (rfl))))))
theorem e200_75 (L : Nat) (o0 : Option Value) (o1 : Option Value) (v2 : Int32) (v3 : Int64) (o4 : Option Value) (v5 : Int64) (o6 : Option Value) (v7 : Int64) (o8 : Option Value) (v9 : Int64) (o10 : Option Value) (o11 : Option Value) (o12 : Option Value) (M : zM) : zden (L + 1) 200 75 [o0, o1, some (.int v2), some (.long v3), o4, some (.long v5), o6, some (.long v7), o8, some (.long v9), o10, o11, o12] [] M =
  if (lg_cmp v9 0) = 0 then (if v2 = 0 then (if v7 = 0 then none else (zden (L + 1) 200 116 [o0, o1, some (.int v2), some (.long v3), o4, some (.long v5), o6, some (.long v7), o8, some (.long v9), o10, o11, o12] [.long (v3 / v7)] M)) else (if v7 = 0 then none else (zden (L + 1) 200 116 [o0, o1, some (.int v2), some (.long v3), o4, some (.long v5), o6, some (.long v7), o8, some (.long v9), o10, o11, o12] [.long (v5 / v7)] M))) else (if v9 = 0 then none else (zden (L + 1) 200 75 [o0, o1, some (.int v2), some (.long v3), o4, some (.long v5), (zkl o6), some (.long v9), none, some (.long (v7 - v7 / v9 * v9)), none, some (.long (v7 - v7 / v9 * v9)), none] [] M)) :=
  (zd_w zf_200 43 3 rfl).trans
  (zd_eq0 zf_200 rfl ((zd_w zf_200 56 1 rfl).trans
  (zd_ne0 zf_200 rfl ((zd_w zf_200 62 2 rfl).trans
  (zd_ldiv zf_200 rfl (rfl))) ((zd_w zf_200 58 2 rfl).trans
  (zd_ldiv zf_200 rfl (zd_goto zf_200 rfl (rfl)))))) ((zd_w zf_200 47 2 rfl).trans
  (zd_lrem zf_200 rfl ((zd_w zf_200 50 5 rfl).trans
  (zd_goto zf_200 rfl (rfl))))))
theorem e200_116 (L : Nat) (o0 : Option Value) (o1 : Option Value) (o2 : Option Value) (o3 : Option Value) (o4 : Option Value) (o5 : Option Value) (o6 : Option Value) (o7 : Option Value) (o8 : Option Value) (o9 : Option Value) (o10 : Option Value) (o11 : Option Value) (o12 : Option Value) (s0 : Int64) (M : zM) : zden (L + 1) 200 116 [o0, o1, o2, o3, o4, o5, o6, o7, o8, o9, o10, o11, o12] [.long s0] M =
  some (some (.long s0), M) :=
  zd_rl zf_200 rfl
theorem e203_0 (L : Nat) (v1 : Int32) (v2 : Int32) (M : zM) : zden (L + 1) 203 0 [some (.ref 48), some (.int v1), some (.int v2)] [] M =
  zbI (zden (L + 1) 143 0 [some (.long v1.toInt64), none, some (.long 0), none, some (.long 9), none] [] M) (fun r1 M1 => if r1 = 0 then (zden (L + 1) 203 22 [some (.ref 48), some (.int v1), some (.int v2)] [.int (-1)] M1) else (zbI (zden (L + 1) 202 0 [some (.ref 48), some (.int v1), some (.int v2), none] [] M1) (fun r2 M2 => zden (L + 1) 203 22 [some (.ref 48), some (.int v1), some (.int v2)] [.int r2] M2))) :=
  (zd_w zf_203 0 4 rfl).trans
  (zd_ci zf_203 rfl rfl rfl rfl (fun r1 M1 => zd_eq0 zf_203 rfl ((zd_w zf_203 11 1 rfl)) ((zd_w zf_203 6 3 rfl).trans
  (zd_ci zf_203 rfl rfl rfl rfl (fun r2 M2 => zd_goto zf_203 rfl (rfl))))))
theorem e203_22 (L : Nat) (o0 : Option Value) (o1 : Option Value) (o2 : Option Value) (s0 : Int32) (M : zM) : zden (L + 1) 203 22 [o0, o1, o2] [.int s0] M =
  some (some (.int s0), M) :=
  zd_ri zf_203 rfl zr_203 rfl
theorem e204_0 (L : Nat)  (M : zM) : zden (L + 1) 204 0 [some (.ref 48), none, none] [] M =
  zden (L + 1) 204 4 [some (.ref 48), some (.int 1), some (.int 2)] [] M :=
  (zd_w zf_204 0 4 rfl)
theorem e204_4 (L : Nat) (v1 : Int32) (v2 : Int32) (M : zM) : zden (L + 1) 204 4 [some (.ref 48), some (.int v1), some (.int v2)] [] M =
  if v2 < 10 then (zbI (zden (L + 1) 201 0 [some (.ref 48), some (.int v2), none, none] [] M) (fun r1 M1 => zbI (zden (L + 1) 201 0 [some (.ref 48), some (.int v1), none, none] [] M1) (fun r2 M2 => if r2 < r1 then (zden (L + 1) 204 28 [some (.ref 48), some (.int v1), some (.int v2)] [.int v2] M2) else (zden (L + 1) 204 28 [some (.ref 48), some (.int v1), some (.int v2)] [.int v1] M2)))) else (some (some (.int v1), M)) :=
  (zd_w zf_204 4 2 rfl).trans
  (zd_ge zf_204 rfl ((zd_w zf_204 20 1 rfl).trans
  (zd_ri zf_204 rfl zr_204 rfl)) ((zd_w zf_204 7 2 rfl).trans
  (zd_ci zf_204 rfl rfl rfl rfl (fun r1 M1 => (zd_w zf_204 10 2 rfl).trans
  (zd_ci zf_204 rfl rfl rfl rfl (fun r2 M2 => zd_le zf_204 rfl ((zd_w zf_204 16 1 rfl)) ((zd_w zf_204 14 1 rfl).trans
  (zd_goto zf_204 rfl (rfl)))))))))
theorem e204_28 (L : Nat) (o1 : Option Value) (v2 : Int32) (s0 : Int32) (M : zM) : zden (L + 1) 204 28 [some (.ref 48), o1, some (.int v2)] [.int s0] M =
  zden (L + 1) 204 4 [some (.ref 48), some (.int s0), some (.int (v2 + 1))] [] M :=
  (zd_w zf_204 17 2 rfl).trans
  (zd_goto zf_204 rfl (rfl))
theorem e207_0 (L : Nat) (v1 : Int32) (v2 : Int32) (v3 : Int32) (M : zM) : zden (L + 1) 207 0 [some (.ref 48), some (.int v1), some (.int v2), some (.int v3)] [] M =
  zbI (zden (L + 1) 167 0 [some (.int v1)] [] M) (fun r1 M1 => if r1 = 0 then (zden (L + 1) 207 29 [some (.ref 48), some (.int v1), some (.int v2), some (.int v3)] [] M1) else (zbI (zden (L + 1) 143 0 [some (.long v2.toInt64), none, some (.long 0), none, some (.long 300), none] [] M1) (fun r2 M2 => if r2 = 0 then (zden (L + 1) 207 29 [some (.ref 48), some (.int v1), some (.int v2), some (.int v3)] [] M2) else (zbI (zden (L + 1) 206 0 [some (.ref 48), some (.int v1), some (.int v2), some (.int v3), none, none] [] M2) (fun r3 M3 => zden (L + 1) 207 30 [some (.ref 48), some (.int v1), some (.int v2), some (.int v3)] [.int r3] M3))))) :=
  (zd_w zf_207 0 1 rfl).trans
  (zd_ci zf_207 rfl rfl rfl rfl (fun r1 M1 => zd_eq0 zf_207 rfl (rfl) ((zd_w zf_207 3 4 rfl).trans
  (zd_ci zf_207 rfl rfl rfl rfl (fun r2 M2 => zd_eq0 zf_207 rfl (rfl) ((zd_w zf_207 9 4 rfl).trans
  (zd_ci zf_207 rfl rfl rfl rfl (fun r3 M3 => zd_goto zf_207 rfl (rfl)))))))))
theorem e207_29 (L : Nat) (o0 : Option Value) (o1 : Option Value) (o2 : Option Value) (o3 : Option Value) (M : zM) : zden (L + 1) 207 29 [o0, o1, o2, o3] [] M =
  zden (L + 1) 207 30 [o0, o1, o2, o3] [.int (-1)] M :=
  (zd_w zf_207 15 1 rfl)
theorem e207_30 (L : Nat) (o0 : Option Value) (o1 : Option Value) (o2 : Option Value) (o3 : Option Value) (s0 : Int32) (M : zM) : zden (L + 1) 207 30 [o0, o1, o2, o3] [.int s0] M =
  some (some (.int s0), M) :=
  zd_ri zf_207 rfl zr_207 rfl
theorem e208_0 (L : Nat) (v1 : Int32) (M : zM) : zden (L + 1) 208 0 [some (.ref 48), some (.int v1), none, none] [] M =
  zden (L + 1) 208 4 [some (.ref 48), some (.int v1), some (.int 0), some (.int 1)] [] M :=
  (zd_w zf_208 0 4 rfl)
theorem e208_4 (L : Nat) (v1 : Int32) (v2 : Int32) (v3 : Int32) (M : zM) : zden (L + 1) 208 4 [some (.ref 48), some (.int v1), some (.int v2), some (.int v3)] [] M =
  if v3 < 24 then (zbI (zden (L + 1) 205 0 [some (.ref 48), some (.int v3), some (.int 0), some (.int v1)] [] M) (fun r1 M1 => zbI (zden (L + 1) 205 0 [some (.ref 48), some (.int v2), some (.int 0), some (.int v1)] [] M1) (fun r2 M2 => if r2 < r1 then (zden (L + 1) 208 32 [some (.ref 48), some (.int v1), some (.int v2), some (.int v3)] [.int v3] M2) else (zden (L + 1) 208 32 [some (.ref 48), some (.int v1), some (.int v2), some (.int v3)] [.int v2] M2)))) else (some (some (.int v2), M)) :=
  (zd_w zf_208 4 2 rfl).trans
  (zd_ge zf_208 rfl ((zd_w zf_208 24 1 rfl).trans
  (zd_ri zf_208 rfl zr_208 rfl)) ((zd_w zf_208 7 4 rfl).trans
  (zd_ci zf_208 rfl rfl rfl rfl (fun r1 M1 => (zd_w zf_208 12 4 rfl).trans
  (zd_ci zf_208 rfl rfl rfl rfl (fun r2 M2 => zd_le zf_208 rfl ((zd_w zf_208 20 1 rfl)) ((zd_w zf_208 18 1 rfl).trans
  (zd_goto zf_208 rfl (rfl)))))))))
theorem e208_32 (L : Nat) (v1 : Int32) (o2 : Option Value) (v3 : Int32) (s0 : Int32) (M : zM) : zden (L + 1) 208 32 [some (.ref 48), some (.int v1), o2, some (.int v3)] [.int s0] M =
  zden (L + 1) 208 4 [some (.ref 48), some (.int v1), some (.int s0), some (.int (v3 + 1))] [] M :=
  (zd_w zf_208 21 2 rfl).trans
  (zd_goto zf_208 rfl (rfl))
theorem e210_0 (L : Nat) (v1 : Int32) (v2 : Int32) (v3 : Int32) (M : zM) : zden (L + 1) 210 0 [some (.ref 48), some (.int v1), some (.int v2), some (.int v3)] [] M =
  zbI (zden (L + 1) 167 0 [some (.int v1)] [] M) (fun r1 M1 => if r1 = 0 then (zden (L + 1) 210 29 [some (.ref 48), some (.int v1), some (.int v2), some (.int v3)] [] M1) else (zbI (zden (L + 1) 143 0 [some (.long v2.toInt64), none, some (.long 1), none, some (.long 1000), none] [] M1) (fun r2 M2 => if r2 = 0 then (zden (L + 1) 210 29 [some (.ref 48), some (.int v1), some (.int v2), some (.int v3)] [] M2) else (zbI (zden (L + 1) 209 0 [some (.ref 48), some (.int v1), some (.int v2), some (.int v3), none, none] [] M2) (fun r3 M3 => zden (L + 1) 210 30 [some (.ref 48), some (.int v1), some (.int v2), some (.int v3)] [.int r3] M3))))) :=
  (zd_w zf_210 0 1 rfl).trans
  (zd_ci zf_210 rfl rfl rfl rfl (fun r1 M1 => zd_eq0 zf_210 rfl (rfl) ((zd_w zf_210 3 4 rfl).trans
  (zd_ci zf_210 rfl rfl rfl rfl (fun r2 M2 => zd_eq0 zf_210 rfl (rfl) ((zd_w zf_210 9 4 rfl).trans
  (zd_ci zf_210 rfl rfl rfl rfl (fun r3 M3 => zd_goto zf_210 rfl (rfl)))))))))
theorem e210_29 (L : Nat) (o0 : Option Value) (o1 : Option Value) (o2 : Option Value) (o3 : Option Value) (M : zM) : zden (L + 1) 210 29 [o0, o1, o2, o3] [] M =
  zden (L + 1) 210 30 [o0, o1, o2, o3] [.int (-1)] M :=
  (zd_w zf_210 15 1 rfl)
theorem e210_30 (L : Nat) (o0 : Option Value) (o1 : Option Value) (o2 : Option Value) (o3 : Option Value) (s0 : Int32) (M : zM) : zden (L + 1) 210 30 [o0, o1, o2, o3] [.int s0] M =
  some (some (.int s0), M) :=
  zd_ri zf_210 rfl zr_210 rfl
theorem e211_0 (L : Nat) (v1 : Int32) (v2 : Int32) (v3 : Int32) (M : zM) : zden (L + 1) 211 0 [some (.ref 48), some (.int v1), some (.int v2), some (.int v3), none, none, none, none] [] M =
  zbI (zden (L + 1) 167 0 [some (.int v1)] [] M) (fun r1 M1 => if r1 = 0 then (zden (L + 1) 211 14 [some (.ref 48), some (.int v1), some (.int v2), some (.int v3), none, none, none, none] [] M1) else (zbI (zden (L + 1) 161 0 [some (.int v3)] [] M1) (fun r2 M2 => if r2 = 0 then (zden (L + 1) 211 14 [some (.ref 48), some (.int v1), some (.int v2), some (.int v3), none, none, none, none] [] M2) else (zbI (zden (L + 1) 163 0 [some (.ref 48)] [] M2) (fun r3 M3 => zbI (zden (L + 1) 192 0 [some (.ref 48), some (.int 0), some (.int v2), some (.int r3), none, none, none, none, none, none, none] [] M3) (fun r4 M4 => if r4 = 1000000 then (zden (L + 1) 211 40 [some (.ref 48), some (.int v1), some (.int v2), some (.int v3), some (.int r4), none, none, none] [.int 1] M4) else (zden (L + 1) 211 40 [some (.ref 48), some (.int v1), some (.int v2), some (.int v3), some (.int r4), none, none, none] [.int 0] M4))))))) :=
  (zd_w zf_211 0 1 rfl).trans
  (zd_ci zf_211 rfl rfl rfl rfl (fun r1 M1 => zd_eq0 zf_211 rfl (rfl) ((zd_w zf_211 3 1 rfl).trans
  (zd_ci zf_211 rfl rfl rfl rfl (fun r2 M2 => zd_ne0 zf_211 rfl ((zd_w zf_211 8 4 rfl).trans
  (zd_ci zf_211 rfl rfl rfl rfl (fun r3 M3 => zd_ci zf_211 rfl rfl rfl rfl (fun r4 M4 => (zd_w zf_211 14 3 rfl).trans
  (zd_ne zf_211 rfl ((zd_w zf_211 20 1 rfl)) ((zd_w zf_211 18 1 rfl).trans
  (zd_goto zf_211 rfl (rfl)))))))) (rfl))))))
theorem e211_14 (L : Nat) (o0 : Option Value) (o1 : Option Value) (o2 : Option Value) (o3 : Option Value) (o4 : Option Value) (o5 : Option Value) (o6 : Option Value) (o7 : Option Value) (M : zM) : zden (L + 1) 211 14 [o0, o1, o2, o3, o4, o5, o6, o7] [] M =
  some (some (.int (-1)), M) :=
  (zd_w zf_211 6 1 rfl).trans
  (zd_ri zf_211 rfl zr_211 rfl)
theorem e211_40 (L : Nat) (v1 : Int32) (o2 : Option Value) (v3 : Int32) (v4 : Int32) (o5 : Option Value) (o6 : Option Value) (o7 : Option Value) (s0 : Int32) (M : zM) : zden (L + 1) 211 40 [some (.ref 48), some (.int v1), o2, some (.int v3), some (.int v4), o5, o6, o7] [.int s0] M =
  if v4 = 1000000 then (zden (L + 1) 211 66 [some (.ref 48), some (.int v1), o2, some (.int v3), some (.int v4), some (.int s0), o6, o7] [.int (M 49 15)] M) else (zbI (zden (L + 1) 172 0 [some (.int v4), some (.int 12)] [] M) (fun r1 M1 => zden (L + 1) 211 66 [some (.ref 48), some (.int v1), o2, some (.int v3), some (.int v4), some (.int s0), o6, o7] [.int r1] M1)) :=
  (zd_w zf_211 21 3 rfl).trans
  (zd_ne zf_211 rfl ((zd_w zf_211 30 2 rfl).trans
  (zd_ci zf_211 rfl rfl rfl rfl (fun r1 M1 => rfl))) ((zd_w zf_211 25 4 rfl).trans
  (zd_goto zf_211 rfl (rfl))))
theorem e211_66 (L : Nat) (v1 : Int32) (o2 : Option Value) (v3 : Int32) (o4 : Option Value) (v5 : Int32) (o6 : Option Value) (o7 : Option Value) (s0 : Int32) (M : zM) : zden (L + 1) 211 66 [some (.ref 48), some (.int v1), o2, some (.int v3), o4, some (.int v5), o6, o7] [.int s0] M =
  if (M 49 15) < s0 then (zden (L + 1) 211 92 [some (.ref 48), some (.int v1), o2, some (.int v3), (zkl o4), some (.int 1), some (.int (M 49 15)), o7] [] M) else (zden (L + 1) 211 92 [some (.ref 48), some (.int v1), o2, some (.int v3), o4, some (.int v5), some (.int s0), o7] [] M) :=
  (zd_w zf_211 33 6 rfl).trans
  (zd_ge zf_211 rfl (rfl) ((zd_w zf_211 40 7 rfl)))
theorem e211_92 (L : Nat) (v1 : Int32) (o2 : Option Value) (v3 : Int32) (o4 : Option Value) (v5 : Int32) (v6 : Int32) (o7 : Option Value) (M : zM) : zden (L + 1) 211 92 [some (.ref 48), some (.int v1), o2, some (.int v3), o4, some (.int v5), some (.int v6), o7] [] M =
  zbI (zden (L + 1) 209 0 [some (.ref 48), some (.int v1), some (.int 500), some (.int 1), none, none] [] M) (fun r1 M1 => zbI (zden (L + 1) 199 0 [some (.ref 48), none, none, none, none] [] M1) (fun r2 M2 => if r2 = (-4) then (zden (L + 1) 211 155 [some (.ref 48), some (.int v1), o2, some (.int v3), o4, some (.int v5), some (.int v6), some (.int r1)] [] M2) else (if r1 = (-4) then (zden (L + 1) 211 155 [some (.ref 48), some (.int v1), o2, some (.int v3), o4, some (.int v5), some (.int v6), some (.int r1)] [] M2) else (zbI (zden (L + 1) 172 0 [some (.int (M2 49 0)), some (.int 4)] [] M2) (fun r3 M3 => if (r1 + r3) < v6 then (zbI (zden (L + 1) 172 0 [some (.int (M3 49 0)), some (.int 4)] [] M3) (fun r4 M4 => zden (L + 1) 211 155 [some (.ref 48), some (.int v1), o2, some (.int v3), (zkl o4), some (.int 2), some (.int (r1 + r4)), some (.int r1)] [] M4)) else (zden (L + 1) 211 155 [some (.ref 48), some (.int v1), o2, some (.int v3), o4, some (.int v5), some (.int v6), some (.int r1)] [] M3)))))) :=
  (zd_w zf_211 47 4 rfl).trans
  (zd_ci zf_211 rfl rfl rfl rfl (fun r1 M1 => (zd_w zf_211 52 2 rfl).trans
  (zd_ci zf_211 rfl rfl rfl rfl (fun r2 M2 => (zd_w zf_211 55 1 rfl).trans
  (zd_eq zf_211 rfl (rfl) ((zd_w zf_211 57 2 rfl).trans
  (zd_eq zf_211 rfl (rfl) ((zd_w zf_211 60 6 rfl).trans
  (zd_ci zf_211 rfl rfl rfl rfl (fun r3 M3 => (zd_w zf_211 67 2 rfl).trans
  (zd_ge zf_211 rfl (rfl) ((zd_w zf_211 70 8 rfl).trans
  (zd_ci zf_211 rfl rfl rfl rfl (fun r4 M4 => (zd_w zf_211 79 2 rfl)))))))))))))))
theorem e211_155 (L : Nat) (o0 : Option Value) (o1 : Option Value) (o2 : Option Value) (v3 : Int32) (o4 : Option Value) (v5 : Int32) (v6 : Int32) (o7 : Option Value) (M : zM) : zden (L + 1) 211 155 [o0, o1, o2, some (.int v3), o4, some (.int v5), some (.int v6), o7] [] M =
  if v3 = 0 then (zden (L + 1) 211 166 [o0, o1, o2, some (.int v3), o4, some (.int v5), some (.int v6), o7] [.int v5] M) else (zden (L + 1) 211 166 [o0, o1, o2, some (.int v3), o4, some (.int v5), some (.int v6), o7] [.int v6] M) :=
  (zd_w zf_211 81 1 rfl).trans
  (zd_ne0 zf_211 rfl ((zd_w zf_211 85 1 rfl)) ((zd_w zf_211 83 1 rfl).trans
  (zd_goto zf_211 rfl (rfl))))
theorem e211_166 (L : Nat) (o0 : Option Value) (o1 : Option Value) (o2 : Option Value) (o3 : Option Value) (o4 : Option Value) (o5 : Option Value) (o6 : Option Value) (o7 : Option Value) (s0 : Int32) (M : zM) : zden (L + 1) 211 166 [o0, o1, o2, o3, o4, o5, o6, o7] [.int s0] M =
  some (some (.int s0), M) :=
  zd_ri zf_211 rfl zr_211 rfl
theorem e215_0 (L : Nat) (v1 : Int32) (v2 : Int32) (v3 : Int32) (M : zM) : zden (L + 1) 215 0 [some (.ref 48), some (.int v1), some (.int v2), some (.int v3), none] [] M =
  zbI (zden (L + 1) 169 0 [some (.ref 48), some (.int v1)] [] M) (fun r1 M1 => if r1 = 0 then (zden (L + 1) 215 23 [some (.ref 48), some (.int v1), some (.int v2), some (.int v3), none] [] M1) else (zbI (zden (L + 1) 169 0 [some (.ref 48), some (.int v2)] [] M1) (fun r2 M2 => if r2 = 0 then (zden (L + 1) 215 23 [some (.ref 48), some (.int v1), some (.int v2), some (.int v3), none] [] M2) else (zbI (zden (L + 1) 161 0 [some (.int v3)] [] M2) (fun r3 M3 => if r3 = 0 then (zden (L + 1) 215 23 [some (.ref 48), some (.int v1), some (.int v2), some (.int v3), none] [] M3) else (zbV (zden (L + 1) 212 0 [some (.ref 48), none, none, none, none, none] [] M3) (fun M4 => if zinb ((7 * v1) + v2) 49 = true then (if (M4 61 ((7 * v1) + v2).toNatClampNeg) < 1000000 then (if v3 = 0 then (zden (L + 1) 215 89 [some (.ref 48), some (.int v1), some (.int v2), some (.int v3), some (.int (M4 61 ((7 * v1) + v2).toNatClampNeg))] [.int (M4 61 ((7 * v1) + v2).toNatClampNeg)] M4) else (if v1 = v2 then (zden (L + 1) 215 89 [some (.ref 48), some (.int v1), some (.int v2), some (.int v3), some (.int (M4 61 ((7 * v1) + v2).toNatClampNeg))] [.int 0] M4) else (zbI (zden (L + 1) 213 0 [some (.ref 48), none, none] [] M4) (fun r5 M5 => zbI (zden (L + 1) 214 0 [some (.ref 48), some (.int v1), some (.int r5)] [] M5) (fun r6 M6 => zbI (zden (L + 1) 213 0 [some (.ref 48), none, none] [] M6) (fun r7 M7 => zbI (zden (L + 1) 214 0 [some (.ref 48), some (.int v2), some (.int r7)] [] M7) (fun r8 M8 => zden (L + 1) 215 89 [some (.ref 48), some (.int v1), some (.int v2), some (.int v3), some (.int (M4 61 ((7 * v1) + v2).toNatClampNeg))] [.int (r6 + r8)] M8))))))) else (some (some (.int (-4)), M4))) else none))))))) :=
  (zd_w zf_215 0 2 rfl).trans
  (zd_ci zf_215 rfl rfl rfl rfl (fun r1 M1 => zd_eq0 zf_215 rfl (rfl) ((zd_w zf_215 4 2 rfl).trans
  (zd_ci zf_215 rfl rfl rfl rfl (fun r2 M2 => zd_eq0 zf_215 rfl (rfl) ((zd_w zf_215 8 1 rfl).trans
  (zd_ci zf_215 rfl rfl rfl rfl (fun r3 M3 => zd_ne0 zf_215 rfl ((zd_w zf_215 13 1 rfl).trans
  (zd_cv zf_215 rfl rfl rfl rfl (fun M4 => (zd_w zf_215 15 7 rfl).trans
  (zd_ld zf_215 rfl rfl ((zd_w zf_215 23 3 rfl).trans
  (zd_lt zf_215 rfl ((zd_w zf_215 29 1 rfl).trans
  (zd_ne0 zf_215 rfl ((zd_w zf_215 33 2 rfl).trans
  (zd_ne zf_215 rfl ((zd_w zf_215 38 3 rfl).trans
  (zd_ci zf_215 rfl rfl rfl rfl (fun r5 M5 => zd_ci zf_215 rfl rfl rfl rfl (fun r6 M6 => (zd_w zf_215 43 3 rfl).trans
  (zd_ci zf_215 rfl rfl rfl rfl (fun r7 M7 => zd_ci zf_215 rfl rfl rfl rfl (fun r8 M8 => (zd_w zf_215 48 1 rfl)))))))) ((zd_w zf_215 36 1 rfl).trans
  (zd_goto zf_215 rfl (rfl))))) ((zd_w zf_215 31 1 rfl).trans
  (zd_goto zf_215 rfl (rfl))))) ((zd_w zf_215 27 1 rfl).trans
  (zd_ri zf_215 rfl zr_215 rfl)))))))) (rfl)))))))))
theorem e215_23 (L : Nat) (o0 : Option Value) (o1 : Option Value) (o2 : Option Value) (o3 : Option Value) (o4 : Option Value) (M : zM) : zden (L + 1) 215 23 [o0, o1, o2, o3, o4] [] M =
  some (some (.int (-1)), M) :=
  (zd_w zf_215 11 1 rfl).trans
  (zd_ri zf_215 rfl zr_215 rfl)
theorem e215_89 (L : Nat) (o0 : Option Value) (o1 : Option Value) (o2 : Option Value) (o3 : Option Value) (o4 : Option Value) (s0 : Int32) (M : zM) : zden (L + 1) 215 89 [o0, o1, o2, o3, o4] [.int s0] M =
  some (some (.int s0), M) :=
  zd_ri zf_215 rfl zr_215 rfl
theorem e217_0 (L : Nat)  (M : zM) : zden (L + 1) 217 0 [some (.ref 48)] [] M =
  zbI (zden (L + 1) 213 0 [some (.ref 48), none, none] [] M) (fun r1 M1 => zbI (zden (L + 1) 216 0 [some (.ref 48), some (.int r1), none, none, none] [] M1) (fun r2 M2 => some (some (.int r2), M2))) :=
  (zd_w zf_217 0 2 rfl).trans
  (zd_ci zf_217 rfl rfl rfl rfl (fun r1 M1 => zd_ci zf_217 rfl rfl rfl rfl (fun r2 M2 => zd_ri zf_217 rfl zr_217 rfl)))
theorem e219_0 (L : Nat) (v1 : Int32) (v2 : Int32) (M : zM) : zden (L + 1) 219 0 [some (.ref 48), some (.int v1), some (.int v2), none, none, none, none] [] M =
  zbI (zden (L + 1) 143 0 [some (.long v1.toInt64), none, some (.long 1), none, some (.long 3), none] [] M) (fun r1 M1 => if r1 = 0 then (zden (L + 1) 219 19 [some (.ref 48), some (.int v1), some (.int v2), none, none, none, none] [] M1) else (zbI (zden (L + 1) 161 0 [some (.int v2)] [] M1) (fun r2 M2 => if r2 = 0 then (zden (L + 1) 219 19 [some (.ref 48), some (.int v1), some (.int v2), none, none, none, none] [] M2) else (zbI (zden (L + 1) 213 0 [some (.ref 48), none, none] [] M2) (fun r3 M3 => zden (L + 1) 219 37 [some (.ref 48), some (.int v1), some (.int v2), some (.int r3), some (.int (-4)), some (.int (-4)), some (.int 0)] [] M3))))) :=
  (zd_w zf_219 0 4 rfl).trans
  (zd_ci zf_219 rfl rfl rfl rfl (fun r1 M1 => zd_eq0 zf_219 rfl (rfl) ((zd_w zf_219 6 1 rfl).trans
  (zd_ci zf_219 rfl rfl rfl rfl (fun r2 M2 => zd_ne0 zf_219 rfl ((zd_w zf_219 11 1 rfl).trans
  (zd_ci zf_219 rfl rfl rfl rfl (fun r3 M3 => (zd_w zf_219 13 7 rfl)))) (rfl))))))
theorem e219_19 (L : Nat) (o0 : Option Value) (o1 : Option Value) (o2 : Option Value) (o3 : Option Value) (o4 : Option Value) (o5 : Option Value) (o6 : Option Value) (M : zM) : zden (L + 1) 219 19 [o0, o1, o2, o3, o4, o5, o6] [] M =
  some (some (.int (-1)), M) :=
  (zd_w zf_219 9 1 rfl).trans
  (zd_ri zf_219 rfl zr_219 rfl)
theorem e219_37 (L : Nat) (v1 : Int32) (v2 : Int32) (v3 : Int32) (v4 : Int32) (v5 : Int32) (v6 : Int32) (M : zM) : zden (L + 1) 219 37 [some (.ref 48), some (.int v1), some (.int v2), some (.int v3), some (.int v4), some (.int v5), some (.int v6)] [] M =
  if v6 < (1 <<< ((M 49 2) &&& 31)) then (zbI (zden (L + 1) 218 0 [some (.int v6), none, none] [] M) (fun r1 M1 => if r1 = v1 then (if (v6 &&& v3) = 0 then (zbI (zden (L + 1) 216 0 [some (.ref 48), some (.int (v6 ||| v3)), none, none, none] [] M1) (fun r2 M2 => if v5 < r2 then (zbI (zden (L + 1) 216 0 [some (.ref 48), some (.int (v6 ||| v3)), none, none, none] [] M2) (fun r3 M3 => zden (L + 1) 219 93 [some (.ref 48), some (.int v1), some (.int v2), some (.int v3), some (.int v6), some (.int r3), some (.int v6)] [] M3)) else (zden (L + 1) 219 93 [some (.ref 48), some (.int v1), some (.int v2), some (.int v3), some (.int v4), some (.int v5), some (.int v6)] [] M2))) else (zden (L + 1) 219 93 [some (.ref 48), some (.int v1), some (.int v2), some (.int v3), some (.int v4), some (.int v5), some (.int v6)] [] M1)) else (zden (L + 1) 219 93 [some (.ref 48), some (.int v1), some (.int v2), some (.int v3), some (.int v4), some (.int v5), some (.int v6)] [] M1))) else (if v2 = 0 then (zden (L + 1) 219 110 [some (.ref 48), some (.int v1), some (.int v2), some (.int v3), some (.int v4), some (.int v5), some (.int v6)] [.int v4] M) else (zden (L + 1) 219 110 [some (.ref 48), some (.int v1), some (.int v2), some (.int v3), some (.int v4), some (.int v5), some (.int v6)] [.int v5] M)) :=
  (zd_w zf_219 20 7 rfl).trans
  (zd_ge zf_219 rfl ((zd_w zf_219 53 1 rfl).trans
  (zd_ne0 zf_219 rfl ((zd_w zf_219 57 1 rfl)) ((zd_w zf_219 55 1 rfl).trans
  (zd_goto zf_219 rfl (rfl))))) ((zd_w zf_219 28 1 rfl).trans
  (zd_ci zf_219 rfl rfl rfl rfl (fun r1 M1 => (zd_w zf_219 30 1 rfl).trans
  (zd_ne zf_219 rfl (rfl) ((zd_w zf_219 32 3 rfl).trans
  (zd_ne0 zf_219 rfl (rfl) ((zd_w zf_219 36 4 rfl).trans
  (zd_ci zf_219 rfl rfl rfl rfl (fun r2 M2 => (zd_w zf_219 41 1 rfl).trans
  (zd_le zf_219 rfl (rfl) ((zd_w zf_219 43 6 rfl).trans
  (zd_ci zf_219 rfl rfl rfl rfl (fun r3 M3 => (zd_w zf_219 50 1 rfl)))))))))))))))
theorem e219_110 (L : Nat) (o0 : Option Value) (o1 : Option Value) (o2 : Option Value) (o3 : Option Value) (o4 : Option Value) (o5 : Option Value) (o6 : Option Value) (s0 : Int32) (M : zM) : zden (L + 1) 219 110 [o0, o1, o2, o3, o4, o5, o6] [.int s0] M =
  some (some (.int s0), M) :=
  zd_ri zf_219 rfl zr_219 rfl
theorem e219_93 (L : Nat) (v1 : Int32) (v2 : Int32) (v3 : Int32) (v4 : Int32) (v5 : Int32) (v6 : Int32) (M : zM) : zden (L + 1) 219 93 [some (.ref 48), some (.int v1), some (.int v2), some (.int v3), some (.int v4), some (.int v5), some (.int v6)] [] M =
  zden (L + 1) 219 37 [some (.ref 48), some (.int v1), some (.int v2), some (.int v3), some (.int v4), some (.int v5), some (.int (v6 + 1))] [] M :=
  (zd_w zf_219 51 1 rfl).trans
  (zd_goto zf_219 rfl (rfl))
theorem e220_0 (L : Nat)  (M : zM) : zden (L + 1) 220 0 [some (.ref 48), none, none, none, none] [] M =
  zbI (zden (L + 1) 213 0 [some (.ref 48), none, none] [] M) (fun r1 M1 => zden (L + 1) 220 14 [some (.ref 48), some (.int r1), some (.int (-4)), some (.int 1000000), some (.int 0)] [] M1) :=
  (zd_w zf_220 0 1 rfl).trans
  (zd_ci zf_220 rfl rfl rfl rfl (fun r1 M1 => (zd_w zf_220 2 7 rfl)))
theorem e220_14 (L : Nat) (v1 : Int32) (v2 : Int32) (v3 : Int32) (v4 : Int32) (M : zM) : zden (L + 1) 220 14 [some (.ref 48), some (.int v1), some (.int v2), some (.int v3), some (.int v4)] [] M =
  if v4 < (M 49 2) then (if ((v1 >>> (v4 &&& 31)) &&& 1) = 1 then (zbI (zden (L + 1) 216 0 [some (.ref 48), some (.int (v1 &&& ((1 <<< (v4 &&& 31)) ^^^ (-1)))), none, none, none] [] M) (fun r1 M1 => if r1 < v3 then (zbI (zden (L + 1) 216 0 [some (.ref 48), some (.int (v1 &&& ((1 <<< (v4 &&& 31)) ^^^ (-1)))), none, none, none] [] M1) (fun r2 M2 => zden (L + 1) 220 67 [some (.ref 48), some (.int v1), some (.int v4), some (.int r2), some (.int v4)] [] M2)) else (zden (L + 1) 220 67 [some (.ref 48), some (.int v1), some (.int v2), some (.int v3), some (.int v4)] [] M1))) else (zden (L + 1) 220 67 [some (.ref 48), some (.int v1), some (.int v2), some (.int v3), some (.int v4)] [] M)) else (some (some (.int v2), M)) :=
  (zd_w zf_220 9 5 rfl).trans
  (zd_ge zf_220 rfl ((zd_w zf_220 47 1 rfl).trans
  (zd_ri zf_220 rfl zr_220 rfl)) ((zd_w zf_220 15 6 rfl).trans
  (zd_ne zf_220 rfl (rfl) ((zd_w zf_220 22 8 rfl).trans
  (zd_ci zf_220 rfl rfl rfl rfl (fun r1 M1 => (zd_w zf_220 31 1 rfl).trans
  (zd_ge zf_220 rfl (rfl) ((zd_w zf_220 33 10 rfl).trans
  (zd_ci zf_220 rfl rfl rfl rfl (fun r2 M2 => (zd_w zf_220 44 1 rfl)))))))))))
theorem e220_67 (L : Nat) (v1 : Int32) (v2 : Int32) (v3 : Int32) (v4 : Int32) (M : zM) : zden (L + 1) 220 67 [some (.ref 48), some (.int v1), some (.int v2), some (.int v3), some (.int v4)] [] M =
  zden (L + 1) 220 14 [some (.ref 48), some (.int v1), some (.int v2), some (.int v3), some (.int (v4 + 1))] [] M :=
  (zd_w zf_220 45 1 rfl).trans
  (zd_goto zf_220 rfl (rfl))
theorem e222_0 (L : Nat) (v1 : Int32) (M : zM) : zden (L + 1) 222 0 [some (.ref 48), some (.int v1)] [] M =
  zbI (zden (L + 1) 143 0 [some (.long v1.toInt64), none, some (.long 0), none, some (.long 3), none] [] M) (fun r1 M1 => if r1 = 0 then (some (some (.int (-1)), M1)) else (if v1 < 2 then (if v1 = 1 then (zden (L + 1) 222 58 [some (.ref 48), some (.int v1)] [.int ((M1 49 5) / 2)] M1) else (if (M1 49 5) < (2 * (M1 49 7)) then (zden (L + 1) 222 58 [some (.ref 48), some (.int v1)] [.int 1] M1) else (zden (L + 1) 222 58 [some (.ref 48), some (.int v1)] [.int 0] M1))) else (if v1 = 3 then (zden (L + 1) 222 71 [some (.ref 48), some (.int v1)] [.int 1, .int 0, .ref 48] M1) else (zden (L + 1) 222 71 [some (.ref 48), some (.int v1)] [.int 0, .int 0, .ref 48] M1)))) :=
  (zd_w zf_222 0 4 rfl).trans
  (zd_ci zf_222 rfl rfl rfl rfl (fun r1 M1 => zd_ne0 zf_222 rfl ((zd_w zf_222 8 2 rfl).trans
  (zd_ge zf_222 rfl ((zd_w zf_222 36 4 rfl).trans
  (zd_ne zf_222 rfl ((zd_w zf_222 43 1 rfl)) ((zd_w zf_222 41 1 rfl).trans
  (zd_goto zf_222 rfl (rfl))))) ((zd_w zf_222 11 2 rfl).trans
  (zd_ne zf_222 rfl ((zd_w zf_222 21 10 rfl).trans
  (zd_le zf_222 rfl ((zd_w zf_222 34 1 rfl)) ((zd_w zf_222 32 1 rfl).trans
  (zd_goto zf_222 rfl (rfl))))) ((zd_w zf_222 14 6 rfl).trans
  (zd_goto zf_222 rfl (rfl))))))) ((zd_w zf_222 6 1 rfl).trans
  (zd_ri zf_222 rfl zr_222 rfl))))
theorem e222_71 (L : Nat) (v1 : Int32) (s0 : Int32) (s1 : Int32) (M : zM) : zden (L + 1) 222 71 [some (.ref 48), some (.int v1)] [.int s0, .int s1, .ref 48] M =
  zbI (zden (L + 1) 163 0 [some (.ref 48)] [] M) (fun r1 M1 => zbI (zden (L + 1) 192 0 [some (.ref 48), some (.int s1), some (.int s0), some (.int r1), none, none, none, none, none, none, none] [] M1) (fun r2 M2 => if r2 = 1000000 then (zden (L + 1) 222 102 [some (.ref 48), some (.int v1)] [.int (-4)] M2) else (if v1 = 3 then (zden (L + 1) 222 99 [some (.ref 48), some (.int v1)] [.int 1, .ref 48] M2) else (zden (L + 1) 222 99 [some (.ref 48), some (.int v1)] [.int 0, .ref 48] M2)))) :=
  (zd_w zf_222 44 1 rfl).trans
  (zd_ci zf_222 rfl rfl rfl rfl (fun r1 M1 => zd_ci zf_222 rfl rfl rfl rfl (fun r2 M2 => (zd_w zf_222 47 1 rfl).trans
  (zd_ne zf_222 rfl ((zd_w zf_222 51 3 rfl).trans
  (zd_ne zf_222 rfl ((zd_w zf_222 57 1 rfl)) ((zd_w zf_222 55 1 rfl).trans
  (zd_goto zf_222 rfl (rfl))))) ((zd_w zf_222 49 1 rfl).trans
  (zd_goto zf_222 rfl (rfl)))))))
theorem e222_58 (L : Nat) (o0 : Option Value) (o1 : Option Value) (s0 : Int32) (M : zM) : zden (L + 1) 222 58 [o0, o1] [.int s0] M =
  some (some (.int s0), M) :=
  zd_ri zf_222 rfl zr_222 rfl
theorem e222_99 (L : Nat) (o0 : Option Value) (o1 : Option Value) (s0 : Int32) (M : zM) : zden (L + 1) 222 99 [o0, o1] [.int s0, .ref 48] M =
  zbI (zden (L + 1) 221 0 [some (.ref 48), some (.int s0), none, none] [] M) (fun r1 M1 => zden (L + 1) 222 102 [o0, o1] [.int r1] M1) :=
  zd_ci zf_222 rfl rfl rfl rfl (fun r1 M1 => rfl)
theorem e222_102 (L : Nat) (o0 : Option Value) (o1 : Option Value) (s0 : Int32) (M : zM) : zden (L + 1) 222 102 [o0, o1] [.int s0] M =
  some (some (.int s0), M) :=
  zd_ri zf_222 rfl zr_222 rfl
theorem e223_0 (L : Nat) (v1 : Int32) (M : zM) : zden (L + 1) 223 0 [some (.ref 48), some (.int v1), none] [] M =
  zbI (zden (L + 1) 143 0 [some (.long v1.toInt64), none, some (.long 0), none, some (.long 40), none] [] M) (fun r1 M1 => if r1 = 0 then (some (some (.int (-1)), M1)) else (some (some (.int (M1 49 7)), zput (zput M1 49 7 v1) 48 6 0))) :=
  (zd_w zf_223 0 4 rfl).trans
  (zd_ci zf_223 rfl rfl rfl rfl (fun r1 M1 => zd_ne0 zf_223 rfl ((zd_w zf_223 8 14 rfl).trans
  (zd_ri zf_223 rfl zr_223 rfl)) ((zd_w zf_223 6 1 rfl).trans
  (zd_ri zf_223 rfl zr_223 rfl))))
theorem e224_0 (L : Nat) (v1 : Int32) (v2 : Int32) (M : zM) : zden (L + 1) 224 0 [some (.ref 48), some (.int v1), some (.int v2)] [] M =
  zbI (zden (L + 1) 169 0 [some (.ref 48), some (.int v1)] [] M) (fun r1 M1 => if r1 = 0 then (some (some (.int (-1)), M1)) else (if v2 = 0 then (zden (L + 1) 224 27 [some (.ref 48), some (.int v1), some (.int v2)] [.int 0, .int (79 + v1), .ref 49] M1) else (zden (L + 1) 224 27 [some (.ref 48), some (.int v1), some (.int v2)] [.int 1, .int (79 + v1), .ref 49] M1))) :=
  (zd_w zf_224 0 2 rfl).trans
  (zd_ci zf_224 rfl rfl rfl rfl (fun r1 M1 => zd_ne0 zf_224 rfl ((zd_w zf_224 6 6 rfl).trans
  (zd_eq0 zf_224 rfl ((zd_w zf_224 15 1 rfl)) ((zd_w zf_224 13 1 rfl).trans
  (zd_goto zf_224 rfl (rfl))))) ((zd_w zf_224 4 1 rfl).trans
  (zd_ri zf_224 rfl zr_224 rfl))))
theorem e224_27 (L : Nat) (o1 : Option Value) (o2 : Option Value) (s0 : Int32) (s1 : Int32) (M : zM) : zden (L + 1) 224 27 [some (.ref 48), o1, o2] [.int s0, .int s1, .ref 49] M =
  if zinb s1 116 = true then (zbI (zden (L + 1) 213 0 [some (.ref 48), none, none] [] (zput M 49 s1.toNatClampNeg s0)) (fun r1 M1 => zbI (zden (L + 1) 218 0 [some (.int r1), none, none] [] M1) (fun r2 M2 => some (some (.int r2), M2)))) else none :=
  zd_st zf_224 rfl rfl rfl ((zd_w zf_224 17 1 rfl).trans
  (zd_ci zf_224 rfl rfl rfl rfl (fun r1 M1 => zd_ci zf_224 rfl rfl rfl rfl (fun r2 M2 => zd_ri zf_224 rfl zr_224 rfl))))
theorem e226_0 (L : Nat) (v1 : Int32) (v2 : Int32) (v3 : Int32) (M : zM) : zden (L + 1) 226 0 [some (.ref 48), some (.int v1), some (.int v2), some (.int v3)] [] M =
  zbI (zden (L + 1) 143 0 [some (.long v1.toInt64), none, some (.long 0), none, some (.long 9999), none] [] M) (fun r1 M1 => if r1 = 0 then (zden (L + 1) 226 29 [some (.ref 48), some (.int v1), some (.int v2), some (.int v3)] [] M1) else (zbI (zden (L + 1) 167 0 [some (.int v2)] [] M1) (fun r2 M2 => if r2 = 0 then (zden (L + 1) 226 29 [some (.ref 48), some (.int v1), some (.int v2), some (.int v3)] [] M2) else (zbI (zden (L + 1) 225 0 [some (.ref 48), some (.int v1), some (.int v2), some (.int v3), none, none, none, none, none] [] M2) (fun r3 M3 => zden (L + 1) 226 30 [some (.ref 48), some (.int v1), some (.int v2), some (.int v3)] [.int r3] M3))))) :=
  (zd_w zf_226 0 4 rfl).trans
  (zd_ci zf_226 rfl rfl rfl rfl (fun r1 M1 => zd_eq0 zf_226 rfl (rfl) ((zd_w zf_226 6 1 rfl).trans
  (zd_ci zf_226 rfl rfl rfl rfl (fun r2 M2 => zd_eq0 zf_226 rfl (rfl) ((zd_w zf_226 9 4 rfl).trans
  (zd_ci zf_226 rfl rfl rfl rfl (fun r3 M3 => zd_goto zf_226 rfl (rfl)))))))))
theorem e226_29 (L : Nat) (o0 : Option Value) (o1 : Option Value) (o2 : Option Value) (o3 : Option Value) (M : zM) : zden (L + 1) 226 29 [o0, o1, o2, o3] [] M =
  zden (L + 1) 226 30 [o0, o1, o2, o3] [.int (-1)] M :=
  (zd_w zf_226 15 1 rfl)
theorem e226_30 (L : Nat) (o0 : Option Value) (o1 : Option Value) (o2 : Option Value) (o3 : Option Value) (s0 : Int32) (M : zM) : zden (L + 1) 226 30 [o0, o1, o2, o3] [.int s0] M =
  some (some (.int s0), M) :=
  zd_ri zf_226 rfl zr_226 rfl
theorem e227_0 (L : Nat) (v1 : Int32) (v2 : Int32) (v3 : Int32) (v4 : Int32) (v5 : Int32) (M : zM) : zden (L + 1) 227 0 [some (.ref 48), some (.int v1), some (.int v2), some (.int v3), some (.int v4), some (.int v5), none, none, none] [] M =
  zbI (zden (L + 1) 143 0 [some (.long v1.toInt64), none, some (.long 0), none, some (.long 9999), none] [] M) (fun r1 M1 => if r1 = 0 then (zden (L + 1) 227 44 [some (.ref 48), some (.int v1), some (.int v2), some (.int v3), some (.int v4), some (.int v5), none, none, none] [] M1) else (zbI (zden (L + 1) 143 0 [some (.long v2.toInt64), none, some (.long 1), none, some (.long 60), none] [] M1) (fun r2 M2 => if r2 = 0 then (zden (L + 1) 227 44 [some (.ref 48), some (.int v1), some (.int v2), some (.int v3), some (.int v4), some (.int v5), none, none, none] [] M2) else (zbI (zden (L + 1) 167 0 [some (.int v3)] [] M2) (fun r3 M3 => if r3 = 0 then (zden (L + 1) 227 44 [some (.ref 48), some (.int v1), some (.int v2), some (.int v3), some (.int v4), some (.int v5), none, none, none] [] M3) else (zbI (zden (L + 1) 143 0 [some (.long v4.toInt64), none, some (.long 1), none, some (.long 300), none] [] M3) (fun r4 M4 => if r4 = 0 then (zden (L + 1) 227 44 [some (.ref 48), some (.int v1), some (.int v2), some (.int v3), some (.int v4), some (.int v5), none, none, none] [] M4) else (zden (L + 1) 227 52 [some (.ref 48), some (.int v1), some (.int v2), some (.int v3), some (.int v4), some (.int v5), some (.int 0), some (.int 0), none] [] M4)))))))) :=
  (zd_w zf_227 0 4 rfl).trans
  (zd_ci zf_227 rfl rfl rfl rfl (fun r1 M1 => zd_eq0 zf_227 rfl (rfl) ((zd_w zf_227 6 4 rfl).trans
  (zd_ci zf_227 rfl rfl rfl rfl (fun r2 M2 => zd_eq0 zf_227 rfl (rfl) ((zd_w zf_227 12 1 rfl).trans
  (zd_ci zf_227 rfl rfl rfl rfl (fun r3 M3 => zd_eq0 zf_227 rfl (rfl) ((zd_w zf_227 15 4 rfl).trans
  (zd_ci zf_227 rfl rfl rfl rfl (fun r4 M4 => zd_ne0 zf_227 rfl ((zd_w zf_227 23 4 rfl)) (rfl))))))))))))
theorem e227_44 (L : Nat) (o0 : Option Value) (o1 : Option Value) (o2 : Option Value) (o3 : Option Value) (o4 : Option Value) (o5 : Option Value) (o6 : Option Value) (o7 : Option Value) (o8 : Option Value) (M : zM) : zden (L + 1) 227 44 [o0, o1, o2, o3, o4, o5, o6, o7, o8] [] M =
  some (some (.int (-1)), M) :=
  (zd_w zf_227 21 1 rfl).trans
  (zd_ri zf_227 rfl zr_227 rfl)
theorem e227_52 (L : Nat) (v1 : Int32) (v2 : Int32) (v3 : Int32) (v4 : Int32) (v5 : Int32) (v6 : Int32) (v7 : Int32) (o8 : Option Value) (M : zM) : zden (L + 1) 227 52 [some (.ref 48), some (.int v1), some (.int v2), some (.int v3), some (.int v4), some (.int v5), some (.int v6), some (.int v7), o8] [] M =
  if v7 < v2 then (zbI (zden (L + 1) 225 0 [some (.ref 48), some (.int ((v1 + v7) - (v1 + v7) / 10000 * 10000)), some (.int v3), some (.int v5), none, none, none, none, none] [] M) (fun r1 M1 => zbI (zden (L + 1) 143 0 [some (.long r1.toInt64), none, some (.long 0), none, some (.long ((v4 - 1).toInt64)), none] [] M1) (fun r2 M2 => if r2 = 0 then (zden (L + 1) 227 97 [some (.ref 48), some (.int v1), some (.int v2), some (.int v3), some (.int v4), some (.int v5), some (.int v6), some (.int v7), some (.int r1)] [.int 0, .int v6] M2) else (zden (L + 1) 227 97 [some (.ref 48), some (.int v1), some (.int v2), some (.int v3), some (.int v4), some (.int v5), some (.int v6), some (.int v7), some (.int r1)] [.int 1, .int v6] M2)))) else (some (some (.int v6), M)) :=
  (zd_w zf_227 27 2 rfl).trans
  (zd_ge zf_227 rfl ((zd_w zf_227 57 1 rfl).trans
  (zd_ri zf_227 rfl zr_227 rfl)) ((zd_w zf_227 30 8 rfl).trans
  (zd_ci zf_227 rfl rfl rfl rfl (fun r1 M1 => (zd_w zf_227 39 9 rfl).trans
  (zd_ci zf_227 rfl rfl rfl rfl (fun r2 M2 => zd_eq0 zf_227 rfl ((zd_w zf_227 52 1 rfl)) ((zd_w zf_227 50 1 rfl).trans
  (zd_goto zf_227 rfl (rfl)))))))))
theorem e227_97 (L : Nat) (v1 : Int32) (v2 : Int32) (v3 : Int32) (v4 : Int32) (v5 : Int32) (o6 : Option Value) (v7 : Int32) (o8 : Option Value) (s0 : Int32) (s1 : Int32) (M : zM) : zden (L + 1) 227 97 [some (.ref 48), some (.int v1), some (.int v2), some (.int v3), some (.int v4), some (.int v5), o6, some (.int v7), o8] [.int s0, .int s1] M =
  zden (L + 1) 227 52 [some (.ref 48), some (.int v1), some (.int v2), some (.int v3), some (.int v4), some (.int v5), some (.int (s1 + s0)), some (.int (v7 + 1)), o8] [] M :=
  (zd_w zf_227 53 3 rfl).trans
  (zd_goto zf_227 rfl (rfl))
theorem e228_0 (L : Nat)  (M : zM) : zden (L + 1) 228 0 [some (.ref 48)] [] M =
  if (M 48 10) = 2 then (some (some (.int (-3)), M)) else (zbV (zden (L + 1) 177 0 [some (.ref 48), some (.ref 52), some (.int 0), some (.ref 55), some (.int (8 * (M 48 10))), none] [] M) (fun M1 => if zinb ((8 * (M1 48 10)) + 6) 16 = true then (zbI (zden (L + 1) 213 0 [some (.ref 48), none, none] [] (zput M1 55 ((8 * (M1 48 10)) + 6).toNatClampNeg (M1 49 7))) (fun r2 M2 => if zinb ((8 * ((zput M1 55 ((8 * (M1 48 10)) + 6).toNatClampNeg (M1 49 7)) 48 10)) + 7) 16 = true then (some (some (.int ((zput (zput M2 55 ((8 * ((zput M1 55 ((8 * (M1 48 10)) + 6).toNatClampNeg (M1 49 7)) 48 10)) + 7).toNatClampNeg r2) 48 10 (((zput M2 55 ((8 * ((zput M1 55 ((8 * (M1 48 10)) + 6).toNatClampNeg (M1 49 7)) 48 10)) + 7).toNatClampNeg r2) 48 10) + 1)) 48 10)), zput (zput M2 55 ((8 * ((zput M1 55 ((8 * (M1 48 10)) + 6).toNatClampNeg (M1 49 7)) 48 10)) + 7).toNatClampNeg r2) 48 10 (((zput M2 55 ((8 * ((zput M1 55 ((8 * (M1 48 10)) + 6).toNatClampNeg (M1 49 7)) 48 10)) + 7).toNatClampNeg r2) 48 10) + 1))) else none)) else none)) :=
  (zd_w zf_228 0 3 rfl).trans
  (zd_ne zf_228 rfl ((zd_w zf_228 6 10 rfl).trans
  (zd_cv zf_228 rfl rfl rfl rfl (fun M1 => (zd_w zf_228 17 12 rfl).trans
  (zd_st zf_228 rfl rfl rfl ((zd_w zf_228 30 9 rfl).trans
  (zd_ci zf_228 rfl rfl rfl rfl (fun r2 M2 => zd_st zf_228 rfl rfl rfl ((zd_w zf_228 41 8 rfl).trans
  (zd_ri zf_228 rfl zr_228 rfl))))))))) ((zd_w zf_228 4 1 rfl).trans
  (zd_ri zf_228 rfl zr_228 rfl)))
theorem e229_0 (L : Nat)  (M : zM) : zden (L + 1) 229 0 [some (.ref 48), none] [] M =
  if (M 48 10) = 0 then (some (some (.int (-2)), M)) else (zbV (zden (L + 1) 177 0 [some (.ref 48), some (.ref 55), some (.int (8 * ((zput M 48 10 ((M 48 10) - 1)) 48 10))), some (.ref 52), some (.int 0), none] [] (zput M 48 10 ((M 48 10) - 1))) (fun M1 => if zinb ((8 * (M1 48 10)) + 6) 16 = true then (zden (L + 1) 229 64 [some (.ref 48), some (.int 0)] [] (zput M1 49 7 (M1 55 ((8 * (M1 48 10)) + 6).toNatClampNeg))) else none)) :=
  (zd_w zf_229 0 2 rfl).trans
  (zd_ne0 zf_229 rfl ((zd_w zf_229 5 16 rfl).trans
  (zd_cv zf_229 rfl rfl rfl rfl (fun M1 => (zd_w zf_229 22 11 rfl).trans
  (zd_ld zf_229 rfl rfl ((zd_w zf_229 34 3 rfl)))))) ((zd_w zf_229 3 1 rfl).trans
  (zd_ri zf_229 rfl zr_229 rfl)))
theorem e229_64 (L : Nat) (v1 : Int32) (M : zM) : zden (L + 1) 229 64 [some (.ref 48), some (.int v1)] [] M =
  if v1 < (M 49 2) then (if zinb ((8 * (M 48 10)) + 7) 16 = true then (if zinb (79 + v1) 116 = true then (zden (L + 1) 229 64 [some (.ref 48), some (.int (v1 + 1))] [] (zput M 49 (79 + v1).toNatClampNeg (((M 55 ((8 * (M 48 10)) + 7).toNatClampNeg) >>> (v1 &&& 31)) &&& 1))) else none) else none) else (some (some (.int ((zput (zput M 48 6 0) 48 8 0) 48 10)), zput (zput M 48 6 0) 48 8 0)) :=
  (zd_w zf_229 37 5 rfl).trans
  (zd_ge zf_229 rfl ((zd_w zf_229 64 8 rfl).trans
  (zd_ri zf_229 rfl zr_229 rfl)) ((zd_w zf_229 43 13 rfl).trans
  (zd_ld zf_229 rfl rfl ((zd_w zf_229 57 4 rfl).trans
  (zd_st zf_229 rfl rfl rfl ((zd_w zf_229 62 1 rfl).trans
  (zd_goto zf_229 rfl (rfl))))))))
theorem e230_0 (L : Nat) (v1 : Int32) (M : zM) : zden (L + 1) 230 0 [some (.ref 48), some (.int v1)] [] M =
  if v1 = 0 then zden (L + 1) 230 52 [some (.ref 48), some (.int v1)] [] M else (if v1 = 1 then zden (L + 1) 230 52 [some (.ref 48), some (.int v1)] [] M else (if v1 = 2 then zden (L + 1) 230 52 [some (.ref 48), some (.int v1)] [] M else (if v1 = 3 then zden (L + 1) 230 52 [some (.ref 48), some (.int v1)] [] M else (if v1 = 4 then zden (L + 1) 230 59 [some (.ref 48), some (.int v1)] [] M else (if v1 = 5 then zden (L + 1) 230 67 [some (.ref 48), some (.int v1)] [] M else (if v1 = 6 then zden (L + 1) 230 72 [some (.ref 48), some (.int v1)] [] M else (if v1 = 7 then zden (L + 1) 230 77 [some (.ref 48), some (.int v1)] [] M else (if v1 = 8 then zden (L + 1) 230 82 [some (.ref 48), some (.int v1)] [] M else (zden (L + 1) 230 87 [some (.ref 48), some (.int v1)] [] M))))))))) :=
  (zd_w zf_230 0 1 rfl).trans
  ((zsw_230_1 (lc := [some (.ref 48), some (.int v1)]) (st := [])))
theorem e230_87 (L : Nat) (o0 : Option Value) (o1 : Option Value) (M : zM) : zden (L + 1) 230 87 [o0, o1] [] M =
  some (some (.int (-1)), M) :=
  (zd_w zf_230 23 1 rfl).trans
  (zd_ri zf_230 rfl zr_230 rfl)
theorem e230_82 (L : Nat) (o1 : Option Value) (M : zM) : zden (L + 1) 230 82 [some (.ref 48), o1] [] M =
  some (some (.int (M 48 3)), M) :=
  (zd_w zf_230 20 2 rfl).trans
  (zd_ri zf_230 rfl zr_230 rfl)
theorem e230_77 (L : Nat) (o1 : Option Value) (M : zM) : zden (L + 1) 230 77 [some (.ref 48), o1] [] M =
  some (some (.int (M 48 10)), M) :=
  (zd_w zf_230 17 2 rfl).trans
  (zd_ri zf_230 rfl zr_230 rfl)
theorem e230_72 (L : Nat) (o1 : Option Value) (M : zM) : zden (L + 1) 230 72 [some (.ref 48), o1] [] M =
  some (some (.int (M 48 6)), M) :=
  (zd_w zf_230 14 2 rfl).trans
  (zd_ri zf_230 rfl zr_230 rfl)
theorem e230_67 (L : Nat) (o1 : Option Value) (M : zM) : zden (L + 1) 230 67 [some (.ref 48), o1] [] M =
  some (some (.int (M 48 8)), M) :=
  (zd_w zf_230 11 2 rfl).trans
  (zd_ri zf_230 rfl zr_230 rfl)
theorem e230_59 (L : Nat) (o1 : Option Value) (M : zM) : zden (L + 1) 230 59 [some (.ref 48), o1] [] M =
  zbI (zden (L + 1) 213 0 [some (.ref 48), none, none] [] M) (fun r1 M1 => zbI (zden (L + 1) 218 0 [some (.int r1), none, none] [] M1) (fun r2 M2 => some (some (.int r2), M2))) :=
  (zd_w zf_230 7 1 rfl).trans
  (zd_ci zf_230 rfl rfl rfl rfl (fun r1 M1 => zd_ci zf_230 rfl rfl rfl rfl (fun r2 M2 => zd_ri zf_230 rfl zr_230 rfl)))
theorem e230_52 (L : Nat) (v1 : Int32) (M : zM) : zden (L + 1) 230 52 [some (.ref 48), some (.int v1)] [] M =
  if zinb v1 116 = true then (some (some (.int (M 49 v1.toNatClampNeg)), M)) else none :=
  (zd_w zf_230 2 3 rfl).trans
  (zd_ld zf_230 rfl rfl (zd_ri zf_230 rfl zr_230 rfl))
theorem e96_0 (L : Nat) (v1 : Int32) (M : zM) : zden (L + 1) 96 0 [some (.ref 0), some (.int v1)] [] M =
  zbI (zden (L + 1) 46 0 [some (.int v1), some (.int 32), some (.int 126)] [] M) (fun r1 M1 => if r1 = 0 then (some (some (.int (-1)), M1)) else (zbI (zden (L + 1) 29 0 [some (.ref 23), some (.int ((v1.toUInt32 % 65536).toInt32))] [] M1) (fun r2 M2 => some (some (.int r2), M2)))) :=
  (zd_w zf_96 0 3 rfl).trans
  (zd_ci zf_96 rfl rfl rfl rfl (fun r1 M1 => zd_ne0 zf_96 rfl ((zd_w zf_96 7 4 rfl).trans
  (zd_ci zf_96 rfl rfl rfl rfl (fun r2 M2 => zd_ri zf_96 rfl zr_96 rfl))) ((zd_w zf_96 5 1 rfl).trans
  (zd_ri zf_96 rfl zr_96 rfl))))
theorem e97_0 (L : Nat)  (M : zM) : zden (L + 1) 97 0 [some (.ref 0)] [] M =
  zbI (zden (L + 1) 30 0 [some (.ref 23), none] [] M) (fun r1 M1 => some (some (.int r1), M1)) :=
  (zd_w zf_97 0 2 rfl).trans
  (zd_ci zf_97 rfl rfl rfl rfl (fun r1 M1 => zd_ri zf_97 rfl zr_97 rfl))
theorem e98_0 (L : Nat)  (M : zM) : zden (L + 1) 98 0 [some (.ref 0)] [] M =
  zbI (zden (L + 1) 56 0 [some (.ref 23), some (.ref 12), none, none, none] [] M) (fun r1 M1 => some (some (.int r1), M1)) :=
  (zd_w zf_98 0 4 rfl).trans
  (zd_ci zf_98 rfl rfl rfl rfl (fun r1 M1 => zd_ri zf_98 rfl zr_98 rfl))
theorem e99_0 (L : Nat)  (M : zM) : zden (L + 1) 99 0 [some (.ref 0)] [] M =
  zbI (zden (L + 1) 56 0 [some (.ref 23), some (.ref 12), none, none, none] [] M) (fun r1 M1 => if r1 = (-4) then (if (M1 12 2) < 1 then (zden (L + 1) 99 27 [some (.ref 0)] [] M1) else (zbI (zden (L + 1) 56 0 [some (.ref 23), some (.ref 1), none, none, none] [] M1) (fun r2 M2 => zbV (zden (L + 1) 14 0 [some (.ref 45)] [] M2) (fun M3 => zbV (zden (L + 1) 95 0 [some (.ref 0), some (.int 0)] [] M3) (fun M4 => some (some (.int (M4 1 2)), M4)))))) else (zden (L + 1) 99 27 [some (.ref 0)] [] M1)) :=
  (zd_w zf_99 0 4 rfl).trans
  (zd_ci zf_99 rfl rfl rfl rfl (fun r1 M1 => (zd_w zf_99 5 1 rfl).trans
  (zd_ne zf_99 rfl (rfl) ((zd_w zf_99 7 4 rfl).trans
  (zd_ge zf_99 rfl ((zd_w zf_99 14 4 rfl).trans
  (zd_ci zf_99 rfl rfl rfl rfl (fun r2 M2 => (zd_w zf_99 19 3 rfl).trans
  (zd_cv zf_99 rfl rfl rfl rfl (fun M3 => (zd_w zf_99 23 2 rfl).trans
  (zd_cv zf_99 rfl rfl rfl rfl (fun M4 => (zd_w zf_99 26 3 rfl).trans
  (zd_ri zf_99 rfl zr_99 rfl)))))))) (rfl))))))
theorem e99_27 (L : Nat) (o0 : Option Value) (M : zM) : zden (L + 1) 99 27 [o0] [] M =
  some (some (.int (-2)), M) :=
  (zd_w zf_99 12 1 rfl).trans
  (zd_ri zf_99 rfl zr_99 rfl)
theorem e32E_1_0  (M : zM) : zden 0 32 0 [some (.ref 1)] [] M =
  zbV (zden 0 19 0 [some (.ref 7), some (.int 0), none, none] [] (zput (zput (zput (zput (zput M 1 2 0) 1 6 0) 1 9 0) 1 13 0) 1 14 0)) (fun M1 => zbV (zden 0 31 0 [some (.ref 63), some (.ref 4), none] [] M1) (fun M2 => some (none, M2))) :=
  (zd_w zf_32 0 18 rfl).trans
  (zd_cv zf_32 rfl rfl rfl rfl (fun M1 => (zd_w zf_32 19 3 rfl).trans
  (zd_cv zf_32 rfl rfl rfl rfl (fun M2 => zd_rv zf_32 rfl))))
theorem e47E_1_0 (v1 : Int32) (v2 : Int32) (M : zM) : zden 0 47 0 [some (.ref 1), some (.int v1), some (.int v2)] [] M =
  if (M 1 2) < 12 then (zbV (zden 0 5 0 [some (.ref 2), some (.int (M 1 2)), some (.int v1)] [] M) (fun M1 => zbV (zden 0 5 0 [some (.ref 3), some (.int (M1 1 2)), some (.int v2)] [] M1) (fun M2 => some (some (.int 1), zput M2 1 2 ((M2 1 2) + 1))))) else (some (some (.int 0), M)) :=
  (zd_w zf_47 0 3 rfl).trans
  (zd_lt zf_47 rfl ((zd_w zf_47 6 5 rfl).trans
  (zd_cv zf_47 rfl rfl rfl rfl (fun M1 => (zd_w zf_47 12 5 rfl).trans
  (zd_cv zf_47 rfl rfl rfl rfl (fun M2 => (zd_w zf_47 18 7 rfl).trans
  (zd_ri zf_47 rfl zr_47 rfl)))))) ((zd_w zf_47 4 1 rfl).trans
  (zd_ri zf_47 rfl zr_47 rfl)))
theorem e95E_0 (v1 : Int32) (M : zM) : zden 0 95 0 [some (.ref 0), some (.int v1)] [] M =
  zbV (zden 0 19 0 [some (.ref 40), some (.int 0), none, none] [] M) (fun M1 => if v1 = 0 then (zden 0 95 22 [some (.ref 0), some (.int v1)] [.int 0, .int 1, .ref 40] M1) else (zden 0 95 22 [some (.ref 0), some (.int v1)] [.int 1, .int 1, .ref 40] M1)) :=
  (zd_w zf_95 0 3 rfl).trans
  (zd_cv zf_95 rfl rfl rfl rfl (fun M1 => (zd_w zf_95 4 4 rfl).trans
  (zd_eq0 zf_95 rfl ((zd_w zf_95 11 1 rfl)) ((zd_w zf_95 9 1 rfl).trans
  (zd_goto zf_95 rfl (rfl))))))
theorem e95E_22 (o1 : Option Value) (s0 : Int32) (s1 : Int32) (M : zM) : zden 0 95 22 [some (.ref 0), o1] [.int s0, .int s1, .ref 40] M =
  zbV (zden 0 5 0 [some (.ref 40), some (.int s1), some (.int s0)] [] M) (fun M1 => zbI (zden 0 0 0 [some (.ref 1), some (.int 7)] [] M1) (fun r2 M2 => zbV (zden 0 5 0 [some (.ref 40), some (.int 2), some (.int r2)] [] M2) (fun M3 => zbV (zden 0 94 0 [some (.ref 0)] [] M3) (fun M4 => some (none, M4))))) :=
  zd_cv zf_95 rfl rfl rfl rfl (fun M1 => (zd_w zf_95 13 6 rfl).trans
  (zd_ci zf_95 rfl rfl rfl rfl (fun r2 M2 => zd_cv zf_95 rfl rfl rfl rfl (fun M3 => (zd_w zf_95 21 1 rfl).trans
  (zd_cv zf_95 rfl rfl rfl rfl (fun M4 => zd_rv zf_95 rfl))))))
theorem e141_49_0 (L : Nat)  (M : zM) : zden (L + 1) 141 0 [some (.ref 49), none] [] M =
  zden (L + 1) 141 2 [some (.ref 49), some (.int 0)] [] M :=
  (zd_w zf_141 0 2 rfl)
theorem e141_49_2 (L : Nat) (v1 : Int32) (M : zM) : zden (L + 1) 141 2 [some (.ref 49), some (.int v1)] [] M =
  if v1 < 116 then (if zinb v1 116 = true then (zden (L + 1) 141 2 [some (.ref 49), some (.int (v1 + 1))] [] (zput M 49 v1.toNatClampNeg 0)) else none) else (some (none, zput (zput (zput (zput (zput (zput (zput (zput (zput (zput (zput M 49 4 20) 49 5 20) 49 6 30) 49 8 10) 49 9 30) 49 10 20) 49 11 40) 49 12 20) 49 13 20) 49 14 60) 49 15 9)) :=
  (zd_w zf_141 2 2 rfl).trans
  (zd_ge zf_141 rfl ((zd_w zf_141 11 44 rfl).trans
  (zd_rv zf_141 rfl)) ((zd_w zf_141 5 3 rfl).trans
  (zd_st zf_141 rfl rfl rfl ((zd_w zf_141 9 1 rfl).trans
  (zd_goto zf_141 rfl (rfl))))))
theorem e142_0 (L : Nat) (v1 : Int32) (M : zM) : zden (L + 1) 142 0 [some (.ref 48), some (.int v1), none] [] M =
  zden (L + 1) 142 2 [some (.ref 48), some (.int v1), some (.int 0)] [] M :=
  (zd_w zf_142 0 2 rfl)
theorem e142_2 (L : Nat) (v1 : Int32) (v2 : Int32) (M : zM) : zden (L + 1) 142 2 [some (.ref 48), some (.int v1), some (.int v2)] [] M =
  if v2 < 6 then (if zinb v2 6 = true then (zden (L + 1) 142 2 [some (.ref 48), some (.int v1), some (.int (v2 + 1))] [] (zput M 52 v2.toNatClampNeg 0)) else none) else (some (none, zput (zput (zput (zput M 52 1 v1) 52 2 ((zput M 52 1 v1) 49 11)) 48 6 0) 48 8 0)) :=
  (zd_w zf_142 2 2 rfl).trans
  (zd_ge zf_142 rfl ((zd_w zf_142 12 19 rfl).trans
  (zd_rv zf_142 rfl)) ((zd_w zf_142 5 4 rfl).trans
  (zd_st zf_142 rfl rfl rfl ((zd_w zf_142 10 1 rfl).trans
  (zd_goto zf_142 rfl (rfl))))))
theorem e4_2_0 (L : Nat) (v1 : Int32) (M : zM) : zden (L + 1) 4 0 [some (.ref 2), some (.int v1)] [] M =
  if v1 < 0 then (zden (L + 1) 4 16 [some (.ref 2), some (.int v1)] [] M) else (if v1 < 12 then (if zinb v1 12 = true then (zden (L + 1) 4 17 [some (.ref 2), some (.int v1)] [.int (M 2 v1.toNatClampNeg)] M) else none) else (zden (L + 1) 4 16 [some (.ref 2), some (.int v1)] [] M)) :=
  (zd_w zf_4 0 1 rfl).trans
  (zd_lt0 zf_4 rfl (rfl) ((zd_w zf_4 2 3 rfl).trans
  (zd_ge zf_4 rfl (rfl) ((zd_w zf_4 6 2 rfl).trans
  (zd_ld zf_4 rfl rfl (zd_goto zf_4 rfl (rfl)))))))
theorem e4_2_16 (L : Nat) (o0 : Option Value) (o1 : Option Value) (M : zM) : zden (L + 1) 4 16 [o0, o1] [] M =
  zden (L + 1) 4 17 [o0, o1] [.int 0] M :=
  (zd_w zf_4 10 1 rfl)
theorem e4_2_17 (L : Nat) (o0 : Option Value) (o1 : Option Value) (s0 : Int32) (M : zM) : zden (L + 1) 4 17 [o0, o1] [.int s0] M =
  some (some (.int s0), M) :=
  zd_ri zf_4 rfl zr_4 rfl
theorem e4_3_0 (L : Nat) (v1 : Int32) (M : zM) : zden (L + 1) 4 0 [some (.ref 3), some (.int v1)] [] M =
  if v1 < 0 then (zden (L + 1) 4 16 [some (.ref 3), some (.int v1)] [] M) else (if v1 < 12 then (if zinb v1 12 = true then (zden (L + 1) 4 17 [some (.ref 3), some (.int v1)] [.int (M 3 v1.toNatClampNeg)] M) else none) else (zden (L + 1) 4 16 [some (.ref 3), some (.int v1)] [] M)) :=
  (zd_w zf_4 0 1 rfl).trans
  (zd_lt0 zf_4 rfl (rfl) ((zd_w zf_4 2 3 rfl).trans
  (zd_ge zf_4 rfl (rfl) ((zd_w zf_4 6 2 rfl).trans
  (zd_ld zf_4 rfl rfl (zd_goto zf_4 rfl (rfl)))))))
theorem e4_3_16 (L : Nat) (o0 : Option Value) (o1 : Option Value) (M : zM) : zden (L + 1) 4 16 [o0, o1] [] M =
  zden (L + 1) 4 17 [o0, o1] [.int 0] M :=
  (zd_w zf_4 10 1 rfl)
theorem e4_3_17 (L : Nat) (o0 : Option Value) (o1 : Option Value) (s0 : Int32) (M : zM) : zden (L + 1) 4 17 [o0, o1] [.int s0] M =
  some (some (.int s0), M) :=
  zd_ri zf_4 rfl zr_4 rfl
theorem e46_0 (L : Nat) (v0 : Int32) (v1 : Int32) (v2 : Int32) (M : zM) : zden (L + 1) 46 0 [some (.int v0), some (.int v1), some (.int v2)] [] M =
  if v0 < v1 then (zden (L + 1) 46 14 [some (.int v0), some (.int v1), some (.int v2)] [] M) else (if v2 < v0 then (zden (L + 1) 46 14 [some (.int v0), some (.int v1), some (.int v2)] [] M) else (zden (L + 1) 46 15 [some (.int v0), some (.int v1), some (.int v2)] [.int 1] M)) :=
  (zd_w zf_46 0 2 rfl).trans
  (zd_lt zf_46 rfl (rfl) ((zd_w zf_46 3 2 rfl).trans
  (zd_gt zf_46 rfl (rfl) ((zd_w zf_46 6 1 rfl).trans
  (zd_goto zf_46 rfl (rfl))))))
theorem e46_14 (L : Nat) (o0 : Option Value) (o1 : Option Value) (o2 : Option Value) (M : zM) : zden (L + 1) 46 14 [o0, o1, o2] [] M =
  zden (L + 1) 46 15 [o0, o1, o2] [.int 0] M :=
  (zd_w zf_46 8 1 rfl)
theorem e46_15 (L : Nat) (o0 : Option Value) (o1 : Option Value) (o2 : Option Value) (s0 : Int32) (M : zM) : zden (L + 1) 46 15 [o0, o1, o2] [.int s0] M =
  if zfit (some .boolean) s0 = true then some (some (.int s0), M) else none :=
  zd_rf zf_46 rfl zr_46
theorem e0_1_0 (L : Nat) (v1 : Int32) (M : zM) : zden (L + 1) 0 0 [some (.ref 1), some (.int v1)] [] M =
  if v1 < 0 then (zden (L + 1) 0 22 [some (.ref 1), some (.int v1)] [] M) else (if v1 < 12 then (if zinb v1 12 = true then (zden (L + 1) 0 23 [some (.ref 1), some (.int v1)] [.int (M 4 v1.toNatClampNeg)] M) else none) else (zden (L + 1) 0 22 [some (.ref 1), some (.int v1)] [] M)) :=
  (zd_w zf_0 0 1 rfl).trans
  (zd_lt0 zf_0 rfl (rfl) ((zd_w zf_0 2 4 rfl).trans
  (zd_ge zf_0 rfl (rfl) ((zd_w zf_0 7 3 rfl).trans
  (zd_ld zf_0 rfl rfl (zd_goto zf_0 rfl (rfl)))))))
theorem e0_1_22 (L : Nat) (o0 : Option Value) (o1 : Option Value) (M : zM) : zden (L + 1) 0 22 [o0, o1] [] M =
  zden (L + 1) 0 23 [o0, o1] [.int 0] M :=
  (zd_w zf_0 12 1 rfl)
theorem e0_1_23 (L : Nat) (o0 : Option Value) (o1 : Option Value) (s0 : Int32) (M : zM) : zden (L + 1) 0 23 [o0, o1] [.int s0] M =
  some (some (.int s0), M) :=
  zd_ri zf_0 rfl zr_0 rfl
theorem e58_1_0 (L : Nat)  (M : zM) : zden (L + 1) 58 0 [some (.ref 1)] [] M =
  zbI (zden (L + 1) 0 0 [some (.ref 1), some (.int 1)] [] M) (fun r1 M1 => zbI (zden (L + 1) 0 0 [some (.ref 1), some (.int 3)] [] M1) (fun r2 M2 => zbI (zden (L + 1) 0 0 [some (.ref 1), some (.int 4)] [] M2) (fun r3 M3 => some (some (.int ((r1 + r2) + r3)), M3)))) :=
  (zd_w zf_58 0 2 rfl).trans
  (zd_ci zf_58 rfl rfl rfl rfl (fun r1 M1 => (zd_w zf_58 3 2 rfl).trans
  (zd_ci zf_58 rfl rfl rfl rfl (fun r2 M2 => (zd_w zf_58 6 3 rfl).trans
  (zd_ci zf_58 rfl rfl rfl rfl (fun r3 M3 => (zd_w zf_58 10 1 rfl).trans
  (zd_ri zf_58 rfl zr_58 rfl)))))))
theorem e4_5_0 (L : Nat) (v1 : Int32) (M : zM) : zden (L + 1) 4 0 [some (.ref 5), some (.int v1)] [] M =
  if v1 < 0 then (zden (L + 1) 4 16 [some (.ref 5), some (.int v1)] [] M) else (if v1 < 4 then (if zinb v1 4 = true then (zden (L + 1) 4 17 [some (.ref 5), some (.int v1)] [.int (M 5 v1.toNatClampNeg)] M) else none) else (zden (L + 1) 4 16 [some (.ref 5), some (.int v1)] [] M)) :=
  (zd_w zf_4 0 1 rfl).trans
  (zd_lt0 zf_4 rfl (rfl) ((zd_w zf_4 2 3 rfl).trans
  (zd_ge zf_4 rfl (rfl) ((zd_w zf_4 6 2 rfl).trans
  (zd_ld zf_4 rfl rfl (zd_goto zf_4 rfl (rfl)))))))
theorem e4_5_16 (L : Nat) (o0 : Option Value) (o1 : Option Value) (M : zM) : zden (L + 1) 4 16 [o0, o1] [] M =
  zden (L + 1) 4 17 [o0, o1] [.int 0] M :=
  (zd_w zf_4 10 1 rfl)
theorem e4_5_17 (L : Nat) (o0 : Option Value) (o1 : Option Value) (s0 : Int32) (M : zM) : zden (L + 1) 4 17 [o0, o1] [.int s0] M =
  some (some (.int s0), M) :=
  zd_ri zf_4 rfl zr_4 rfl
theorem e4_6_0 (L : Nat) (v1 : Int32) (M : zM) : zden (L + 1) 4 0 [some (.ref 6), some (.int v1)] [] M =
  if v1 < 0 then (zden (L + 1) 4 16 [some (.ref 6), some (.int v1)] [] M) else (if v1 < 4 then (if zinb v1 4 = true then (zden (L + 1) 4 17 [some (.ref 6), some (.int v1)] [.int (M 6 v1.toNatClampNeg)] M) else none) else (zden (L + 1) 4 16 [some (.ref 6), some (.int v1)] [] M)) :=
  (zd_w zf_4 0 1 rfl).trans
  (zd_lt0 zf_4 rfl (rfl) ((zd_w zf_4 2 3 rfl).trans
  (zd_ge zf_4 rfl (rfl) ((zd_w zf_4 6 2 rfl).trans
  (zd_ld zf_4 rfl rfl (zd_goto zf_4 rfl (rfl)))))))
theorem e4_6_16 (L : Nat) (o0 : Option Value) (o1 : Option Value) (M : zM) : zden (L + 1) 4 16 [o0, o1] [] M =
  zden (L + 1) 4 17 [o0, o1] [.int 0] M :=
  (zd_w zf_4 10 1 rfl)
theorem e4_6_17 (L : Nat) (o0 : Option Value) (o1 : Option Value) (s0 : Int32) (M : zM) : zden (L + 1) 4 17 [o0, o1] [.int s0] M =
  some (some (.int s0), M) :=
  zd_ri zf_4 rfl zr_4 rfl
theorem e4_7_0 (L : Nat) (v1 : Int32) (M : zM) : zden (L + 1) 4 0 [some (.ref 7), some (.int v1)] [] M =
  if v1 < 0 then (zden (L + 1) 4 16 [some (.ref 7), some (.int v1)] [] M) else (if v1 < 24 then (if zinb v1 24 = true then (zden (L + 1) 4 17 [some (.ref 7), some (.int v1)] [.int (M 7 v1.toNatClampNeg)] M) else none) else (zden (L + 1) 4 16 [some (.ref 7), some (.int v1)] [] M)) :=
  (zd_w zf_4 0 1 rfl).trans
  (zd_lt0 zf_4 rfl (rfl) ((zd_w zf_4 2 3 rfl).trans
  (zd_ge zf_4 rfl (rfl) ((zd_w zf_4 6 2 rfl).trans
  (zd_ld zf_4 rfl rfl (zd_goto zf_4 rfl (rfl)))))))
theorem e4_7_16 (L : Nat) (o0 : Option Value) (o1 : Option Value) (M : zM) : zden (L + 1) 4 16 [o0, o1] [] M =
  zden (L + 1) 4 17 [o0, o1] [.int 0] M :=
  (zd_w zf_4 10 1 rfl)
theorem e4_7_17 (L : Nat) (o0 : Option Value) (o1 : Option Value) (s0 : Int32) (M : zM) : zden (L + 1) 4 17 [o0, o1] [.int s0] M =
  some (some (.int s0), M) :=
  zd_ri zf_4 rfl zr_4 rfl
theorem e18_0 (L : Nat) (v0 : Int32) (v1 : Int32) (M : zM) : zden (L + 1) 18 0 [some (.int v0), some (.int v1)] [] M =
  if ((v0 >>> (v1 &&& 31)) &&& 1) = 1 then (zden (L + 1) 18 14 [some (.int v0), some (.int v1)] [.int 1] M) else (zden (L + 1) 18 14 [some (.int v0), some (.int v1)] [.int 0] M) :=
  (zd_w zf_18 0 6 rfl).trans
  (zd_ne zf_18 rfl ((zd_w zf_18 9 1 rfl)) ((zd_w zf_18 7 1 rfl).trans
  (zd_goto zf_18 rfl (rfl))))
theorem e18_14 (L : Nat) (o0 : Option Value) (o1 : Option Value) (s0 : Int32) (M : zM) : zden (L + 1) 18 14 [o0, o1] [.int s0] M =
  if zfit (some .boolean) s0 = true then some (some (.int s0), M) else none :=
  zd_rf zf_18 rfl zr_18
theorem e4_8_0 (L : Nat) (v1 : Int32) (M : zM) : zden (L + 1) 4 0 [some (.ref 8), some (.int v1)] [] M =
  if v1 < 0 then (zden (L + 1) 4 16 [some (.ref 8), some (.int v1)] [] M) else (if v1 < 7 then (if zinb v1 7 = true then (zden (L + 1) 4 17 [some (.ref 8), some (.int v1)] [.int (M 8 v1.toNatClampNeg)] M) else none) else (zden (L + 1) 4 16 [some (.ref 8), some (.int v1)] [] M)) :=
  (zd_w zf_4 0 1 rfl).trans
  (zd_lt0 zf_4 rfl (rfl) ((zd_w zf_4 2 3 rfl).trans
  (zd_ge zf_4 rfl (rfl) ((zd_w zf_4 6 2 rfl).trans
  (zd_ld zf_4 rfl rfl (zd_goto zf_4 rfl (rfl)))))))
theorem e4_8_16 (L : Nat) (o0 : Option Value) (o1 : Option Value) (M : zM) : zden (L + 1) 4 16 [o0, o1] [] M =
  zden (L + 1) 4 17 [o0, o1] [.int 0] M :=
  (zd_w zf_4 10 1 rfl)
theorem e4_8_17 (L : Nat) (o0 : Option Value) (o1 : Option Value) (s0 : Int32) (M : zM) : zden (L + 1) 4 17 [o0, o1] [.int s0] M =
  some (some (.int s0), M) :=
  zd_ri zf_4 rfl zr_4 rfl
theorem e95_0 (L : Nat) (v1 : Int32) (M : zM) : zden (L + 1) 95 0 [some (.ref 0), some (.int v1)] [] M =
  zbV (zden (L + 1) 19 0 [some (.ref 40), some (.int 0), none, none] [] M) (fun M1 => if v1 = 0 then (zden (L + 1) 95 22 [some (.ref 0), some (.int v1)] [.int 0, .int 1, .ref 40] M1) else (zden (L + 1) 95 22 [some (.ref 0), some (.int v1)] [.int 1, .int 1, .ref 40] M1)) :=
  (zd_w zf_95 0 3 rfl).trans
  (zd_cv zf_95 rfl rfl rfl rfl (fun M1 => (zd_w zf_95 4 4 rfl).trans
  (zd_eq0 zf_95 rfl ((zd_w zf_95 11 1 rfl)) ((zd_w zf_95 9 1 rfl).trans
  (zd_goto zf_95 rfl (rfl))))))
theorem e95_22 (L : Nat) (o1 : Option Value) (s0 : Int32) (s1 : Int32) (M : zM) : zden (L + 1) 95 22 [some (.ref 0), o1] [.int s0, .int s1, .ref 40] M =
  zbV (zden (L + 1) 5 0 [some (.ref 40), some (.int s1), some (.int s0)] [] M) (fun M1 => zbI (zden (L + 1) 0 0 [some (.ref 1), some (.int 7)] [] M1) (fun r2 M2 => zbV (zden (L + 1) 5 0 [some (.ref 40), some (.int 2), some (.int r2)] [] M2) (fun M3 => zbV (zden (L + 1) 94 0 [some (.ref 0)] [] M3) (fun M4 => some (none, M4))))) :=
  zd_cv zf_95 rfl rfl rfl rfl (fun M1 => (zd_w zf_95 13 6 rfl).trans
  (zd_ci zf_95 rfl rfl rfl rfl (fun r2 M2 => zd_cv zf_95 rfl rfl rfl rfl (fun M3 => (zd_w zf_95 21 1 rfl).trans
  (zd_cv zf_95 rfl rfl rfl rfl (fun M4 => zd_rv zf_95 rfl))))))
theorem e60_0 (L : Nat) (v1 : Int32) (v2 : Int32) (v3 : Int32) (v4 : Int32) (M : zM) : zden (L + 1) 60 0 [some (.ref 26), some (.int v1), some (.int v2), some (.int v3), some (.int v4), none] [] M =
  zbI (zden (L + 1) 4 0 [some (.ref 2), some (.int v1)] [] M) (fun r1 M1 => zbI (zden (L + 1) 4 0 [some (.ref 67), some (.int v2)] [] M1) (fun r2 M2 => zbI (zden (L + 1) 0 0 [some (.ref 1), some (.int 0)] [] M2) (fun r3 M3 => zbI (zden (L + 1) 59 0 [some (.int (v4 * r1)), some (.int (r2 * r3))] [] M3) (fun r4 M4 => if v3 = 0 then (zden (L + 1) 60 53 [some (.ref 26), some (.int v1), some (.int v2), some (.int v3), some (.int v4), some (.int r4)] [.int r4] M4) else (zbI (zden (L + 1) 59 0 [some (.int r4), some (.int 2)] [] M4) (fun r5 M5 => zden (L + 1) 60 53 [some (.ref 26), some (.int v1), some (.int v2), some (.int v3), some (.int v4), some (.int r4)] [.int (r4 + r5)] M5)))))) :=
  (zd_w zf_60 0 5 rfl).trans
  (zd_ci zf_60 rfl rfl rfl rfl (fun r1 M1 => (zd_w zf_60 6 3 rfl).trans
  (zd_ci zf_60 rfl rfl rfl rfl (fun r2 M2 => (zd_w zf_60 10 3 rfl).trans
  (zd_ci zf_60 rfl rfl rfl rfl (fun r3 M3 => (zd_w zf_60 14 1 rfl).trans
  (zd_ci zf_60 rfl rfl rfl rfl (fun r4 M4 => (zd_w zf_60 16 2 rfl).trans
  (zd_eq0 zf_60 rfl ((zd_w zf_60 25 1 rfl)) ((zd_w zf_60 19 3 rfl).trans
  (zd_ci zf_60 rfl rfl rfl rfl (fun r5 M5 => (zd_w zf_60 23 1 rfl).trans
  (zd_goto zf_60 rfl (rfl))))))))))))))
theorem e60_53 (L : Nat) (o0 : Option Value) (o1 : Option Value) (o2 : Option Value) (o3 : Option Value) (o4 : Option Value) (o5 : Option Value) (s0 : Int32) (M : zM) : zden (L + 1) 60 53 [o0, o1, o2, o3, o4, o5] [.int s0] M =
  some (some (.int s0), M) :=
  zd_ri zf_60 rfl zr_60 rfl
theorem e61_0 (L : Nat) (v1 : Int32) (v2 : Int32) (v3 : Int32) (M : zM) : zden (L + 1) 61 0 [some (.ref 26), some (.int v1), some (.int v2), some (.int v3), none] [] M =
  if v2 = 2 then (some (some (.int 1), M)) else (if v2 = 0 then (zden (L + 1) 61 16 [some (.ref 26), some (.int v1), some (.int v2), some (.int v3), none] [.int 2] M) else (zden (L + 1) 61 16 [some (.ref 26), some (.int v1), some (.int v2), some (.int v3), none] [.int 1] M)) :=
  (zd_w zf_61 0 2 rfl).trans
  (zd_ne zf_61 rfl ((zd_w zf_61 5 1 rfl).trans
  (zd_ne0 zf_61 rfl ((zd_w zf_61 9 1 rfl)) ((zd_w zf_61 7 1 rfl).trans
  (zd_goto zf_61 rfl (rfl))))) ((zd_w zf_61 3 1 rfl).trans
  (zd_ri zf_61 rfl zr_61 rfl)))
theorem e61_16 (L : Nat) (v1 : Int32) (o2 : Option Value) (v3 : Int32) (o4 : Option Value) (s0 : Int32) (M : zM) : zden (L + 1) 61 16 [some (.ref 26), some (.int v1), o2, some (.int v3), o4] [.int s0] M =
  zbI (zden (L + 1) 4 0 [some (.ref 2), some (.int v1)] [] M) (fun r1 M1 => zbI (zden (L + 1) 0 0 [some (.ref 1), some (.int 0)] [] M1) (fun r2 M2 => if r2 < (s0 * r1) then (zden (L + 1) 61 59 [some (.ref 26), some (.int v1), o2, some (.int v3), some (.int (s0 * r1))] [] M2) else (zbI (zden (L + 1) 0 0 [some (.ref 1), some (.int 2)] [] M2) (fun r3 M3 => if r3 < v3 then (zden (L + 1) 61 59 [some (.ref 26), some (.int v1), o2, some (.int v3), some (.int (s0 * r1))] [] M3) else (zden (L + 1) 61 60 [some (.ref 26), some (.int v1), o2, some (.int v3), some (.int (s0 * r1))] [.int 1] M3))))) :=
  (zd_w zf_61 10 4 rfl).trans
  (zd_ci zf_61 rfl rfl rfl rfl (fun r1 M1 => (zd_w zf_61 15 5 rfl).trans
  (zd_ci zf_61 rfl rfl rfl rfl (fun r2 M2 => (zd_w zf_61 21 1 rfl).trans
  (zd_lt zf_61 rfl (rfl) ((zd_w zf_61 23 4 rfl).trans
  (zd_ci zf_61 rfl rfl rfl rfl (fun r3 M3 => zd_gt zf_61 rfl (rfl) ((zd_w zf_61 29 1 rfl).trans
  (zd_goto zf_61 rfl (rfl)))))))))))
theorem e61_59 (L : Nat) (o0 : Option Value) (o1 : Option Value) (o2 : Option Value) (o3 : Option Value) (o4 : Option Value) (M : zM) : zden (L + 1) 61 59 [o0, o1, o2, o3, o4] [] M =
  zden (L + 1) 61 60 [o0, o1, o2, o3, o4] [.int 0] M :=
  (zd_w zf_61 31 1 rfl)
theorem e61_60 (L : Nat) (o0 : Option Value) (o1 : Option Value) (o2 : Option Value) (o3 : Option Value) (o4 : Option Value) (s0 : Int32) (M : zM) : zden (L + 1) 61 60 [o0, o1, o2, o3, o4] [.int s0] M =
  if zfit (some .boolean) s0 = true then some (some (.int s0), M) else none :=
  zd_rf zf_61 rfl zr_61
theorem e62_0 (L : Nat) (v1 : Int32) (v2 : Int32) (v3 : Int32) (M : zM) : zden (L + 1) 62 0 [some (.ref 26), some (.int v1), some (.int v2), some (.int v3), none] [] M =
  zbI (zden (L + 1) 4 0 [some (.ref 2), some (.int v1)] [] M) (fun r1 M1 => if v2 = 1 then (zbI (zden (L + 1) 59 0 [some (.int r1), some (.int 2)] [] M1) (fun r2 M2 => some (some (.int (r1 + r2)), M2))) else (if v2 = 0 then (if v3 = 0 then (zden (L + 1) 62 45 [some (.ref 26), some (.int v1), some (.int v2), some (.int v3), some (.int r1)] [.int r1] M1) else (zden (L + 1) 62 41 [some (.ref 26), some (.int v1), some (.int v2), some (.int v3), some (.int r1)] [] M1)) else (zden (L + 1) 62 41 [some (.ref 26), some (.int v1), some (.int v2), some (.int v3), some (.int r1)] [] M1))) :=
  (zd_w zf_62 0 4 rfl).trans
  (zd_ci zf_62 rfl rfl rfl rfl (fun r1 M1 => (zd_w zf_62 5 3 rfl).trans
  (zd_ne zf_62 rfl ((zd_w zf_62 15 1 rfl).trans
  (zd_ne0 zf_62 rfl (rfl) ((zd_w zf_62 17 1 rfl).trans
  (zd_ne0 zf_62 rfl (rfl) ((zd_w zf_62 19 1 rfl).trans
  (zd_goto zf_62 rfl (rfl))))))) ((zd_w zf_62 9 3 rfl).trans
  (zd_ci zf_62 rfl rfl rfl rfl (fun r2 M2 => (zd_w zf_62 13 1 rfl).trans
  (zd_ri zf_62 rfl zr_62 rfl)))))))
theorem e62_41 (L : Nat) (o0 : Option Value) (o1 : Option Value) (o2 : Option Value) (o3 : Option Value) (v4 : Int32) (M : zM) : zden (L + 1) 62 41 [o0, o1, o2, o3, some (.int v4)] [] M =
  zden (L + 1) 62 45 [o0, o1, o2, o3, some (.int v4)] [.int (2 * v4)] M :=
  (zd_w zf_62 21 3 rfl)
theorem e62_45 (L : Nat) (o0 : Option Value) (o1 : Option Value) (o2 : Option Value) (o3 : Option Value) (o4 : Option Value) (s0 : Int32) (M : zM) : zden (L + 1) 62 45 [o0, o1, o2, o3, o4] [.int s0] M =
  some (some (.int s0), M) :=
  zd_ri zf_62 rfl zr_62 rfl
theorem e68_0 (L : Nat) (v0 : Int32) (M : zM) : zden (L + 1) 68 0 [some (.int v0)] [] M =
  zbI (zden (L + 1) 4 0 [some (.ref 68), some (.int v0)] [] M) (fun r1 M1 => some (some (.int r1), M1)) :=
  (zd_w zf_68 0 2 rfl).trans
  (zd_ci zf_68 rfl rfl rfl rfl (fun r1 M1 => zd_ri zf_68 rfl zr_68 rfl))
theorem e107_0 (L : Nat) (v1 : Int32) (M : zM) : zden (L + 1) 107 0 [some (.ref 0), some (.int v1)] [] M =
  zbV (zden (L + 1) 31 0 [some (.ref 40), some (.ref 41), none] [] M) (fun M1 => zbI (zden (L + 1) 77 0 [some (.ref 26), some (.ref 41), some (.int v1)] [] M1) (fun r2 M2 => if r2 = 0 then (some (some (.int 0), M2)) else (zbV (zden (L + 1) 16 0 [some (.ref 43), some (.ref 40), none] [] M2) (fun M3 => zbV (zden (L + 1) 31 0 [some (.ref 41), some (.ref 40), none] [] M3) (fun M4 => some (some (.int 1), M4)))))) :=
  (zd_w zf_107 0 4 rfl).trans
  (zd_cv zf_107 rfl rfl rfl rfl (fun M1 => (zd_w zf_107 5 5 rfl).trans
  (zd_ci zf_107 rfl rfl rfl rfl (fun r2 M2 => zd_ne0 zf_107 rfl ((zd_w zf_107 14 4 rfl).trans
  (zd_cv zf_107 rfl rfl rfl rfl (fun M3 => (zd_w zf_107 19 4 rfl).trans
  (zd_cv zf_107 rfl rfl rfl rfl (fun M4 => (zd_w zf_107 24 1 rfl).trans
  (zd_ri zf_107 rfl zr_107 rfl)))))) ((zd_w zf_107 12 1 rfl).trans
  (zd_ri zf_107 rfl zr_107 rfl))))))
theorem e4_40_0 (L : Nat) (v1 : Int32) (M : zM) : zden (L + 1) 4 0 [some (.ref 40), some (.int v1)] [] M =
  if v1 < 0 then (zden (L + 1) 4 16 [some (.ref 40), some (.int v1)] [] M) else (if v1 < 6 then (if zinb v1 6 = true then (zden (L + 1) 4 17 [some (.ref 40), some (.int v1)] [.int (M 40 v1.toNatClampNeg)] M) else none) else (zden (L + 1) 4 16 [some (.ref 40), some (.int v1)] [] M)) :=
  (zd_w zf_4 0 1 rfl).trans
  (zd_lt0 zf_4 rfl (rfl) ((zd_w zf_4 2 3 rfl).trans
  (zd_ge zf_4 rfl (rfl) ((zd_w zf_4 6 2 rfl).trans
  (zd_ld zf_4 rfl rfl (zd_goto zf_4 rfl (rfl)))))))
theorem e4_40_16 (L : Nat) (o0 : Option Value) (o1 : Option Value) (M : zM) : zden (L + 1) 4 16 [o0, o1] [] M =
  zden (L + 1) 4 17 [o0, o1] [.int 0] M :=
  (zd_w zf_4 10 1 rfl)
theorem e4_40_17 (L : Nat) (o0 : Option Value) (o1 : Option Value) (s0 : Int32) (M : zM) : zden (L + 1) 4 17 [o0, o1] [.int s0] M =
  some (some (.int s0), M) :=
  zd_ri zf_4 rfl zr_4 rfl
theorem e17_43_40_0 (L : Nat)  (M : zM) : zden (L + 1) 17 0 [some (.ref 43), some (.ref 40), none] [] M =
  if 0 < (M 43 3) then (zden (L + 1) 17 21 [some (.ref 43), some (.ref 40), some (.int 0)] [] (zput M 43 3 ((M 43 3) - 1))) else (some (some (.int 0), M)) :=
  (zd_w zf_17 0 2 rfl).trans
  (zd_gt0 zf_17 rfl ((zd_w zf_17 5 8 rfl)) ((zd_w zf_17 3 1 rfl).trans
  (zd_ri zf_17 rfl zr_17 rfl)))
theorem e17_43_40_21 (L : Nat) (v2 : Int32) (M : zM) : zden (L + 1) 17 21 [some (.ref 43), some (.ref 40), some (.int v2)] [] M =
  if v2 < (M 43 1) then (zbI (zden (L + 1) 4 0 [some (.ref 44), some (.int (((M 43 3) * (M 43 1)) + v2))] [] M) (fun r1 M1 => zbV (zden (L + 1) 5 0 [some (.ref 40), some (.int v2), some (.int r1)] [] M1) (fun M2 => zden (L + 1) 17 21 [some (.ref 43), some (.ref 40), some (.int (v2 + 1))] [] M2))) else (some (some (.int 1), M)) :=
  (zd_w zf_17 13 3 rfl).trans
  (zd_ge zf_17 rfl ((zd_w zf_17 32 1 rfl).trans
  (zd_ri zf_17 rfl zr_17 rfl)) ((zd_w zf_17 17 11 rfl).trans
  (zd_ci zf_17 rfl rfl rfl rfl (fun r1 M1 => zd_cv zf_17 rfl rfl rfl rfl (fun M2 => (zd_w zf_17 30 1 rfl).trans
  (zd_goto zf_17 rfl (rfl)))))))
theorem e5_47_0 (L : Nat) (v1 : Int32) (v2 : Int32) (M : zM) : zden (L + 1) 5 0 [some (.ref 47), some (.int v1), some (.int v2)] [] M =
  if v1 < 0 then (zden (L + 1) 5 14 [some (.ref 47), some (.int v1), some (.int v2)] [] M) else (if v1 < 20 then (if zinb v1 20 = true then (zden (L + 1) 5 14 [some (.ref 47), some (.int v1), some (.int v2)] [] (zput M 47 v1.toNatClampNeg v2)) else none) else (zden (L + 1) 5 14 [some (.ref 47), some (.int v1), some (.int v2)] [] M)) :=
  (zd_w zf_5 0 1 rfl).trans
  (zd_lt0 zf_5 rfl (rfl) ((zd_w zf_5 2 3 rfl).trans
  (zd_ge zf_5 rfl (rfl) ((zd_w zf_5 6 3 rfl).trans
  (zd_st zf_5 rfl rfl rfl (rfl))))))
theorem e5_47_14 (L : Nat) (o0 : Option Value) (o1 : Option Value) (o2 : Option Value) (M : zM) : zden (L + 1) 5 14 [o0, o1, o2] [] M =
  some (none, M) :=
  zd_rv zf_5 rfl
theorem e31_40_41_0 (L : Nat)  (M : zM) : zden (L + 1) 31 0 [some (.ref 40), some (.ref 41), none] [] M =
  zden (L + 1) 31 2 [some (.ref 40), some (.ref 41), some (.int 0)] [] M :=
  (zd_w zf_31 0 2 rfl)
theorem e31_40_41_2 (L : Nat) (v2 : Int32) (M : zM) : zden (L + 1) 31 2 [some (.ref 40), some (.ref 41), some (.int v2)] [] M =
  if v2 < 6 then (if v2 < 6 then (if zinb v2 6 = true then (if zinb v2 6 = true then (zden (L + 1) 31 2 [some (.ref 40), some (.ref 41), some (.int (v2 + 1))] [] (zput M 41 v2.toNatClampNeg (M 40 v2.toNatClampNeg))) else none) else none) else (zden (L + 1) 31 26 [some (.ref 40), some (.ref 41), some (.int v2)] [] M)) else (zden (L + 1) 31 26 [some (.ref 40), some (.ref 41), some (.int v2)] [] M) :=
  (zd_w zf_31 2 3 rfl).trans
  (zd_ge zf_31 rfl (rfl) ((zd_w zf_31 6 3 rfl).trans
  (zd_ge zf_31 rfl (rfl) ((zd_w zf_31 10 4 rfl).trans
  (zd_ld zf_31 rfl rfl (zd_st zf_31 rfl rfl rfl ((zd_w zf_31 16 1 rfl).trans
  (zd_goto zf_31 rfl (rfl)))))))))
theorem e31_40_41_26 (L : Nat) (o0 : Option Value) (o1 : Option Value) (o2 : Option Value) (M : zM) : zden (L + 1) 31 26 [o0, o1, o2] [] M =
  some (none, M) :=
  zd_rv zf_31 rfl
theorem e4_47_0 (L : Nat) (v1 : Int32) (M : zM) : zden (L + 1) 4 0 [some (.ref 47), some (.int v1)] [] M =
  if v1 < 0 then (zden (L + 1) 4 16 [some (.ref 47), some (.int v1)] [] M) else (if v1 < 20 then (if zinb v1 20 = true then (zden (L + 1) 4 17 [some (.ref 47), some (.int v1)] [.int (M 47 v1.toNatClampNeg)] M) else none) else (zden (L + 1) 4 16 [some (.ref 47), some (.int v1)] [] M)) :=
  (zd_w zf_4 0 1 rfl).trans
  (zd_lt0 zf_4 rfl (rfl) ((zd_w zf_4 2 3 rfl).trans
  (zd_ge zf_4 rfl (rfl) ((zd_w zf_4 6 2 rfl).trans
  (zd_ld zf_4 rfl rfl (zd_goto zf_4 rfl (rfl)))))))
theorem e4_47_16 (L : Nat) (o0 : Option Value) (o1 : Option Value) (M : zM) : zden (L + 1) 4 16 [o0, o1] [] M =
  zden (L + 1) 4 17 [o0, o1] [.int 0] M :=
  (zd_w zf_4 10 1 rfl)
theorem e4_47_17 (L : Nat) (o0 : Option Value) (o1 : Option Value) (s0 : Int32) (M : zM) : zden (L + 1) 4 17 [o0, o1] [.int s0] M =
  some (some (.int s0), M) :=
  zd_ri zf_4 rfl zr_4 rfl
theorem e77_26_41_0 (L : Nat) (v2 : Int32) (M : zM) : zden (L + 1) 77 0 [some (.ref 26), some (.ref 41), some (.int v2)] [] M =
  if v2 = 3 then (zbI (zden (L + 1) 74 0 [some (.ref 26), some (.ref 41), none] [] M) (fun r2 M2 => zden (L + 1) 77 19 [some (.ref 26), some (.ref 41), some (.int v2)] [.int r2] M2)) else (zbI (zden (L + 1) 76 0 [some (.ref 26), some (.ref 41), some (.int v2), none, none, none, none] [] M) (fun r1 M1 => zden (L + 1) 77 19 [some (.ref 26), some (.ref 41), some (.int v2)] [.int r1] M1)) :=
  (zd_w zf_77 0 2 rfl).trans
  (zd_ne zf_77 rfl ((zd_w zf_77 7 3 rfl).trans
  (zd_ci zf_77 rfl rfl rfl rfl (fun r1 M1 => rfl))) ((zd_w zf_77 3 2 rfl).trans
  (zd_ci zf_77 rfl rfl rfl rfl (fun r2 M2 => zd_goto zf_77 rfl (rfl)))))
theorem e77_26_41_19 (L : Nat) (o0 : Option Value) (o1 : Option Value) (o2 : Option Value) (s0 : Int32) (M : zM) : zden (L + 1) 77 19 [o0, o1, o2] [.int s0] M =
  if zfit (some .boolean) s0 = true then some (some (.int s0), M) else none :=
  zd_rf zf_77 rfl zr_77
theorem e92_0 (L : Nat) (v1 : Int32) (v2 : Int32) (M : zM) : zden (L + 1) 92 0 [some (.ref 29), some (.int v1), some (.int v2), none, none, none, none] [] M =
  zbI (zden (L + 1) 0 0 [some (.ref 1), some (.int 7)] [] M) (fun r1 M1 => zbV (zden (L + 1) 19 0 [some (.ref 30), some (.int 0), none, none] [] M1) (fun M2 => zden (L + 1) 92 29 [some (.ref 29), some (.int v1), some (.int v2), some (.int r1), some (.int ((M2 1 2) - 1)), none, none] [] M2)) :=
  (zd_w zf_92 0 3 rfl).trans
  (zd_ci zf_92 rfl rfl rfl rfl (fun r1 M1 => (zd_w zf_92 4 4 rfl).trans
  (zd_cv zf_92 rfl rfl rfl rfl (fun M2 => (zd_w zf_92 9 6 rfl)))))
theorem e92_29 (L : Nat) (v1 : Int32) (v2 : Int32) (v3 : Int32) (v4 : Int32) (o5 : Option Value) (o6 : Option Value) (M : zM) : zden (L + 1) 92 29 [some (.ref 29), some (.int v1), some (.int v2), some (.int v3), some (.int v4), o5, o6] [] M =
  if 0 < v4 then (zbV (zden (L + 1) 87 0 [some (.ref 29), some (.int v1), some (.int v4), some (.int v2), none] [] M) (fun M3 => zbI (zden (L + 1) 88 0 [some (.ref 29), some (.int v1)] [] M3) (fun r4 M4 => zbI (zden (L + 1) 91 0 [some (.ref 29), some (.int v3), some (.int v1), none, none] [] M4) (fun r5 M5 => zbI (zden (L + 1) 89 0 [some (.int v1), some (.int r4), some (.int r5), none] [] M5) (fun r6 M6 => zden (L + 1) 92 62 [some (.ref 29), some (.int v1), some (.int v2), some (.int v3), some (.int v4), some (.int r6), some (.int 0)] [] M6))))) else (zbV (zden (L + 1) 87 0 [some (.ref 29), some (.int v1), some (.int 0), some (.int v2), none] [] M) (fun M1 => zbI (zden (L + 1) 91 0 [some (.ref 29), some (.int v3), some (.int v1), none, none] [] M1) (fun r2 M2 => some (some (.int r2), M2)))) :=
  (zd_w zf_92 15 1 rfl).trans
  (zd_le0 zf_92 rfl ((zd_w zf_92 56 4 rfl).trans
  (zd_cv zf_92 rfl rfl rfl rfl (fun M1 => (zd_w zf_92 61 3 rfl).trans
  (zd_ci zf_92 rfl rfl rfl rfl (fun r2 M2 => zd_ri zf_92 rfl zr_92 rfl))))) ((zd_w zf_92 17 4 rfl).trans
  (zd_cv zf_92 rfl rfl rfl rfl (fun M3 => (zd_w zf_92 22 3 rfl).trans
  (zd_ci zf_92 rfl rfl rfl rfl (fun r4 M4 => (zd_w zf_92 26 3 rfl).trans
  (zd_ci zf_92 rfl rfl rfl rfl (fun r5 M5 => zd_ci zf_92 rfl rfl rfl rfl (fun r6 M6 => (zd_w zf_92 31 3 rfl))))))))))
theorem e92_62 (L : Nat) (v1 : Int32) (v2 : Int32) (v3 : Int32) (v4 : Int32) (v5 : Int32) (v6 : Int32) (M : zM) : zden (L + 1) 92 62 [some (.ref 29), some (.int v1), some (.int v2), some (.int v3), some (.int v4), some (.int v5), some (.int v6)] [] M =
  if v3 < v6 then (zbV (zden (L + 1) 31 0 [some (.ref 31), some (.ref 30), none] [] M) (fun M1 => zden (L + 1) 92 29 [some (.ref 29), some (.int v1), some (.int v2), some (.int v3), some (.int (v4 + (-1))), some (.int v5), some (.int v6)] [] M1)) else (zbI (zden (L + 1) 91 0 [some (.ref 29), some (.int v6), some (.int v1), none, none] [] M) (fun r2 M2 => zbI (zden (L + 1) 38 0 [some (.int v5), some (.int r2)] [] M2) (fun r3 M3 => zbV (zden (L + 1) 5 0 [some (.ref 31), some (.int v6), some (.int r3)] [] M3) (fun M4 => zden (L + 1) 92 62 [some (.ref 29), some (.int v1), some (.int v2), some (.int v3), some (.int v4), some (.int v5), some (.int (v6 + 1))] [] M4)))) :=
  (zd_w zf_92 34 2 rfl).trans
  (zd_gt zf_92 rfl ((zd_w zf_92 49 4 rfl).trans
  (zd_cv zf_92 rfl rfl rfl rfl (fun M1 => (zd_w zf_92 54 1 rfl).trans
  (zd_goto zf_92 rfl (rfl))))) ((zd_w zf_92 37 7 rfl).trans
  (zd_ci zf_92 rfl rfl rfl rfl (fun r2 M2 => zd_ci zf_92 rfl rfl rfl rfl (fun r3 M3 => zd_cv zf_92 rfl rfl rfl rfl (fun M4 => (zd_w zf_92 47 1 rfl).trans
  (zd_goto zf_92 rfl (rfl))))))))
theorem e93_0 (L : Nat) (v1 : Int32) (v2 : Int32) (M : zM) : zden (L + 1) 93 0 [some (.ref 29), some (.int v1), some (.int v2), none] [] M =
  zden (L + 1) 93 2 [some (.ref 29), some (.int v1), some (.int v2), some (.int 0)] [] M :=
  (zd_w zf_93 0 2 rfl)
theorem e93_2 (L : Nat) (v1 : Int32) (v2 : Int32) (v3 : Int32) (M : zM) : zden (L + 1) 93 2 [some (.ref 29), some (.int v1), some (.int v2), some (.int v3)] [] M =
  if v3 < 3 then (zbI (zden (L + 1) 0 0 [some (.ref 1), some (.int 7)] [] M) (fun r1 M1 => zbI (zden (L + 1) 90 0 [some (.ref 29), some (.int v3), some (.int r1), some (.int v1), none] [] M1) (fun r2 M2 => if r2 = v2 then (some (some (.int v3), M2)) else (zden (L + 1) 93 2 [some (.ref 29), some (.int v1), some (.int v2), some (.int (v3 + 1))] [] M2)))) else (some (some (.int (-4)), M)) :=
  (zd_w zf_93 2 2 rfl).trans
  (zd_ge zf_93 rfl ((zd_w zf_93 19 1 rfl).trans
  (zd_ri zf_93 rfl zr_93 rfl)) ((zd_w zf_93 5 5 rfl).trans
  (zd_ci zf_93 rfl rfl rfl rfl (fun r1 M1 => (zd_w zf_93 11 1 rfl).trans
  (zd_ci zf_93 rfl rfl rfl rfl (fun r2 M2 => (zd_w zf_93 13 1 rfl).trans
  (zd_ne zf_93 rfl ((zd_w zf_93 17 1 rfl).trans
  (zd_goto zf_93 rfl (rfl))) ((zd_w zf_93 15 1 rfl).trans
  (zd_ri zf_93 rfl zr_93 rfl)))))))))
theorem e73_0 (L : Nat) (v1 : Int32) (M : zM) : zden (L + 1) 73 0 [some (.ref 33), some (.int v1), none, none, none, none, none] [] M =
  zbV (zden (L + 1) 19 0 [some (.ref 34), some (.int 1000000), none, none] [] M) (fun M1 => zbI (zden (L + 1) 0 0 [some (.ref 1), some (.int 7)] [] M1) (fun r2 M2 => zbV (zden (L + 1) 5 0 [some (.ref 34), some (.int r2), some (.int 0)] [] M2) (fun M3 => zden (L + 1) 73 33 [some (.ref 33), some (.int v1), some (.int 0), some (.int 0), some (.int 0), none, none] [] M3))) :=
  (zd_w zf_73 0 3 rfl).trans
  (zd_cv zf_73 rfl rfl rfl rfl (fun M1 => (zd_w zf_73 4 5 rfl).trans
  (zd_ci zf_73 rfl rfl rfl rfl (fun r2 M2 => (zd_w zf_73 10 1 rfl).trans
  (zd_cv zf_73 rfl rfl rfl rfl (fun M3 => (zd_w zf_73 12 6 rfl)))))))
theorem e73_33 (L : Nat) (v1 : Int32) (v2 : Int32) (v3 : Int32) (v4 : Int32) (o5 : Option Value) (o6 : Option Value) (M : zM) : zden (L + 1) 73 33 [some (.ref 33), some (.int v1), some (.int v2), some (.int v3), some (.int v4), o5, o6] [] M =
  if v4 < (M 1 2) then (zbI (zden (L + 1) 57 0 [some (.ref 26), some (.int v4), some (.int v1)] [] M) (fun r2 M2 => zbV (zden (L + 1) 63 0 [some (.ref 26), some (.int r2), some (.int v1), none, none, none] [] M2) (fun M3 => zbI (zden (L + 1) 65 0 [some (.ref 33), none, none] [] M3) (fun r4 M4 => if r4 < 1000000 then (zbI (zden (L + 1) 0 0 [some (.ref 1), some (.int 6)] [] M4) (fun r5 M5 => zbI (zden (L + 1) 38 0 [some (.int ((10 * r5) - (v2 + r4))), some (.int 240)] [] M5) (fun r6 M6 => if 0 < v4 then (zden (L + 1) 73 122 [some (.ref 33), some (.int v1), some (.int (v2 + r4)), some (.int v3), some (.int v4), some (.int r4), some (.int r6)] [.int 1, .int r6, .int r4, .int v3, .ref 33] M6) else (zden (L + 1) 73 122 [some (.ref 33), some (.int v1), some (.int (v2 + r4)), some (.int v3), some (.int v4), some (.int r4), some (.int r6)] [.int 0, .int r6, .int r4, .int v3, .ref 33] M6)))) else (some (some (.int 1000000), M4)))))) else (zbI (zden (L + 1) 72 0 [some (.ref 33), some (.int v3), none, none] [] M) (fun r1 M1 => some (some (.int r1), M1))) :=
  (zd_w zf_73 18 4 rfl).trans
  (zd_ge zf_73 rfl ((zd_w zf_73 76 2 rfl).trans
  (zd_ci zf_73 rfl rfl rfl rfl (fun r1 M1 => zd_ri zf_73 rfl zr_73 rfl))) ((zd_w zf_73 23 6 rfl).trans
  (zd_ci zf_73 rfl rfl rfl rfl (fun r2 M2 => (zd_w zf_73 30 1 rfl).trans
  (zd_cv zf_73 rfl rfl rfl rfl (fun M3 => (zd_w zf_73 32 1 rfl).trans
  (zd_ci zf_73 rfl rfl rfl rfl (fun r4 M4 => (zd_w zf_73 34 3 rfl).trans
  (zd_lt zf_73 rfl ((zd_w zf_73 40 8 rfl).trans
  (zd_ci zf_73 rfl rfl rfl rfl (fun r5 M5 => (zd_w zf_73 49 4 rfl).trans
  (zd_ci zf_73 rfl rfl rfl rfl (fun r6 M6 => (zd_w zf_73 54 6 rfl).trans
  (zd_le0 zf_73 rfl ((zd_w zf_73 63 1 rfl)) ((zd_w zf_73 61 1 rfl).trans
  (zd_goto zf_73 rfl (rfl))))))))) ((zd_w zf_73 38 1 rfl).trans
  (zd_ri zf_73 rfl zr_73 rfl)))))))))))
theorem e73_122 (L : Nat) (v1 : Int32) (v2 : Int32) (v3 : Int32) (v4 : Int32) (v5 : Int32) (v6 : Int32) (s0 : Int32) (s1 : Int32) (s2 : Int32) (s3 : Int32) (M : zM) : zden (L + 1) 73 122 [some (.ref 33), some (.int v1), some (.int v2), some (.int v3), some (.int v4), some (.int v5), some (.int v6)] [.int s0, .int s1, .int s2, .int s3, .ref 33] M =
  zbV (zden (L + 1) 70 0 [some (.ref 33), some (.int s3), some (.int s2), some (.int s1), some (.int s0), none, none, none, none] [] M) (fun M1 => zbI (zden (L + 1) 71 0 [some (.ref 33), none, none] [] M1) (fun r2 M2 => zbI (zden (L + 1) 38 0 [some (.int v6), some (.int ((v3 + r2) - v5))] [] M2) (fun r3 M3 => zden (L + 1) 73 33 [some (.ref 33), some (.int v1), some (.int v2), some (.int r3), some (.int (v4 + 1)), some (.int v5), some (.int v6)] [] M3))) :=
  zd_cv zf_73 rfl rfl rfl rfl (fun M1 => (zd_w zf_73 65 3 rfl).trans
  (zd_ci zf_73 rfl rfl rfl rfl (fun r2 M2 => (zd_w zf_73 69 3 rfl).trans
  (zd_ci zf_73 rfl rfl rfl rfl (fun r3 M3 => (zd_w zf_73 73 2 rfl).trans
  (zd_goto zf_73 rfl (rfl)))))))
theorem e81_0 (L : Nat) (v1 : Int32) (M : zM) : zden (L + 1) 81 0 [some (.ref 35), some (.int v1)] [] M =
  zbI (zden (L + 1) 80 0 [some (.ref 35), some (.int v1), some (.int 1), none, none, none, none, none, none, none, none, none] [] M) (fun r1 M1 => zbI (zden (L + 1) 80 0 [some (.ref 35), some (.int v1), some (.int 0), none, none, none, none, none, none, none, none, none] [] M1) (fun r2 M2 => zbI (zden (L + 1) 38 0 [some (.int r1), some (.int r2)] [] M2) (fun r3 M3 => some (some (.int r3), M3)))) :=
  (zd_w zf_81 0 3 rfl).trans
  (zd_ci zf_81 rfl rfl rfl rfl (fun r1 M1 => (zd_w zf_81 4 3 rfl).trans
  (zd_ci zf_81 rfl rfl rfl rfl (fun r2 M2 => zd_ci zf_81 rfl rfl rfl rfl (fun r3 M3 => zd_ri zf_81 rfl zr_81 rfl)))))
theorem e82_0 (L : Nat) (v1 : Int32) (M : zM) : zden (L + 1) 82 0 [some (.ref 35), some (.int v1)] [] M =
  zbI (zden (L + 1) 80 0 [some (.ref 35), some (.int v1), some (.int 1), none, none, none, none, none, none, none, none, none] [] M) (fun r1 M1 => zbI (zden (L + 1) 80 0 [some (.ref 35), some (.int v1), some (.int 0), none, none, none, none, none, none, none, none, none] [] M1) (fun r2 M2 => if r2 < r1 then (zden (L + 1) 82 20 [some (.ref 35), some (.int v1)] [.int 1] M2) else (zden (L + 1) 82 20 [some (.ref 35), some (.int v1)] [.int 0] M2))) :=
  (zd_w zf_82 0 3 rfl).trans
  (zd_ci zf_82 rfl rfl rfl rfl (fun r1 M1 => (zd_w zf_82 4 3 rfl).trans
  (zd_ci zf_82 rfl rfl rfl rfl (fun r2 M2 => zd_gt zf_82 rfl ((zd_w zf_82 11 1 rfl)) ((zd_w zf_82 9 1 rfl).trans
  (zd_goto zf_82 rfl (rfl)))))))
theorem e82_20 (L : Nat) (o0 : Option Value) (o1 : Option Value) (s0 : Int32) (M : zM) : zden (L + 1) 82 20 [o0, o1] [.int s0] M =
  some (some (.int s0), M) :=
  zd_ri zf_82 rfl zr_82 rfl
theorem e83_0 (L : Nat)  (M : zM) : zden (L + 1) 83 0 [some (.ref 35), none, none, none, none] [] M =
  zden (L + 1) 83 8 [some (.ref 35), some (.int (-4)), some (.int 101), some (.int 0), none] [] M :=
  (zd_w zf_83 0 6 rfl)
theorem e83_8 (L : Nat) (v1 : Int32) (v2 : Int32) (v3 : Int32) (o4 : Option Value) (M : zM) : zden (L + 1) 83 8 [some (.ref 35), some (.int v1), some (.int v2), some (.int v3), o4] [] M =
  if v3 < (M 1 6) then (zbI (zden (L + 1) 81 0 [some (.ref 35), some (.int v3)] [] M) (fun r1 M1 => if r1 < v2 then (zden (L + 1) 83 37 [some (.ref 35), some (.int v3), some (.int r1), some (.int v3), some (.int r1)] [] M1) else (zden (L + 1) 83 37 [some (.ref 35), some (.int v1), some (.int v2), some (.int v3), some (.int r1)] [] M1))) else (some (some (.int v1), M)) :=
  (zd_w zf_83 6 4 rfl).trans
  (zd_ge zf_83 rfl ((zd_w zf_83 24 1 rfl).trans
  (zd_ri zf_83 rfl zr_83 rfl)) ((zd_w zf_83 11 2 rfl).trans
  (zd_ci zf_83 rfl rfl rfl rfl (fun r1 M1 => (zd_w zf_83 14 3 rfl).trans
  (zd_ge zf_83 rfl (rfl) ((zd_w zf_83 18 4 rfl)))))))
theorem e83_37 (L : Nat) (v1 : Int32) (v2 : Int32) (v3 : Int32) (o4 : Option Value) (M : zM) : zden (L + 1) 83 37 [some (.ref 35), some (.int v1), some (.int v2), some (.int v3), o4] [] M =
  zden (L + 1) 83 8 [some (.ref 35), some (.int v1), some (.int v2), some (.int (v3 + 1)), o4] [] M :=
  (zd_w zf_83 22 1 rfl).trans
  (zd_goto zf_83 rfl (rfl))
theorem e85_0 (L : Nat) (v1 : Int32) (v2 : Int32) (M : zM) : zden (L + 1) 85 0 [some (.ref 35), some (.int v1), some (.int v2), none, none, none, none, none, none] [] M =
  zbI (zden (L + 1) 4 0 [some (.ref 6), some (.int v1)] [] M) (fun r1 M1 => zbI (zden (L + 1) 84 0 [some (.int (10 - r1)), some (.int 10), none, none] [] M1) (fun r2 M2 => if v2 = 0 then (zden (L + 1) 85 33 [some (.ref 35), some (.int v1), some (.int v2), some (.int (10 - r1)), some (.int r2), none, none, none, none] [.int (10 - r1)] M2) else (zden (L + 1) 85 33 [some (.ref 35), some (.int v1), some (.int v2), some (.int (10 - r1)), some (.int r2), none, none, none, none] [.int 10] M2))) :=
  (zd_w zf_85 0 5 rfl).trans
  (zd_ci zf_85 rfl rfl rfl rfl (fun r1 M1 => (zd_w zf_85 6 4 rfl).trans
  (zd_ci zf_85 rfl rfl rfl rfl (fun r2 M2 => (zd_w zf_85 11 2 rfl).trans
  (zd_ne0 zf_85 rfl ((zd_w zf_85 16 1 rfl)) ((zd_w zf_85 14 1 rfl).trans
  (zd_goto zf_85 rfl (rfl))))))))
theorem e85_33 (L : Nat) (o1 : Option Value) (o2 : Option Value) (o3 : Option Value) (v4 : Int32) (o5 : Option Value) (o6 : Option Value) (o7 : Option Value) (o8 : Option Value) (s0 : Int32) (M : zM) : zden (L + 1) 85 33 [some (.ref 35), o1, o2, o3, some (.int v4), o5, o6, o7, o8] [.int s0] M =
  zbI (zden (L + 1) 13 0 [some (.int 1), some (.int v4)] [] M) (fun r1 M1 => if r1 = 0 then none else (zden (L + 1) 85 48 [some (.ref 35), o1, o2, o3, some (.int v4), some (.int (s0 / r1)), some (.long 1), none, some (.int 0)] [] M1)) :=
  (zd_w zf_85 17 2 rfl).trans
  (zd_ci zf_85 rfl rfl rfl rfl (fun r1 M1 => zd_div zf_85 rfl ((zd_w zf_85 21 5 rfl))))
theorem e85_48 (L : Nat) (o1 : Option Value) (o2 : Option Value) (o3 : Option Value) (o4 : Option Value) (v5 : Int32) (v6 : Int64) (o7 : Option Value) (v8 : Int32) (M : zM) : zden (L + 1) 85 48 [some (.ref 35), o1, o2, o3, o4, some (.int v5), some (.long v6), o7, some (.int v8)] [] M =
  if v8 < (M 1 2) then (zden (L + 1) 85 48 [some (.ref 35), o1, o2, o3, o4, some (.int v5), some (.long (v6 * v5.toInt64)), none, some (.int (v8 + 1))] [] M) else (some (some (.long v6), M)) :=
  (zd_w zf_85 26 4 rfl).trans
  (zd_ge zf_85 rfl ((zd_w zf_85 38 1 rfl).trans
  (zd_rl zf_85 rfl)) ((zd_w zf_85 31 6 rfl).trans
  (zd_goto zf_85 rfl (rfl))))
theorem e2_0 (L : Nat) (v1 : Int32) (v2 : Int32) (M : zM) : zden (L + 1) 2 0 [some (.ref 36), some (.int v1), some (.int v2), none] [] M =
  if v2 = 0 then (zden (L + 1) 2 8 [some (.ref 36), some (.int v1), some (.int v2), none] [] M) else (if 0 < v1 then (zbI (zden (L + 1) 1 0 [some (.ref 36), some (.int (v1 - 1)), none, none, none] [] M) (fun r1 M1 => zbI (zden (L + 1) 0 0 [some (.ref 1), some (.int 10)] [] M1) (fun r2 M2 => some (some (.int (1000 - (((1000 - (10 * r2)) * (1000 - r1)) / 1000))), M2)))) else (zden (L + 1) 2 8 [some (.ref 36), some (.int v1), some (.int v2), none] [] M)) :=
  (zd_w zf_2 0 1 rfl).trans
  (zd_eq0 zf_2 rfl (rfl) ((zd_w zf_2 2 1 rfl).trans
  (zd_gt0 zf_2 rfl ((zd_w zf_2 8 5 rfl).trans
  (zd_ci zf_2 rfl rfl rfl rfl (fun r1 M1 => (zd_w zf_2 14 8 rfl).trans
  (zd_ci zf_2 rfl rfl rfl rfl (fun r2 M2 => (zd_w zf_2 23 7 rfl).trans
  (zd_ri zf_2 rfl zr_2 rfl)))))) (rfl))))
theorem e2_8 (L : Nat) (v1 : Int32) (o2 : Option Value) (o3 : Option Value) (M : zM) : zden (L + 1) 2 8 [some (.ref 36), some (.int v1), o2, o3] [] M =
  zbI (zden (L + 1) 1 0 [some (.ref 36), some (.int v1), none, none, none] [] M) (fun r1 M1 => some (some (.int r1), M1)) :=
  (zd_w zf_2 4 2 rfl).trans
  (zd_ci zf_2 rfl rfl rfl rfl (fun r1 M1 => zd_ri zf_2 rfl zr_2 rfl))
theorem e3_0 (L : Nat)  (M : zM) : zden (L + 1) 3 0 [some (.ref 36), none, none] [] M =
  zden (L + 1) 3 4 [some (.ref 36), some (.int 1), some (.int 2)] [] M :=
  (zd_w zf_3 0 4 rfl)
theorem e3_4 (L : Nat) (v1 : Int32) (v2 : Int32) (M : zM) : zden (L + 1) 3 4 [some (.ref 36), some (.int v1), some (.int v2)] [] M =
  if 9 < v2 then (some (some (.int v1), M)) else (zbI (zden (L + 1) 1 0 [some (.ref 36), some (.int v2), none, none, none] [] M) (fun r1 M1 => zbI (zden (L + 1) 1 0 [some (.ref 36), some (.int v1), none, none, none] [] M1) (fun r2 M2 => if r2 < r1 then (zden (L + 1) 3 25 [some (.ref 36), some (.int v2), some (.int v2)] [] M2) else (zden (L + 1) 3 25 [some (.ref 36), some (.int v1), some (.int v2)] [] M2)))) :=
  (zd_w zf_3 4 2 rfl).trans
  (zd_gt zf_3 rfl ((zd_w zf_3 18 1 rfl).trans
  (zd_ri zf_3 rfl zr_3 rfl)) ((zd_w zf_3 7 2 rfl).trans
  (zd_ci zf_3 rfl rfl rfl rfl (fun r1 M1 => (zd_w zf_3 10 2 rfl).trans
  (zd_ci zf_3 rfl rfl rfl rfl (fun r2 M2 => zd_le zf_3 rfl (rfl) ((zd_w zf_3 14 2 rfl))))))))
theorem e3_25 (L : Nat) (v1 : Int32) (v2 : Int32) (M : zM) : zden (L + 1) 3 25 [some (.ref 36), some (.int v1), some (.int v2)] [] M =
  zden (L + 1) 3 4 [some (.ref 36), some (.int v1), some (.int (v2 + 1))] [] M :=
  (zd_w zf_3 16 1 rfl).trans
  (zd_goto zf_3 rfl (rfl))
theorem e8_0 (L : Nat) (v1 : Int32) (v2 : Int32) (v3 : Int32) (M : zM) : zden (L + 1) 8 0 [some (.ref 36), some (.int v1), some (.int v2), some (.int v3), none, none] [] M =
  zbV (zden (L + 1) 6 0 [some (.ref 36), some (.int v3), none] [] M) (fun M1 => zden (L + 1) 8 13 [some (.ref 36), some (.int v1), some (.int v2), some (.int v3), some (.int 1000), some (.int 0)] [] M1) :=
  (zd_w zf_8 0 2 rfl).trans
  (zd_cv zf_8 rfl rfl rfl rfl (fun M1 => (zd_w zf_8 3 4 rfl)))
theorem e8_13 (L : Nat) (v1 : Int32) (v2 : Int32) (o3 : Option Value) (v4 : Int32) (v5 : Int32) (M : zM) : zden (L + 1) 8 13 [some (.ref 36), some (.int v1), some (.int v2), o3, some (.int v4), some (.int v5)] [] M =
  if v5 < v2 then (zbI (zden (L + 1) 7 0 [some (.ref 36), some (.int v1), some (.int v5)] [] M) (fun r1 M1 => zden (L + 1) 8 13 [some (.ref 36), some (.int v1), some (.int v2), (zkl o3), some (.int ((v4 * (1000 - r1)) / 1000)), some (.int (v5 + 1))] [] M1)) else (some (some (.int (1000 - v4)), M)) :=
  (zd_w zf_8 7 2 rfl).trans
  (zd_ge zf_8 rfl ((zd_w zf_8 23 3 rfl).trans
  (zd_ri zf_8 rfl zr_8 rfl)) ((zd_w zf_8 10 5 rfl).trans
  (zd_ci zf_8 rfl rfl rfl rfl (fun r1 M1 => (zd_w zf_8 16 6 rfl).trans
  (zd_goto zf_8 rfl (rfl))))))
theorem e9_0 (L : Nat) (v1 : Int32) (M : zM) : zden (L + 1) 9 0 [some (.ref 36), some (.int v1), none, none] [] M =
  zbV (zden (L + 1) 6 0 [some (.ref 36), some (.int v1), none] [] M) (fun M1 => zden (L + 1) 9 9 [some (.ref 36), some (.int v1), some (.int 0), some (.int 1)] [] M1) :=
  (zd_w zf_9 0 2 rfl).trans
  (zd_cv zf_9 rfl rfl rfl rfl (fun M1 => (zd_w zf_9 3 4 rfl)))
theorem e9_9 (L : Nat) (o1 : Option Value) (v2 : Int32) (v3 : Int32) (M : zM) : zden (L + 1) 9 9 [some (.ref 36), o1, some (.int v2), some (.int v3)] [] M =
  if v3 < 24 then (zbI (zden (L + 1) 4 0 [some (.ref 37), some (.int v3)] [] M) (fun r1 M1 => zbI (zden (L + 1) 4 0 [some (.ref 37), some (.int v2)] [] M1) (fun r2 M2 => if r2 < r1 then (zden (L + 1) 9 36 [some (.ref 36), (zkl o1), some (.int v3), some (.int v3)] [] M2) else (zden (L + 1) 9 36 [some (.ref 36), o1, some (.int v2), some (.int v3)] [] M2)))) else (some (some (.int v2), M)) :=
  (zd_w zf_9 7 2 rfl).trans
  (zd_ge zf_9 rfl ((zd_w zf_9 23 1 rfl).trans
  (zd_ri zf_9 rfl zr_9 rfl)) ((zd_w zf_9 10 3 rfl).trans
  (zd_ci zf_9 rfl rfl rfl rfl (fun r1 M1 => (zd_w zf_9 14 3 rfl).trans
  (zd_ci zf_9 rfl rfl rfl rfl (fun r2 M2 => zd_le zf_9 rfl (rfl) ((zd_w zf_9 19 2 rfl))))))))
theorem e9_36 (L : Nat) (o1 : Option Value) (v2 : Int32) (v3 : Int32) (M : zM) : zden (L + 1) 9 36 [some (.ref 36), o1, some (.int v2), some (.int v3)] [] M =
  zden (L + 1) 9 9 [some (.ref 36), o1, some (.int v2), some (.int (v3 + 1))] [] M :=
  (zd_w zf_9 21 1 rfl).trans
  (zd_goto zf_9 rfl (rfl))
theorem e10_0 (L : Nat) (v1 : Int32) (v2 : Int32) (v3 : Int32) (M : zM) : zden (L + 1) 10 0 [some (.ref 36), some (.int v1), some (.int v2), some (.int v3), none, none] [] M =
  zbV (zden (L + 1) 6 0 [some (.ref 36), some (.int v3), none] [] M) (fun M1 => zden (L + 1) 10 13 [some (.ref 36), some (.int v1), some (.int v2), some (.int v3), some (.int 1000), some (.int 0)] [] M1) :=
  (zd_w zf_10 0 2 rfl).trans
  (zd_cv zf_10 rfl rfl rfl rfl (fun M1 => (zd_w zf_10 3 4 rfl)))
theorem e10_13 (L : Nat) (v1 : Int32) (v2 : Int32) (o3 : Option Value) (v4 : Int32) (v5 : Int32) (M : zM) : zden (L + 1) 10 13 [some (.ref 36), some (.int v1), some (.int v2), o3, some (.int v4), some (.int v5)] [] M =
  if v5 < 300 then (zbI (zden (L + 1) 7 0 [some (.ref 36), some (.int v1), some (.int v5)] [] M) (fun r1 M1 => if (1000 - ((v4 * (1000 - r1)) / 1000)) < v2 then (zden (L + 1) 10 13 [some (.ref 36), some (.int v1), some (.int v2), (zkl o3), some (.int ((v4 * (1000 - r1)) / 1000)), some (.int (v5 + 1))] [] M1) else (some (some (.int (v5 + 1)), M1)))) else (some (some (.int (-4)), M)) :=
  (zd_w zf_10 7 2 rfl).trans
  (zd_ge zf_10 rfl ((zd_w zf_10 32 1 rfl).trans
  (zd_ri zf_10 rfl zr_10 rfl)) ((zd_w zf_10 10 5 rfl).trans
  (zd_ci zf_10 rfl rfl rfl rfl (fun r1 M1 => (zd_w zf_10 16 9 rfl).trans
  (zd_lt zf_10 rfl ((zd_w zf_10 30 1 rfl).trans
  (zd_goto zf_10 rfl (rfl))) ((zd_w zf_10 26 3 rfl).trans
  (zd_ri zf_10 rfl zr_10 rfl)))))))
theorem e125_0 (L : Nat) (v1 : Int32) (M : zM) : zden (L + 1) 125 0 [some (.ref 0), some (.int v1), none] [] M =
  zbI (zden (L + 1) 92 0 [some (.ref 29), some (.int 0), some (.int v1), none, none, none, none] [] M) (fun r1 M1 => if r1 < 1000000 then (zbI (zden (L + 1) 59 0 [some (.int r1), some (.int 12)] [] M1) (fun r2 M2 => zden (L + 1) 125 27 [some (.ref 0), some (.int v1), some (.int r1)] [.int r2] M2)) else (zden (L + 1) 125 27 [some (.ref 0), some (.int v1), some (.int r1)] [.int 1000000] M1)) :=
  (zd_w zf_125 0 4 rfl).trans
  (zd_ci zf_125 rfl rfl rfl rfl (fun r1 M1 => (zd_w zf_125 5 3 rfl).trans
  (zd_lt zf_125 rfl ((zd_w zf_125 11 2 rfl).trans
  (zd_ci zf_125 rfl rfl rfl rfl (fun r2 M2 => rfl))) ((zd_w zf_125 9 1 rfl).trans
  (zd_goto zf_125 rfl (rfl))))))
theorem e125_27 (L : Nat) (o0 : Option Value) (o1 : Option Value) (o2 : Option Value) (s0 : Int32) (M : zM) : zden (L + 1) 125 27 [o0, o1, o2] [.int s0] M =
  some (some (.int s0), M) :=
  zd_ri zf_125 rfl zr_125 rfl
theorem e126_0 (L : Nat) (v1 : Int32) (M : zM) : zden (L + 1) 126 0 [some (.ref 0), some (.int v1), none] [] M =
  zbI (zden (L + 1) 10 0 [some (.ref 36), some (.int v1), some (.int 500), some (.int 1), none, none] [] M) (fun r1 M1 => if r1 = (-4) then (zden (L + 1) 126 31 [some (.ref 0), some (.int v1), some (.int r1)] [] M1) else (zbI (zden (L + 1) 83 0 [some (.ref 35), none, none, none, none] [] M1) (fun r2 M2 => if r2 = (-4) then (zden (L + 1) 126 31 [some (.ref 0), some (.int v1), some (.int r1)] [] M2) else (zbI (zden (L + 1) 59 0 [some (.int (M2 1 2)), some (.int 4)] [] M2) (fun r3 M3 => some (some (.int (r1 + r3)), M3)))))) :=
  (zd_w zf_126 0 5 rfl).trans
  (zd_ci zf_126 rfl rfl rfl rfl (fun r1 M1 => (zd_w zf_126 6 3 rfl).trans
  (zd_eq zf_126 rfl (rfl) ((zd_w zf_126 10 2 rfl).trans
  (zd_ci zf_126 rfl rfl rfl rfl (fun r2 M2 => (zd_w zf_126 13 1 rfl).trans
  (zd_ne zf_126 rfl ((zd_w zf_126 17 5 rfl).trans
  (zd_ci zf_126 rfl rfl rfl rfl (fun r3 M3 => (zd_w zf_126 23 1 rfl).trans
  (zd_ri zf_126 rfl zr_126 rfl)))) (rfl))))))))
theorem e126_31 (L : Nat) (o0 : Option Value) (o1 : Option Value) (o2 : Option Value) (M : zM) : zden (L + 1) 126 31 [o0, o1, o2] [] M =
  some (some (.int 1000000), M) :=
  (zd_w zf_126 15 1 rfl).trans
  (zd_ri zf_126 rfl zr_126 rfl)
theorem e20_0 (L : Nat) (v1 : Int32) (v2 : Int32) (M : zM) : zden (L + 1) 20 0 [some (.ref 38), some (.int v1), some (.int v2)] [] M =
  zbI (zden (L + 1) 4 0 [some (.ref 39), some (.int ((v1 * 7) + v2))] [] M) (fun r1 M1 => some (some (.int r1), M1)) :=
  (zd_w zf_20 0 7 rfl).trans
  (zd_ci zf_20 rfl rfl rfl rfl (fun r1 M1 => zd_ri zf_20 rfl zr_20 rfl))
theorem e22_0 (L : Nat)  (M : zM) : zden (L + 1) 22 0 [some (.ref 38), none, none, none] [] M =
  zbV (zden (L + 1) 19 0 [some (.ref 39), some (.int 1000000), none, none] [] M) (fun M1 => zden (L + 1) 22 11 [some (.ref 38), some (.int 0), none, none] [] M1) :=
  (zd_w zf_22 0 3 rfl).trans
  (zd_cv zf_22 rfl rfl rfl rfl (fun M1 => (zd_w zf_22 4 2 rfl)))
theorem e22_11 (L : Nat) (v1 : Int32) (o2 : Option Value) (o3 : Option Value) (M : zM) : zden (L + 1) 22 11 [some (.ref 38), some (.int v1), o2, o3] [] M =
  if v1 < (M 1 9) then (zbV (zden (L + 1) 21 0 [some (.ref 38), some (.int v1), some (.int v1), some (.int 0)] [] M) (fun M1 => zden (L + 1) 22 11 [some (.ref 38), some (.int (v1 + 1)), o2, o3] [] M1)) else (zden (L + 1) 22 37 [some (.ref 38), some (.int 0), o2, o3] [] M) :=
  (zd_w zf_22 6 4 rfl).trans
  (zd_ge zf_22 rfl ((zd_w zf_22 18 2 rfl)) ((zd_w zf_22 11 4 rfl).trans
  (zd_cv zf_22 rfl rfl rfl rfl (fun M1 => (zd_w zf_22 16 1 rfl).trans
  (zd_goto zf_22 rfl (rfl))))))
theorem e22_37 (L : Nat) (v1 : Int32) (o2 : Option Value) (o3 : Option Value) (M : zM) : zden (L + 1) 22 37 [some (.ref 38), some (.int v1), o2, o3] [] M =
  if v1 < (M 1 13) then (zbI (zden (L + 1) 4 0 [some (.ref 9), some (.int v1)] [] M) (fun r1 M1 => zbI (zden (L + 1) 4 0 [some (.ref 10), some (.int v1)] [] M1) (fun r2 M2 => zbI (zden (L + 1) 4 0 [some (.ref 11), some (.int v1)] [] M2) (fun r3 M3 => zbV (zden (L + 1) 21 0 [some (.ref 38), some (.int r1), some (.int r2), some (.int r3)] [] M3) (fun M4 => zden (L + 1) 22 37 [some (.ref 38), some (.int (v1 + 1)), o2, o3] [] M4))))) else (zden (L + 1) 22 93 [some (.ref 38), some (.int 0), o2, o3] [] M) :=
  (zd_w zf_22 20 4 rfl).trans
  (zd_ge zf_22 rfl ((zd_w zf_22 44 2 rfl)) ((zd_w zf_22 25 5 rfl).trans
  (zd_ci zf_22 rfl rfl rfl rfl (fun r1 M1 => (zd_w zf_22 31 4 rfl).trans
  (zd_ci zf_22 rfl rfl rfl rfl (fun r2 M2 => (zd_w zf_22 36 4 rfl).trans
  (zd_ci zf_22 rfl rfl rfl rfl (fun r3 M3 => zd_cv zf_22 rfl rfl rfl rfl (fun M4 => (zd_w zf_22 42 1 rfl).trans
  (zd_goto zf_22 rfl (rfl)))))))))))
theorem e22_93 (L : Nat) (v1 : Int32) (o2 : Option Value) (o3 : Option Value) (M : zM) : zden (L + 1) 22 93 [some (.ref 38), some (.int v1), o2, o3] [] M =
  if v1 < (M 1 9) then (zden (L + 1) 22 106 [some (.ref 38), some (.int v1), some (.int 0), o3] [] M) else (some (none, M)) :=
  (zd_w zf_22 46 4 rfl).trans
  (zd_ge zf_22 rfl (zd_rv zf_22 rfl) ((zd_w zf_22 51 2 rfl)))
theorem e22_106 (L : Nat) (v1 : Int32) (v2 : Int32) (o3 : Option Value) (M : zM) : zden (L + 1) 22 106 [some (.ref 38), some (.int v1), some (.int v2), o3] [] M =
  if v2 < (M 1 9) then (zden (L + 1) 22 119 [some (.ref 38), some (.int v1), some (.int v2), some (.int 0)] [] M) else (zden (L + 1) 22 93 [some (.ref 38), some (.int (v1 + 1)), some (.int v2), o3] [] M) :=
  (zd_w zf_22 53 4 rfl).trans
  (zd_ge zf_22 rfl ((zd_w zf_22 82 1 rfl).trans
  (zd_goto zf_22 rfl (rfl))) ((zd_w zf_22 58 2 rfl)))
theorem e22_119 (L : Nat) (v1 : Int32) (v2 : Int32) (v3 : Int32) (M : zM) : zden (L + 1) 22 119 [some (.ref 38), some (.int v1), some (.int v2), some (.int v3)] [] M =
  if v3 < (M 1 9) then (zbI (zden (L + 1) 20 0 [some (.ref 38), some (.int v2), some (.int v1)] [] M) (fun r1 M1 => zbI (zden (L + 1) 20 0 [some (.ref 38), some (.int v1), some (.int v3)] [] M1) (fun r2 M2 => zbV (zden (L + 1) 21 0 [some (.ref 38), some (.int v2), some (.int v3), some (.int (r1 + r2))] [] M2) (fun M3 => zden (L + 1) 22 119 [some (.ref 38), some (.int v1), some (.int v2), some (.int (v3 + 1))] [] M3)))) else (zden (L + 1) 22 106 [some (.ref 38), some (.int v1), some (.int (v2 + 1)), some (.int v3)] [] M) :=
  (zd_w zf_22 60 4 rfl).trans
  (zd_ge zf_22 rfl ((zd_w zf_22 80 1 rfl).trans
  (zd_goto zf_22 rfl (rfl))) ((zd_w zf_22 65 6 rfl).trans
  (zd_ci zf_22 rfl rfl rfl rfl (fun r1 M1 => (zd_w zf_22 72 3 rfl).trans
  (zd_ci zf_22 rfl rfl rfl rfl (fun r2 M2 => (zd_w zf_22 76 1 rfl).trans
  (zd_cv zf_22 rfl rfl rfl rfl (fun M3 => (zd_w zf_22 78 1 rfl).trans
  (zd_goto zf_22 rfl (rfl))))))))))
theorem e24_0 (L : Nat) (v1 : Int32) (v2 : Int32) (v3 : Int32) (M : zM) : zden (L + 1) 24 0 [some (.ref 38), some (.int v1), some (.int v2), some (.int v3)] [] M =
  if v1 = v2 then (zden (L + 1) 24 22 [some (.ref 38), some (.int v1), some (.int v2), some (.int v3)] [.int 0] M) else (zbI (zden (L + 1) 23 0 [some (.ref 38), some (.int v1), some (.int v3)] [] M) (fun r1 M1 => zbI (zden (L + 1) 23 0 [some (.ref 38), some (.int v2), some (.int v3)] [] M1) (fun r2 M2 => zden (L + 1) 24 22 [some (.ref 38), some (.int v1), some (.int v2), some (.int v3)] [.int (r1 + r2)] M2))) :=
  (zd_w zf_24 0 2 rfl).trans
  (zd_ne zf_24 rfl ((zd_w zf_24 5 3 rfl).trans
  (zd_ci zf_24 rfl rfl rfl rfl (fun r1 M1 => (zd_w zf_24 9 3 rfl).trans
  (zd_ci zf_24 rfl rfl rfl rfl (fun r2 M2 => (zd_w zf_24 13 1 rfl)))))) ((zd_w zf_24 3 1 rfl).trans
  (zd_goto zf_24 rfl (rfl))))
theorem e24_22 (L : Nat) (o0 : Option Value) (o1 : Option Value) (o2 : Option Value) (o3 : Option Value) (s0 : Int32) (M : zM) : zden (L + 1) 24 22 [o0, o1, o2, o3] [.int s0] M =
  some (some (.int s0), M) :=
  zd_ri zf_24 rfl zr_24 rfl
theorem e25_0 (L : Nat) (v1 : Int32) (M : zM) : zden (L + 1) 25 0 [some (.ref 38), some (.int v1), none, none, none] [] M =
  zden (L + 1) 25 4 [some (.ref 38), some (.int v1), some (.int 0), some (.int 0), none] [] M :=
  (zd_w zf_25 0 4 rfl)
theorem e25_4 (L : Nat) (v1 : Int32) (v2 : Int32) (v3 : Int32) (o4 : Option Value) (M : zM) : zden (L + 1) 25 4 [some (.ref 38), some (.int v1), some (.int v2), some (.int v3), o4] [] M =
  if v3 < (M 1 9) then (zden (L + 1) 25 20 [some (.ref 38), some (.int v1), some (.int v2), some (.int v3), some (.int (v3 + 1))] [] M) else (some (some (.int v2), M)) :=
  (zd_w zf_25 4 4 rfl).trans
  (zd_ge zf_25 rfl ((zd_w zf_25 35 1 rfl).trans
  (zd_ri zf_25 rfl zr_25 rfl)) ((zd_w zf_25 9 4 rfl)))
theorem e25_20 (L : Nat) (v1 : Int32) (v2 : Int32) (v3 : Int32) (v4 : Int32) (M : zM) : zden (L + 1) 25 20 [some (.ref 38), some (.int v1), some (.int v2), some (.int v3), some (.int v4)] [] M =
  if v4 < (M 1 9) then (zbI (zden (L + 1) 20 0 [some (.ref 38), some (.int v3), some (.int v4)] [] M) (fun r1 M1 => if r1 < 1000000 then (zbI (zden (L + 1) 24 0 [some (.ref 38), some (.int v3), some (.int v4), some (.int v1)] [] M1) (fun r2 M2 => if r2 = 0 then (zden (L + 1) 25 58 [some (.ref 38), some (.int v1), some (.int (v2 + 1)), some (.int v3), some (.int v4)] [] M2) else (zden (L + 1) 25 58 [some (.ref 38), some (.int v1), some (.int v2), some (.int v3), some (.int v4)] [] M2))) else (zden (L + 1) 25 58 [some (.ref 38), some (.int v1), some (.int v2), some (.int v3), some (.int v4)] [] M1))) else (zden (L + 1) 25 4 [some (.ref 38), some (.int v1), some (.int v2), some (.int (v3 + 1)), some (.int v4)] [] M) :=
  (zd_w zf_25 13 4 rfl).trans
  (zd_ge zf_25 rfl ((zd_w zf_25 33 1 rfl).trans
  (zd_goto zf_25 rfl (rfl))) ((zd_w zf_25 18 3 rfl).trans
  (zd_ci zf_25 rfl rfl rfl rfl (fun r1 M1 => (zd_w zf_25 22 1 rfl).trans
  (zd_ge zf_25 rfl (rfl) ((zd_w zf_25 24 4 rfl).trans
  (zd_ci zf_25 rfl rfl rfl rfl (fun r2 M2 => zd_ne0 zf_25 rfl (rfl) ((zd_w zf_25 30 1 rfl))))))))))
theorem e25_58 (L : Nat) (v1 : Int32) (v2 : Int32) (v3 : Int32) (v4 : Int32) (M : zM) : zden (L + 1) 25 58 [some (.ref 38), some (.int v1), some (.int v2), some (.int v3), some (.int v4)] [] M =
  zden (L + 1) 25 20 [some (.ref 38), some (.int v1), some (.int v2), some (.int v3), some (.int (v4 + 1))] [] M :=
  (zd_w zf_25 31 1 rfl).trans
  (zd_goto zf_25 rfl (rfl))
theorem e27_0 (L : Nat) (v1 : Int32) (M : zM) : zden (L + 1) 27 0 [some (.ref 38), some (.int v1), none, none, none, none] [] M =
  zden (L + 1) 27 8 [some (.ref 38), some (.int v1), some (.int (-4)), some (.int (-1)), some (.int 1), none] [] M :=
  (zd_w zf_27 0 6 rfl)
theorem e27_8 (L : Nat) (v1 : Int32) (v2 : Int32) (v3 : Int32) (v4 : Int32) (o5 : Option Value) (M : zM) : zden (L + 1) 27 8 [some (.ref 38), some (.int v1), some (.int v2), some (.int v3), some (.int v4), o5] [] M =
  if v4 < (1 <<< ((M 1 9) &&& 31)) then (zbI (zden (L + 1) 26 0 [some (.int v4)] [] M) (fun r1 M1 => if r1 = v1 then (if (v4 &&& (M1 1 14)) = 0 then (zbI (zden (L + 1) 25 0 [some (.ref 38), some (.int ((M1 1 14) ||| v4)), none, none, none] [] M1) (fun r2 M2 => if v3 < r2 then (zden (L + 1) 27 72 [some (.ref 38), some (.int v1), some (.int v4), some (.int r2), some (.int v4), some (.int r2)] [] M2) else (zden (L + 1) 27 72 [some (.ref 38), some (.int v1), some (.int v2), some (.int v3), some (.int v4), some (.int r2)] [] M2))) else (zden (L + 1) 27 72 [some (.ref 38), some (.int v1), some (.int v2), some (.int v3), some (.int v4), o5] [] M1)) else (zden (L + 1) 27 72 [some (.ref 38), some (.int v1), some (.int v2), some (.int v3), some (.int v4), o5] [] M1))) else (some (some (.int v2), M)) :=
  (zd_w zf_27 6 6 rfl).trans
  (zd_ge zf_27 rfl ((zd_w zf_27 40 1 rfl).trans
  (zd_ri zf_27 rfl zr_27 rfl)) ((zd_w zf_27 13 1 rfl).trans
  (zd_ci zf_27 rfl rfl rfl rfl (fun r1 M1 => (zd_w zf_27 15 1 rfl).trans
  (zd_ne zf_27 rfl (rfl) ((zd_w zf_27 17 5 rfl).trans
  (zd_ne0 zf_27 rfl (rfl) ((zd_w zf_27 23 6 rfl).trans
  (zd_ci zf_27 rfl rfl rfl rfl (fun r2 M2 => (zd_w zf_27 30 3 rfl).trans
  (zd_le zf_27 rfl (rfl) ((zd_w zf_27 34 4 rfl)))))))))))))
theorem e27_72 (L : Nat) (v1 : Int32) (v2 : Int32) (v3 : Int32) (v4 : Int32) (o5 : Option Value) (M : zM) : zden (L + 1) 27 72 [some (.ref 38), some (.int v1), some (.int v2), some (.int v3), some (.int v4), o5] [] M =
  zden (L + 1) 27 8 [some (.ref 38), some (.int v1), some (.int v2), some (.int v3), some (.int (v4 + 1)), o5] [] M :=
  (zd_w zf_27 38 1 rfl).trans
  (zd_goto zf_27 rfl (rfl))
theorem e28_0 (L : Nat)  (M : zM) : zden (L + 1) 28 0 [some (.ref 38), none, none, none, none] [] M =
  zden (L + 1) 28 8 [some (.ref 38), some (.int (-4)), some (.int 1000000), some (.int 0), none] [] M :=
  (zd_w zf_28 0 6 rfl)
theorem e28_8 (L : Nat) (v1 : Int32) (v2 : Int32) (v3 : Int32) (o4 : Option Value) (M : zM) : zden (L + 1) 28 8 [some (.ref 38), some (.int v1), some (.int v2), some (.int v3), o4] [] M =
  if v3 < (M 1 9) then (zbI (zden (L + 1) 18 0 [some (.int (M 1 14)), some (.int v3)] [] M) (fun r1 M1 => if r1 = 0 then (zden (L + 1) 28 63 [some (.ref 38), some (.int v1), some (.int v2), some (.int v3), o4] [] M1) else (zbI (zden (L + 1) 25 0 [some (.ref 38), some (.int ((M1 1 14) &&& ((1 <<< (v3 &&& 31)) ^^^ (-1)))), none, none, none] [] M1) (fun r2 M2 => if r2 < v2 then (zden (L + 1) 28 63 [some (.ref 38), some (.int v3), some (.int r2), some (.int v3), some (.int r2)] [] M2) else (zden (L + 1) 28 63 [some (.ref 38), some (.int v1), some (.int v2), some (.int v3), some (.int r2)] [] M2))))) else (some (some (.int v1), M)) :=
  (zd_w zf_28 6 4 rfl).trans
  (zd_ge zf_28 rfl ((zd_w zf_28 38 1 rfl).trans
  (zd_ri zf_28 rfl zr_28 rfl)) ((zd_w zf_28 11 4 rfl).trans
  (zd_ci zf_28 rfl rfl rfl rfl (fun r1 M1 => zd_eq0 zf_28 rfl (rfl) ((zd_w zf_28 17 10 rfl).trans
  (zd_ci zf_28 rfl rfl rfl rfl (fun r2 M2 => (zd_w zf_28 28 3 rfl).trans
  (zd_ge zf_28 rfl (rfl) ((zd_w zf_28 32 4 rfl))))))))))
theorem e28_63 (L : Nat) (v1 : Int32) (v2 : Int32) (v3 : Int32) (o4 : Option Value) (M : zM) : zden (L + 1) 28 63 [some (.ref 38), some (.int v1), some (.int v2), some (.int v3), o4] [] M =
  zden (L + 1) 28 8 [some (.ref 38), some (.int v1), some (.int v2), some (.int (v3 + 1)), o4] [] M :=
  (zd_w zf_28 36 1 rfl).trans
  (zd_goto zf_28 rfl (rfl))
theorem e132_0 (L : Nat) (v1 : Int32) (M : zM) : zden (L + 1) 132 0 [some (.ref 0), some (.int v1), none] [] M =
  zbI (zden (L + 1) 0 0 [some (.ref 1), some (.int 3)] [] M) (fun r1 M1 => zden (L + 1) 132 12 [some (.ref 0), some (.int v1), some (.int (40 - r1))] [] M1) :=
  (zd_w zf_132 0 4 rfl).trans
  (zd_ci zf_132 rfl rfl rfl rfl (fun r1 M1 => (zd_w zf_132 5 2 rfl)))
theorem e132_12 (L : Nat) (v1 : Int32) (v2 : Int32) (M : zM) : zden (L + 1) 132 12 [some (.ref 0), some (.int v1), some (.int v2)] [] M =
  if v2 < 0 then (some (some (.int (-4)), M)) else (zbI (zden (L + 1) 58 0 [some (.ref 1)] [] M) (fun r1 M1 => zbI (zden (L + 1) 78 0 [some (.ref 26), some (.int v1), some (.int (r1 + v2)), none] [] M1) (fun r2 M2 => if r2 = 0 then (zden (L + 1) 132 12 [some (.ref 0), some (.int v1), some (.int (v2 + (-1)))] [] M2) else (some (some (.int v2), M2))))) :=
  (zd_w zf_132 7 1 rfl).trans
  (zd_lt0 zf_132 rfl ((zd_w zf_132 23 1 rfl).trans
  (zd_ri zf_132 rfl zr_132 rfl)) ((zd_w zf_132 9 5 rfl).trans
  (zd_ci zf_132 rfl rfl rfl rfl (fun r1 M1 => (zd_w zf_132 15 2 rfl).trans
  (zd_ci zf_132 rfl rfl rfl rfl (fun r2 M2 => zd_eq0 zf_132 rfl ((zd_w zf_132 21 1 rfl).trans
  (zd_goto zf_132 rfl (rfl))) ((zd_w zf_132 19 1 rfl).trans
  (zd_ri zf_132 rfl zr_132 rfl))))))))
theorem e14_43_0 (L : Nat)  (M : zM) : zden (L + 1) 14 0 [some (.ref 43)] [] M =
  some (none, zput M 43 3 0) :=
  (zd_w zf_14 0 3 rfl).trans
  (zd_rv zf_14 rfl)
theorem e5_4_0 (L : Nat) (v1 : Int32) (v2 : Int32) (M : zM) : zden (L + 1) 5 0 [some (.ref 4), some (.int v1), some (.int v2)] [] M =
  if v1 < 0 then (zden (L + 1) 5 14 [some (.ref 4), some (.int v1), some (.int v2)] [] M) else (if v1 < 12 then (if zinb v1 12 = true then (zden (L + 1) 5 14 [some (.ref 4), some (.int v1), some (.int v2)] [] (zput M 4 v1.toNatClampNeg v2)) else none) else (zden (L + 1) 5 14 [some (.ref 4), some (.int v1), some (.int v2)] [] M)) :=
  (zd_w zf_5 0 1 rfl).trans
  (zd_lt0 zf_5 rfl (rfl) ((zd_w zf_5 2 3 rfl).trans
  (zd_ge zf_5 rfl (rfl) ((zd_w zf_5 6 3 rfl).trans
  (zd_st zf_5 rfl rfl rfl (rfl))))))
theorem e5_4_14 (L : Nat) (o0 : Option Value) (o1 : Option Value) (o2 : Option Value) (M : zM) : zden (L + 1) 5 14 [o0, o1, o2] [] M =
  some (none, M) :=
  zd_rv zf_5 rfl
theorem e26_0 (L : Nat) (v0 : Int32) (M : zM) : zden (L + 1) 26 0 [some (.int v0)] [] M =
  some (some (.int ((((((((v0 - (((v0.toUInt32 >>> ((1 : Int32).toUInt32 &&& Int32.toUInt32 31)).toInt32) &&& 1431655765)) &&& 858993459) + ((((v0 - (((v0.toUInt32 >>> ((1 : Int32).toUInt32 &&& Int32.toUInt32 31)).toInt32) &&& 1431655765)).toUInt32 >>> ((2 : Int32).toUInt32 &&& Int32.toUInt32 31)).toInt32) &&& 858993459)) + (((((v0 - (((v0.toUInt32 >>> ((1 : Int32).toUInt32 &&& Int32.toUInt32 31)).toInt32) &&& 1431655765)) &&& 858993459) + ((((v0 - (((v0.toUInt32 >>> ((1 : Int32).toUInt32 &&& Int32.toUInt32 31)).toInt32) &&& 1431655765)).toUInt32 >>> ((2 : Int32).toUInt32 &&& Int32.toUInt32 31)).toInt32) &&& 858993459)).toUInt32 >>> ((4 : Int32).toUInt32 &&& Int32.toUInt32 31)).toInt32)) &&& 252645135) + (((((((v0 - (((v0.toUInt32 >>> ((1 : Int32).toUInt32 &&& Int32.toUInt32 31)).toInt32) &&& 1431655765)) &&& 858993459) + ((((v0 - (((v0.toUInt32 >>> ((1 : Int32).toUInt32 &&& Int32.toUInt32 31)).toInt32) &&& 1431655765)).toUInt32 >>> ((2 : Int32).toUInt32 &&& Int32.toUInt32 31)).toInt32) &&& 858993459)) + (((((v0 - (((v0.toUInt32 >>> ((1 : Int32).toUInt32 &&& Int32.toUInt32 31)).toInt32) &&& 1431655765)) &&& 858993459) + ((((v0 - (((v0.toUInt32 >>> ((1 : Int32).toUInt32 &&& Int32.toUInt32 31)).toInt32) &&& 1431655765)).toUInt32 >>> ((2 : Int32).toUInt32 &&& Int32.toUInt32 31)).toInt32) &&& 858993459)).toUInt32 >>> ((4 : Int32).toUInt32 &&& Int32.toUInt32 31)).toInt32)) &&& 252645135).toUInt32 >>> ((8 : Int32).toUInt32 &&& Int32.toUInt32 31)).toInt32)) + ((((((((v0 - (((v0.toUInt32 >>> ((1 : Int32).toUInt32 &&& Int32.toUInt32 31)).toInt32) &&& 1431655765)) &&& 858993459) + ((((v0 - (((v0.toUInt32 >>> ((1 : Int32).toUInt32 &&& Int32.toUInt32 31)).toInt32) &&& 1431655765)).toUInt32 >>> ((2 : Int32).toUInt32 &&& Int32.toUInt32 31)).toInt32) &&& 858993459)) + (((((v0 - (((v0.toUInt32 >>> ((1 : Int32).toUInt32 &&& Int32.toUInt32 31)).toInt32) &&& 1431655765)) &&& 858993459) + ((((v0 - (((v0.toUInt32 >>> ((1 : Int32).toUInt32 &&& Int32.toUInt32 31)).toInt32) &&& 1431655765)).toUInt32 >>> ((2 : Int32).toUInt32 &&& Int32.toUInt32 31)).toInt32) &&& 858993459)).toUInt32 >>> ((4 : Int32).toUInt32 &&& Int32.toUInt32 31)).toInt32)) &&& 252645135) + (((((((v0 - (((v0.toUInt32 >>> ((1 : Int32).toUInt32 &&& Int32.toUInt32 31)).toInt32) &&& 1431655765)) &&& 858993459) + ((((v0 - (((v0.toUInt32 >>> ((1 : Int32).toUInt32 &&& Int32.toUInt32 31)).toInt32) &&& 1431655765)).toUInt32 >>> ((2 : Int32).toUInt32 &&& Int32.toUInt32 31)).toInt32) &&& 858993459)) + (((((v0 - (((v0.toUInt32 >>> ((1 : Int32).toUInt32 &&& Int32.toUInt32 31)).toInt32) &&& 1431655765)) &&& 858993459) + ((((v0 - (((v0.toUInt32 >>> ((1 : Int32).toUInt32 &&& Int32.toUInt32 31)).toInt32) &&& 1431655765)).toUInt32 >>> ((2 : Int32).toUInt32 &&& Int32.toUInt32 31)).toInt32) &&& 858993459)).toUInt32 >>> ((4 : Int32).toUInt32 &&& Int32.toUInt32 31)).toInt32)) &&& 252645135).toUInt32 >>> ((8 : Int32).toUInt32 &&& Int32.toUInt32 31)).toInt32)).toUInt32 >>> ((16 : Int32).toUInt32 &&& Int32.toUInt32 31)).toInt32)) &&& 63)), M) :=
  (zd_w zf_26 0 41 rfl).trans
  (zd_ri zf_26 rfl zr_26 rfl)
theorem e12_0 (L : Nat) (v1 : Int32) (v2 : Int32) (v3 : Int32) (M : zM) : zden (L + 1) 12 0 [some (.ref 36), some (.int v1), some (.int v2), some (.int v3), none] [] M =
  zden (L + 1) 12 3 [some (.ref 36), some (.int v1), some (.int v2), some (.int v3), some (.int 0)] [] M :=
  (zd_w zf_12 0 2 rfl)
theorem e12_3 (L : Nat) (v1 : Int32) (v2 : Int32) (v3 : Int32) (v4 : Int32) (M : zM) : zden (L + 1) 12 3 [some (.ref 36), some (.int v1), some (.int v2), some (.int v3), some (.int v4)] [] M =
  if v4 < v3 then (zbI (zden (L + 1) 11 0 [some (.int v1), some (.int v4), none, none] [] M) (fun r1 M1 => zbI (zden (L + 1) 7 0 [some (.ref 36), some (.int v2), some (.int v4)] [] M1) (fun r2 M2 => if r1 < r2 then (some (some (.int v4), M2)) else (zden (L + 1) 12 3 [some (.ref 36), some (.int v1), some (.int v2), some (.int v3), some (.int (v4 + 1))] [] M2)))) else (some (some (.int (-4)), M)) :=
  (zd_w zf_12 2 2 rfl).trans
  (zd_ge zf_12 rfl ((zd_w zf_12 17 1 rfl).trans
  (zd_ri zf_12 rfl zr_12 rfl)) ((zd_w zf_12 5 2 rfl).trans
  (zd_ci zf_12 rfl rfl rfl rfl (fun r1 M1 => (zd_w zf_12 8 3 rfl).trans
  (zd_ci zf_12 rfl rfl rfl rfl (fun r2 M2 => zd_ge zf_12 rfl ((zd_w zf_12 15 1 rfl).trans
  (zd_goto zf_12 rfl (rfl))) ((zd_w zf_12 13 1 rfl).trans
  (zd_ri zf_12 rfl zr_12 rfl))))))))
theorem e6_0 (L : Nat) (v1 : Int32) (M : zM) : zden (L + 1) 6 0 [some (.ref 36), some (.int v1), none] [] M =
  zden (L + 1) 6 2 [some (.ref 36), some (.int v1), some (.int 0)] [] M :=
  (zd_w zf_6 0 2 rfl)
theorem e6_2 (L : Nat) (v1 : Int32) (v2 : Int32) (M : zM) : zden (L + 1) 6 2 [some (.ref 36), some (.int v1), some (.int v2)] [] M =
  if v2 < 24 then (zbI (zden (L + 1) 4 0 [some (.ref 7), some (.int v2)] [] M) (fun r1 M1 => zbI (zden (L + 1) 2 0 [some (.ref 36), some (.int r1), some (.int v1), none] [] M1) (fun r2 M2 => zbV (zden (L + 1) 5 0 [some (.ref 37), some (.int v2), some (.int r2)] [] M2) (fun M3 => zden (L + 1) 6 2 [some (.ref 36), some (.int v1), some (.int (v2 + 1))] [] M3)))) else (some (none, M)) :=
  (zd_w zf_6 2 2 rfl).trans
  (zd_ge zf_6 rfl (zd_rv zf_6 rfl) ((zd_w zf_6 5 8 rfl).trans
  (zd_ci zf_6 rfl rfl rfl rfl (fun r1 M1 => (zd_w zf_6 14 1 rfl).trans
  (zd_ci zf_6 rfl rfl rfl rfl (fun r2 M2 => zd_cv zf_6 rfl rfl rfl rfl (fun M3 => (zd_w zf_6 17 1 rfl).trans
  (zd_goto zf_6 rfl (rfl)))))))))
theorem e16_45_42_0 (L : Nat)  (M : zM) : zden (L + 1) 16 0 [some (.ref 45), some (.ref 42), none] [] M =
  if (M 45 3) < (M 45 0) then (zden (L + 1) 16 15 [some (.ref 45), some (.ref 42), none] [] M) else (zbV (zden (L + 1) 15 0 [some (.ref 45), none] [] M) (fun M1 => zden (L + 1) 16 15 [some (.ref 45), some (.ref 42), none] [] M1)) :=
  (zd_w zf_16 0 4 rfl).trans
  (zd_lt zf_16 rfl (rfl) ((zd_w zf_16 5 1 rfl).trans
  (zd_cv zf_16 rfl rfl rfl rfl (fun M1 => rfl))))
theorem e16_45_42_15 (L : Nat) (o2 : Option Value) (M : zM) : zden (L + 1) 16 15 [some (.ref 45), some (.ref 42), o2] [] M =
  zden (L + 1) 16 17 [some (.ref 45), some (.ref 42), some (.int 0)] [] M :=
  (zd_w zf_16 7 2 rfl)
theorem e16_45_42_17 (L : Nat) (v2 : Int32) (M : zM) : zden (L + 1) 16 17 [some (.ref 45), some (.ref 42), some (.int v2)] [] M =
  if v2 < (M 45 1) then (zbI (zden (L + 1) 4 0 [some (.ref 42), some (.int v2)] [] M) (fun r1 M1 => zbV (zden (L + 1) 5 0 [some (.ref 46), some (.int (((M 45 3) * (M 45 1)) + v2)), some (.int r1)] [] M1) (fun M2 => zden (L + 1) 16 17 [some (.ref 45), some (.ref 42), some (.int (v2 + 1))] [] M2))) else (some (none, zput M 45 3 ((M 45 3) + 1))) :=
  (zd_w zf_16 9 3 rfl).trans
  (zd_ge zf_16 rfl ((zd_w zf_16 28 6 rfl).trans
  (zd_rv zf_16 rfl)) ((zd_w zf_16 13 11 rfl).trans
  (zd_ci zf_16 rfl rfl rfl rfl (fun r1 M1 => zd_cv zf_16 rfl rfl rfl rfl (fun M2 => (zd_w zf_16 26 1 rfl).trans
  (zd_goto zf_16 rfl (rfl)))))))
theorem e31_40_42_0 (L : Nat)  (M : zM) : zden (L + 1) 31 0 [some (.ref 40), some (.ref 42), none] [] M =
  zden (L + 1) 31 2 [some (.ref 40), some (.ref 42), some (.int 0)] [] M :=
  (zd_w zf_31 0 2 rfl)
theorem e31_40_42_2 (L : Nat) (v2 : Int32) (M : zM) : zden (L + 1) 31 2 [some (.ref 40), some (.ref 42), some (.int v2)] [] M =
  if v2 < 6 then (if v2 < 8 then (if zinb v2 6 = true then (if zinb v2 8 = true then (zden (L + 1) 31 2 [some (.ref 40), some (.ref 42), some (.int (v2 + 1))] [] (zput M 42 v2.toNatClampNeg (M 40 v2.toNatClampNeg))) else none) else none) else (zden (L + 1) 31 26 [some (.ref 40), some (.ref 42), some (.int v2)] [] M)) else (zden (L + 1) 31 26 [some (.ref 40), some (.ref 42), some (.int v2)] [] M) :=
  (zd_w zf_31 2 3 rfl).trans
  (zd_ge zf_31 rfl (rfl) ((zd_w zf_31 6 3 rfl).trans
  (zd_ge zf_31 rfl (rfl) ((zd_w zf_31 10 4 rfl).trans
  (zd_ld zf_31 rfl rfl (zd_st zf_31 rfl rfl rfl ((zd_w zf_31 16 1 rfl).trans
  (zd_goto zf_31 rfl (rfl)))))))))
theorem e31_40_42_26 (L : Nat) (o0 : Option Value) (o1 : Option Value) (o2 : Option Value) (M : zM) : zden (L + 1) 31 26 [o0, o1, o2] [] M =
  some (none, M) :=
  zd_rv zf_31 rfl
theorem e5_42_0 (L : Nat) (v1 : Int32) (v2 : Int32) (M : zM) : zden (L + 1) 5 0 [some (.ref 42), some (.int v1), some (.int v2)] [] M =
  if v1 < 0 then (zden (L + 1) 5 14 [some (.ref 42), some (.int v1), some (.int v2)] [] M) else (if v1 < 8 then (if zinb v1 8 = true then (zden (L + 1) 5 14 [some (.ref 42), some (.int v1), some (.int v2)] [] (zput M 42 v1.toNatClampNeg v2)) else none) else (zden (L + 1) 5 14 [some (.ref 42), some (.int v1), some (.int v2)] [] M)) :=
  (zd_w zf_5 0 1 rfl).trans
  (zd_lt0 zf_5 rfl (rfl) ((zd_w zf_5 2 3 rfl).trans
  (zd_ge zf_5 rfl (rfl) ((zd_w zf_5 6 3 rfl).trans
  (zd_st zf_5 rfl rfl rfl (rfl))))))
theorem e5_42_14 (L : Nat) (o0 : Option Value) (o1 : Option Value) (o2 : Option Value) (M : zM) : zden (L + 1) 5 14 [o0, o1, o2] [] M =
  some (none, M) :=
  zd_rv zf_5 rfl
theorem e17_45_42_0 (L : Nat)  (M : zM) : zden (L + 1) 17 0 [some (.ref 45), some (.ref 42), none] [] M =
  if 0 < (M 45 3) then (zden (L + 1) 17 21 [some (.ref 45), some (.ref 42), some (.int 0)] [] (zput M 45 3 ((M 45 3) - 1))) else (some (some (.int 0), M)) :=
  (zd_w zf_17 0 2 rfl).trans
  (zd_gt0 zf_17 rfl ((zd_w zf_17 5 8 rfl)) ((zd_w zf_17 3 1 rfl).trans
  (zd_ri zf_17 rfl zr_17 rfl)))
theorem e17_45_42_21 (L : Nat) (v2 : Int32) (M : zM) : zden (L + 1) 17 21 [some (.ref 45), some (.ref 42), some (.int v2)] [] M =
  if v2 < (M 45 1) then (zbI (zden (L + 1) 4 0 [some (.ref 46), some (.int (((M 45 3) * (M 45 1)) + v2))] [] M) (fun r1 M1 => zbV (zden (L + 1) 5 0 [some (.ref 42), some (.int v2), some (.int r1)] [] M1) (fun M2 => zden (L + 1) 17 21 [some (.ref 45), some (.ref 42), some (.int (v2 + 1))] [] M2))) else (some (some (.int 1), M)) :=
  (zd_w zf_17 13 3 rfl).trans
  (zd_ge zf_17 rfl ((zd_w zf_17 32 1 rfl).trans
  (zd_ri zf_17 rfl zr_17 rfl)) ((zd_w zf_17 17 11 rfl).trans
  (zd_ci zf_17 rfl rfl rfl rfl (fun r1 M1 => zd_cv zf_17 rfl rfl rfl rfl (fun M2 => (zd_w zf_17 30 1 rfl).trans
  (zd_goto zf_17 rfl (rfl)))))))
theorem e31_42_40_0 (L : Nat)  (M : zM) : zden (L + 1) 31 0 [some (.ref 42), some (.ref 40), none] [] M =
  zden (L + 1) 31 2 [some (.ref 42), some (.ref 40), some (.int 0)] [] M :=
  (zd_w zf_31 0 2 rfl)
theorem e31_42_40_2 (L : Nat) (v2 : Int32) (M : zM) : zden (L + 1) 31 2 [some (.ref 42), some (.ref 40), some (.int v2)] [] M =
  if v2 < 8 then (if v2 < 6 then (if zinb v2 8 = true then (if zinb v2 6 = true then (zden (L + 1) 31 2 [some (.ref 42), some (.ref 40), some (.int (v2 + 1))] [] (zput M 40 v2.toNatClampNeg (M 42 v2.toNatClampNeg))) else none) else none) else (zden (L + 1) 31 26 [some (.ref 42), some (.ref 40), some (.int v2)] [] M)) else (zden (L + 1) 31 26 [some (.ref 42), some (.ref 40), some (.int v2)] [] M) :=
  (zd_w zf_31 2 3 rfl).trans
  (zd_ge zf_31 rfl (rfl) ((zd_w zf_31 6 3 rfl).trans
  (zd_ge zf_31 rfl (rfl) ((zd_w zf_31 10 4 rfl).trans
  (zd_ld zf_31 rfl rfl (zd_st zf_31 rfl rfl rfl ((zd_w zf_31 16 1 rfl).trans
  (zd_goto zf_31 rfl (rfl)))))))))
theorem e31_42_40_26 (L : Nat) (o0 : Option Value) (o1 : Option Value) (o2 : Option Value) (M : zM) : zden (L + 1) 31 26 [o0, o1, o2] [] M =
  some (none, M) :=
  zd_rv zf_31 rfl
theorem e4_42_0 (L : Nat) (v1 : Int32) (M : zM) : zden (L + 1) 4 0 [some (.ref 42), some (.int v1)] [] M =
  if v1 < 0 then (zden (L + 1) 4 16 [some (.ref 42), some (.int v1)] [] M) else (if v1 < 8 then (if zinb v1 8 = true then (zden (L + 1) 4 17 [some (.ref 42), some (.int v1)] [.int (M 42 v1.toNatClampNeg)] M) else none) else (zden (L + 1) 4 16 [some (.ref 42), some (.int v1)] [] M)) :=
  (zd_w zf_4 0 1 rfl).trans
  (zd_lt0 zf_4 rfl (rfl) ((zd_w zf_4 2 3 rfl).trans
  (zd_ge zf_4 rfl (rfl) ((zd_w zf_4 6 2 rfl).trans
  (zd_ld zf_4 rfl rfl (zd_goto zf_4 rfl (rfl)))))))
theorem e4_42_16 (L : Nat) (o0 : Option Value) (o1 : Option Value) (M : zM) : zden (L + 1) 4 16 [o0, o1] [] M =
  zden (L + 1) 4 17 [o0, o1] [.int 0] M :=
  (zd_w zf_4 10 1 rfl)
theorem e4_42_17 (L : Nat) (o0 : Option Value) (o1 : Option Value) (s0 : Int32) (M : zM) : zden (L + 1) 4 17 [o0, o1] [.int s0] M =
  some (some (.int s0), M) :=
  zd_ri zf_4 rfl zr_4 rfl
theorem e94_0 (L : Nat)  (M : zM) : zden (L + 1) 94 0 [some (.ref 0)] [] M =
  zbV (zden (L + 1) 14 0 [some (.ref 43)] [] (zput M 0 15 0)) (fun M1 => some (none, M1)) :=
  (zd_w zf_94 0 5 rfl).trans
  (zd_cv zf_94 rfl rfl rfl rfl (fun M1 => zd_rv zf_94 rfl))
theorem e143_0 (L : Nat) (v0 : Int64) (v2 : Int64) (v4 : Int64) (M : zM) : zden (L + 1) 143 0 [some (.long v0), none, some (.long v2), none, some (.long v4), none] [] M =
  if (lg_cmp v0 v2) < 0 then (zden (L + 1) 143 17 [some (.long v0), none, some (.long v2), none, some (.long v4), none] [] M) else (if 0 < (lg_cmp v0 v4) then (zden (L + 1) 143 17 [some (.long v0), none, some (.long v2), none, some (.long v4), none] [] M) else (zden (L + 1) 143 18 [some (.long v0), none, some (.long v2), none, some (.long v4), none] [.int 1] M)) :=
  (zd_w zf_143 0 3 rfl).trans
  (zd_lt0 zf_143 rfl (rfl) ((zd_w zf_143 4 3 rfl).trans
  (zd_gt0 zf_143 rfl (rfl) ((zd_w zf_143 8 1 rfl).trans
  (zd_goto zf_143 rfl (rfl))))))
theorem e143_17 (L : Nat) (o0 : Option Value) (o1 : Option Value) (o2 : Option Value) (o3 : Option Value) (o4 : Option Value) (o5 : Option Value) (M : zM) : zden (L + 1) 143 17 [o0, o1, o2, o3, o4, o5] [] M =
  zden (L + 1) 143 18 [o0, o1, o2, o3, o4, o5] [.int 0] M :=
  (zd_w zf_143 10 1 rfl)
theorem e143_18 (L : Nat) (o0 : Option Value) (o1 : Option Value) (o2 : Option Value) (o3 : Option Value) (o4 : Option Value) (o5 : Option Value) (s0 : Int32) (M : zM) : zden (L + 1) 143 18 [o0, o1, o2, o3, o4, o5] [.int s0] M =
  if zfit (some .boolean) s0 = true then some (some (.int s0), M) else none :=
  zd_rf zf_143 rfl zr_143
theorem e157_0 (L : Nat)  (M : zM) : zden (L + 1) 157 0 [some (.ref 48), none] [] M =
  zbV (zden (L + 1) 141 0 [some (.ref 50), none] [] M) (fun M1 => zden (L + 1) 157 12 [some (.ref 48), none] [] (zput M1 48 11 0)) :=
  (zd_w zf_157 0 2 rfl).trans
  (zd_cv zf_157 rfl rfl rfl rfl (fun M1 => (zd_w zf_157 3 3 rfl)))
theorem e157_12 (L : Nat) (o1 : Option Value) (M : zM) : zden (L + 1) 157 12 [some (.ref 48), o1] [] M =
  if (M 48 11) < (M 48 3) then (zbI (zden (L + 1) 156 0 [some (.ref 48), none] [] M) (fun r1 M1 => if r1 = 0 then (some (some (.int (M 48 11)), M1)) else (zden (L + 1) 157 12 [some (.ref 48), some (.int (M 48 11))] [] M1))) else (some (some (.int (-4)), M)) :=
  (zd_w zf_157 6 4 rfl).trans
  (zd_ge zf_157 rfl ((zd_w zf_157 20 1 rfl).trans
  (zd_ri zf_157 rfl zr_157 rfl)) ((zd_w zf_157 11 4 rfl).trans
  (zd_ci zf_157 rfl rfl rfl rfl (fun r1 M1 => zd_ne0 zf_157 rfl (zd_goto zf_157 rfl (rfl)) ((zd_w zf_157 17 1 rfl).trans
  (zd_ri zf_157 rfl zr_157 rfl))))))
theorem e160_0 (L : Nat) (v1 : Int32) (M : zM) : zden (L + 1) 160 0 [some (.ref 48), some (.int v1)] [] M =
  zbI (zden (L + 1) 143 0 [some (.long v1.toInt64), none, some (.long 0), none, some (.long (((M 49 0) - 1).toInt64)), none] [] M) (fun r1 M1 => if zfit (some .boolean) r1 = true then some (some (.int r1), M1) else none) :=
  (zd_w zf_160 0 10 rfl).trans
  (zd_ci zf_160 rfl rfl rfl rfl (fun r1 M1 => zd_rf zf_160 rfl zr_160))
theorem e161_0 (L : Nat) (v0 : Int32) (M : zM) : zden (L + 1) 161 0 [some (.int v0)] [] M =
  zbI (zden (L + 1) 143 0 [some (.long v0.toInt64), none, some (.long 0), none, some (.long 1), none] [] M) (fun r1 M1 => if zfit (some .boolean) r1 = true then some (some (.int r1), M1) else none) :=
  (zd_w zf_161 0 4 rfl).trans
  (zd_ci zf_161 rfl rfl rfl rfl (fun r1 M1 => zd_rf zf_161 rfl zr_161))
theorem e163_0 (L : Nat)  (M : zM) : zden (L + 1) 163 0 [some (.ref 48)] [] M =
  some (some (.int (((M 49 5) + (M 49 7)) + (M 49 8))), M) :=
  (zd_w zf_163 0 14 rfl).trans
  (zd_ri zf_163 rfl zr_163 rfl)
theorem e165_0 (L : Nat) (v1 : Int32) (M : zM) : zden (L + 1) 165 0 [some (.ref 48), some (.int v1)] [] M =
  zbI (zden (L + 1) 143 0 [some (.long v1.toInt64), none, some (.long 0), none, some (.long (((M 49 1) - 1).toInt64)), none] [] M) (fun r1 M1 => if zfit (some .boolean) r1 = true then some (some (.int r1), M1) else none) :=
  (zd_w zf_165 0 10 rfl).trans
  (zd_ci zf_165 rfl rfl rfl rfl (fun r1 M1 => zd_rf zf_165 rfl zr_165))
theorem e167_0 (L : Nat) (v0 : Int32) (M : zM) : zden (L + 1) 167 0 [some (.int v0)] [] M =
  zbI (zden (L + 1) 143 0 [some (.long v0.toInt64), none, some (.long 0), none, some (.long 23), none] [] M) (fun r1 M1 => if zfit (some .boolean) r1 = true then some (some (.int r1), M1) else none) :=
  (zd_w zf_167 0 4 rfl).trans
  (zd_ci zf_167 rfl rfl rfl rfl (fun r1 M1 => zd_rf zf_167 rfl zr_167))
theorem e169_0 (L : Nat) (v1 : Int32) (M : zM) : zden (L + 1) 169 0 [some (.ref 48), some (.int v1)] [] M =
  zbI (zden (L + 1) 143 0 [some (.long v1.toInt64), none, some (.long 0), none, some (.long (((M 49 2) - 1).toInt64)), none] [] M) (fun r1 M1 => if zfit (some .boolean) r1 = true then some (some (.int r1), M1) else none) :=
  (zd_w zf_169 0 10 rfl).trans
  (zd_ci zf_169 rfl rfl rfl rfl (fun r1 M1 => zd_rf zf_169 rfl zr_169))
theorem e173_0 (L : Nat) (v1 : Int32) (v2 : Int32) (v3 : Int32) (v4 : Int32) (M : zM) : zden (L + 1) 173 0 [some (.ref 48), some (.int v1), some (.int v2), some (.int v3), some (.int v4), none, none, none] [] M =
  if zinb (16 + v1) 116 = true then (if v2 = 0 then (if (M 49 4) < (2 * (M 49 (16 + v1).toNatClampNeg)) then (zden (L + 1) 173 44 [some (.ref 48), some (.int v1), some (.int v2), some (.int v3), some (.int v4), some (.int (M 49 (16 + v1).toNatClampNeg)), some (.int (M 49 4)), none] [] M) else (zden (L + 1) 173 32 [some (.ref 48), some (.int v1), some (.int v2), some (.int v3), some (.int v4), some (.int (M 49 (16 + v1).toNatClampNeg)), some (.int (M 49 4)), none] [] M)) else (zden (L + 1) 173 32 [some (.ref 48), some (.int v1), some (.int v2), some (.int v3), some (.int v4), some (.int (M 49 (16 + v1).toNatClampNeg)), some (.int (M 49 4)), none] [] M)) else none :=
  (zd_w zf_173 0 5 rfl).trans
  (zd_ld zf_173 rfl rfl ((zd_w zf_173 6 7 rfl).trans
  (zd_ne0 zf_173 rfl (rfl) ((zd_w zf_173 14 4 rfl).trans
  (zd_lt zf_173 rfl (rfl) (rfl))))))
theorem e173_32 (L : Nat) (o1 : Option Value) (v2 : Int32) (v3 : Int32) (v4 : Int32) (v5 : Int32) (v6 : Int32) (o7 : Option Value) (M : zM) : zden (L + 1) 173 32 [some (.ref 48), o1, some (.int v2), some (.int v3), some (.int v4), some (.int v5), some (.int v6), o7] [] M =
  if v2 = 1 then (if v6 < v5 then (zden (L + 1) 173 44 [some (.ref 48), o1, some (.int v2), some (.int v3), some (.int v4), some (.int v5), some (.int v6), o7] [] M) else (zden (L + 1) 173 46 [some (.ref 48), o1, some (.int v2), some (.int v3), some (.int v4), some (.int v5), some (.int v6), o7] [] M)) else (zden (L + 1) 173 46 [some (.ref 48), o1, some (.int v2), some (.int v3), some (.int v4), some (.int v5), some (.int v6), o7] [] M) :=
  (zd_w zf_173 19 2 rfl).trans
  (zd_ne zf_173 rfl (rfl) ((zd_w zf_173 22 2 rfl).trans
  (zd_ge zf_173 rfl (rfl) (rfl))))
theorem e173_44 (L : Nat) (o0 : Option Value) (o1 : Option Value) (o2 : Option Value) (o3 : Option Value) (o4 : Option Value) (o5 : Option Value) (o6 : Option Value) (o7 : Option Value) (M : zM) : zden (L + 1) 173 44 [o0, o1, o2, o3, o4, o5, o6, o7] [] M =
  some (some (.int (-1)), M) :=
  (zd_w zf_173 25 1 rfl).trans
  (zd_ri zf_173 rfl zr_173 rfl)
theorem e173_46 (L : Nat) (o1 : Option Value) (v2 : Int32) (v3 : Int32) (v4 : Int32) (v5 : Int32) (v6 : Int32) (o7 : Option Value) (M : zM) : zden (L + 1) 173 46 [some (.ref 48), o1, some (.int v2), some (.int v3), some (.int v4), some (.int v5), some (.int v6), o7] [] M =
  if v2 = 0 then (zden (L + 1) 173 76 [some (.ref 48), o1, some (.int v2), some (.int v3), some (.int v4), some (.int v5), some (.int v6), o7] [.int v6, .int (v4 * v5)] M) else (if v2 = 1 then (zden (L + 1) 173 76 [some (.ref 48), o1, some (.int v2), some (.int v3), some (.int v4), some (.int v5), some (.int v6), o7] [.int (2 * v6), .int (v4 * v5)] M) else (zden (L + 1) 173 76 [some (.ref 48), o1, some (.int v2), some (.int v3), some (.int v4), some (.int v5), some (.int v6), o7] [.int (4 * v6), .int (v4 * v5)] M)) :=
  (zd_w zf_173 27 4 rfl).trans
  (zd_ne0 zf_173 rfl ((zd_w zf_173 34 2 rfl).trans
  (zd_ne zf_173 rfl ((zd_w zf_173 41 3 rfl)) ((zd_w zf_173 37 3 rfl).trans
  (zd_goto zf_173 rfl (rfl))))) ((zd_w zf_173 32 1 rfl).trans
  (zd_goto zf_173 rfl (rfl))))
theorem e173_76 (L : Nat) (o1 : Option Value) (v2 : Int32) (v3 : Int32) (o4 : Option Value) (o5 : Option Value) (o6 : Option Value) (o7 : Option Value) (s0 : Int32) (s1 : Int32) (M : zM) : zden (L + 1) 173 76 [some (.ref 48), o1, some (.int v2), some (.int v3), o4, o5, o6, o7] [.int s0, .int s1] M =
  zbI (zden (L + 1) 172 0 [some (.int s1), some (.int s0)] [] M) (fun r1 M1 => if v3 = 0 then (zden (L + 1) 173 97 [some (.ref 48), o1, some (.int v2), some (.int v3), o4, o5, (zkl o6), some (.int r1)] [.int 0, .int r1] M1) else (zbI (zden (L + 1) 172 0 [some (.int r1), some (.int 2)] [] M1) (fun r2 M2 => zden (L + 1) 173 97 [some (.ref 48), o1, some (.int v2), some (.int v3), o4, o5, (zkl o6), some (.int r1)] [.int r2, .int r1] M2))) :=
  zd_ci zf_173 rfl rfl rfl rfl (fun r1 M1 => (zd_w zf_173 45 3 rfl).trans
  (zd_eq0 zf_173 rfl ((zd_w zf_173 53 1 rfl)) ((zd_w zf_173 49 2 rfl).trans
  (zd_ci zf_173 rfl rfl rfl rfl (fun r2 M2 => zd_goto zf_173 rfl (rfl))))))
theorem e173_97 (L : Nat) (o1 : Option Value) (v2 : Int32) (o3 : Option Value) (o4 : Option Value) (o5 : Option Value) (o6 : Option Value) (o7 : Option Value) (s0 : Int32) (s1 : Int32) (M : zM) : zden (L + 1) 173 97 [some (.ref 48), o1, some (.int v2), o3, o4, o5, o6, o7] [.int s0, .int s1] M =
  if v2 < 2 then (if (M 49 6) < (s1 + s0) then (zden (L + 1) 173 123 [some (.ref 48), o1, some (.int v2), o3, o4, o5, (zkl o6), some (.int (s1 + s0))] [.int (-1)] M) else (zden (L + 1) 173 121 [some (.ref 48), o1, some (.int v2), o3, o4, o5, (zkl o6), some (.int (s1 + s0))] [] M)) else (zden (L + 1) 173 121 [some (.ref 48), o1, some (.int v2), o3, o4, o5, (zkl o6), some (.int (s1 + s0))] [] M) :=
  (zd_w zf_173 54 4 rfl).trans
  (zd_ge zf_173 rfl (rfl) ((zd_w zf_173 59 5 rfl).trans
  (zd_le zf_173 rfl (rfl) ((zd_w zf_173 65 1 rfl).trans
  (zd_goto zf_173 rfl (rfl))))))
theorem e173_121 (L : Nat) (o0 : Option Value) (o1 : Option Value) (o2 : Option Value) (o3 : Option Value) (o4 : Option Value) (o5 : Option Value) (o6 : Option Value) (v7 : Int32) (M : zM) : zden (L + 1) 173 121 [o0, o1, o2, o3, o4, o5, o6, some (.int v7)] [] M =
  zden (L + 1) 173 123 [o0, o1, o2, o3, o4, o5, o6, some (.int v7)] [.int v7] M :=
  (zd_w zf_173 67 1 rfl)
theorem e173_123 (L : Nat) (o0 : Option Value) (o1 : Option Value) (o2 : Option Value) (o3 : Option Value) (o4 : Option Value) (o5 : Option Value) (o6 : Option Value) (o7 : Option Value) (s0 : Int32) (M : zM) : zden (L + 1) 173 123 [o0, o1, o2, o3, o4, o5, o6, o7] [.int s0] M =
  some (some (.int s0), M) :=
  zd_ri zf_173 rfl zr_173 rfl
theorem e174_0 (L : Nat) (v1 : Int32) (v2 : Int32) (v3 : Int32) (M : zM) : zden (L + 1) 174 0 [some (.ref 48), some (.int v1), some (.int v2), some (.int v3), none] [] M =
  if zinb (16 + v1) 116 = true then (if v2 = 0 then (if v3 = 0 then (zden (L + 1) 174 52 [some (.ref 48), some (.int v1), some (.int v2), some (.int v3), some (.int (M 49 (16 + v1).toNatClampNeg))] [.int (M 49 (16 + v1).toNatClampNeg)] M) else (zden (L + 1) 174 52 [some (.ref 48), some (.int v1), some (.int v2), some (.int v3), some (.int (M 49 (16 + v1).toNatClampNeg))] [.int (2 * (M 49 (16 + v1).toNatClampNeg))] M)) else (if v2 = 1 then (zbI (zden (L + 1) 172 0 [some (.int (M 49 (16 + v1).toNatClampNeg)), some (.int 2)] [] M) (fun r1 M1 => zden (L + 1) 174 52 [some (.ref 48), some (.int v1), some (.int v2), some (.int v3), some (.int (M 49 (16 + v1).toNatClampNeg))] [.int ((M 49 (16 + v1).toNatClampNeg) + r1)] M1)) else (zden (L + 1) 174 52 [some (.ref 48), some (.int v1), some (.int v2), some (.int v3), some (.int (M 49 (16 + v1).toNatClampNeg))] [.int (2 * (M 49 (16 + v1).toNatClampNeg))] M))) else none :=
  (zd_w zf_174 0 5 rfl).trans
  (zd_ld zf_174 rfl rfl ((zd_w zf_174 6 2 rfl).trans
  (zd_ne0 zf_174 rfl ((zd_w zf_174 17 2 rfl).trans
  (zd_ne zf_174 rfl ((zd_w zf_174 26 3 rfl)) ((zd_w zf_174 20 3 rfl).trans
  (zd_ci zf_174 rfl rfl rfl rfl (fun r1 M1 => (zd_w zf_174 24 1 rfl).trans
  (zd_goto zf_174 rfl (rfl))))))) ((zd_w zf_174 9 1 rfl).trans
  (zd_eq0 zf_174 rfl ((zd_w zf_174 15 1 rfl).trans
  (zd_goto zf_174 rfl (rfl))) ((zd_w zf_174 11 3 rfl).trans
  (zd_goto zf_174 rfl (rfl))))))))
theorem e174_52 (L : Nat) (o0 : Option Value) (o1 : Option Value) (o2 : Option Value) (o3 : Option Value) (o4 : Option Value) (s0 : Int32) (M : zM) : zden (L + 1) 174 52 [o0, o1, o2, o3, o4] [.int s0] M =
  some (some (.int s0), M) :=
  zd_ri zf_174 rfl zr_174 rfl
theorem e175_0 (L : Nat) (v0 : Int32) (M : zM) : zden (L + 1) 175 0 [some (.int v0)] [] M =
  if v0 = 0 then (zden (L + 1) 175 18 [some (.int v0)] [.int 1] M) else (if v0 = 1 then (zden (L + 1) 175 18 [some (.int v0)] [.int 2] M) else (zden (L + 1) 175 18 [some (.int v0)] [.int 5] M)) :=
  (zd_w zf_175 0 1 rfl).trans
  (zd_ne0 zf_175 rfl ((zd_w zf_175 4 2 rfl).trans
  (zd_ne zf_175 rfl ((zd_w zf_175 9 1 rfl)) ((zd_w zf_175 7 1 rfl).trans
  (zd_goto zf_175 rfl (rfl))))) ((zd_w zf_175 2 1 rfl).trans
  (zd_goto zf_175 rfl (rfl))))
theorem e175_18 (L : Nat) (o0 : Option Value) (s0 : Int32) (M : zM) : zden (L + 1) 175 18 [o0] [.int s0] M =
  some (some (.int s0), M) :=
  zd_ri zf_175 rfl zr_175 rfl
theorem e177_48_52_57_0 (L : Nat) (v2 : Int32) (v4 : Int32) (M : zM) : zden (L + 1) 177 0 [some (.ref 48), some (.ref 52), some (.int v2), some (.ref 57), some (.int v4), none] [] M =
  zden (L + 1) 177 3 [some (.ref 48), some (.ref 52), some (.int v2), some (.ref 57), some (.int v4), some (.int 0)] [] M :=
  (zd_w zf_177 0 2 rfl)
theorem e177_48_52_57_3 (L : Nat) (o0 : Option Value) (v2 : Int32) (v4 : Int32) (v5 : Int32) (M : zM) : zden (L + 1) 177 3 [o0, some (.ref 52), some (.int v2), some (.ref 57), some (.int v4), some (.int v5)] [] M =
  if v5 < 6 then (if zinb (v2 + v5) 6 = true then (if zinb (v4 + v5) 6 = true then (zden (L + 1) 177 3 [o0, some (.ref 52), some (.int v2), some (.ref 57), some (.int v4), some (.int (v5 + 1))] [] (zput M 57 (v4 + v5).toNatClampNeg (M 52 (v2 + v5).toNatClampNeg))) else none) else none) else (some (none, M)) :=
  (zd_w zf_177 2 2 rfl).trans
  (zd_ge zf_177 rfl (zd_rv zf_177 rfl) ((zd_w zf_177 5 8 rfl).trans
  (zd_ld zf_177 rfl rfl (zd_st zf_177 rfl rfl rfl ((zd_w zf_177 15 1 rfl).trans
  (zd_goto zf_177 rfl (rfl)))))))
set_option maxRecDepth 20000 in
theorem e179_48_57_0 (L : Nat) (v2 : Int32) (M : zM) : zden (L + 1) 179 0 [some (.ref 48), some (.ref 57), some (.int v2), none, none, none, none] [] M =
  if (M 57 0) = (M 49 0) then (some (some (.int 0), M)) else (if (M 57 1) = 1 then (zden (L + 1) 179 26 [some (.ref 48), some (.ref 57), some (.int v2), none, none, none, none] [.int 1] M) else (zden (L + 1) 179 26 [some (.ref 48), some (.ref 57), some (.int v2), none, none, none, none] [.int 0] M)) :=
  (zd_w zf_179 0 7 rfl).trans
  (zd_ne zf_179 rfl ((zd_w zf_179 10 4 rfl).trans
  (zd_ne zf_179 rfl ((zd_w zf_179 17 1 rfl)) ((zd_w zf_179 15 1 rfl).trans
  (zd_goto zf_179 rfl (rfl))))) ((zd_w zf_179 8 1 rfl).trans
  (zd_ri zf_179 rfl zr_179 rfl)))
set_option maxRecDepth 20000 in
theorem e179_48_57_26 (L : Nat) (v2 : Int32) (o3 : Option Value) (o4 : Option Value) (o5 : Option Value) (o6 : Option Value) (s0 : Int32) (M : zM) : zden (L + 1) 179 26 [some (.ref 48), some (.ref 57), some (.int v2), o3, o4, o5, o6] [.int s0] M =
  zbI (zden (L + 1) 178 0 [some (.ref 48), some (.int (M 57 0)), some (.int s0)] [] M) (fun r1 M1 => zbI (zden (L + 1) 163 0 [some (.ref 48)] [] M1) (fun r2 M2 => zbI (zden (L + 1) 173 0 [some (.ref 48), some (.int r1), some (.int v2), some (.int s0), some (.int r2), none, none, none] [] M2) (fun r3 M3 => if r3 < 0 then (zden (L + 1) 179 64 [some (.ref 48), some (.ref 57), some (.int v2), some (.int s0), some (.int r1), some (.int r3), o6] [] M3) else (if (M3 57 2) < r3 then (zden (L + 1) 179 64 [some (.ref 48), some (.ref 57), some (.int v2), some (.int s0), some (.int r1), some (.int r3), o6] [] M3) else (zbI (zden (L + 1) 174 0 [some (.ref 48), some (.int r1), some (.int v2), some (.int s0), none] [] M3) (fun r4 M4 => zbI (zden (L + 1) 172 0 [some (.int r3), some (.int 8)] [] (zput M4 57 0 ((M4 57 0) + 1))) (fun r5 M5 => zbI (zden (L + 1) 175 0 [some (.int v2)] [] (zput M5 57 2 (((zput M4 57 0 ((M4 57 0) + 1)) 57 2) - r5))) (fun r6 M6 => if ((zput (zput M6 57 3 (((zput M5 57 2 (((zput M4 57 0 ((M4 57 0) + 1)) 57 2) - r5)) 57 3) + r6)) 57 4 (((zput M6 57 3 (((zput M5 57 2 (((zput M4 57 0 ((M4 57 0) + 1)) 57 2) - r5)) 57 3) + r6)) 57 4) + r4)) 49 9) < r4 then (zden (L + 1) 179 144 [some (.ref 48), some (.ref 57), some (.int v2), some (.int s0), some (.int r1), some (.int r3), some (.int r4)] [.int 5, .ref 57] (zput (zput M6 57 3 (((zput M5 57 2 (((zput M4 57 0 ((M4 57 0) + 1)) 57 2) - r5)) 57 3) + r6)) 57 4 (((zput M6 57 3 (((zput M5 57 2 (((zput M4 57 0 ((M4 57 0) + 1)) 57 2) - r5)) 57 3) + r6)) 57 4) + r4))) else (if (10 * ((zput (zput M6 57 3 (((zput M5 57 2 (((zput M4 57 0 ((M4 57 0) + 1)) 57 2) - r5)) 57 3) + r6)) 57 4 (((zput M6 57 3 (((zput M5 57 2 (((zput M4 57 0 ((M4 57 0) + 1)) 57 2) - r5)) 57 3) + r6)) 57 4) + r4)) 49 10)) < ((zput (zput M6 57 3 (((zput M5 57 2 (((zput M4 57 0 ((M4 57 0) + 1)) 57 2) - r5)) 57 3) + r6)) 57 4 (((zput M6 57 3 (((zput M5 57 2 (((zput M4 57 0 ((M4 57 0) + 1)) 57 2) - r5)) 57 3) + r6)) 57 4) + r4)) 57 4) then (zden (L + 1) 179 144 [some (.ref 48), some (.ref 57), some (.int v2), some (.int s0), some (.int r1), some (.int r3), some (.int r4)] [.int 5, .ref 57] (zput (zput M6 57 3 (((zput M5 57 2 (((zput M4 57 0 ((M4 57 0) + 1)) 57 2) - r5)) 57 3) + r6)) 57 4 (((zput M6 57 3 (((zput M5 57 2 (((zput M4 57 0 ((M4 57 0) + 1)) 57 2) - r5)) 57 3) + r6)) 57 4) + r4))) else (zden (L + 1) 179 151 [some (.ref 48), some (.ref 57), some (.int v2), some (.int s0), some (.int r1), some (.int r3), some (.int r4)] [.int ((zput (zput M6 57 3 (((zput M5 57 2 (((zput M4 57 0 ((M4 57 0) + 1)) 57 2) - r5)) 57 3) + r6)) 57 4 (((zput M6 57 3 (((zput M5 57 2 (((zput M4 57 0 ((M4 57 0) + 1)) 57 2) - r5)) 57 3) + r6)) 57 4) + r4)) 57 5), .int 5, .ref 57] (zput (zput M6 57 3 (((zput M5 57 2 (((zput M4 57 0 ((M4 57 0) + 1)) 57 2) - r5)) 57 3) + r6)) 57 4 (((zput M6 57 3 (((zput M5 57 2 (((zput M4 57 0 ((M4 57 0) + 1)) 57 2) - r5)) 57 3) + r6)) 57 4) + r4)))))))))))) :=
  (zd_w zf_179 18 6 rfl).trans
  (zd_ci zf_179 rfl rfl rfl rfl (fun r1 M1 => (zd_w zf_179 25 6 rfl).trans
  (zd_ci zf_179 rfl rfl rfl rfl (fun r2 M2 => zd_ci zf_179 rfl rfl rfl rfl (fun r3 M3 => (zd_w zf_179 33 2 rfl).trans
  (zd_lt0 zf_179 rfl (rfl) ((zd_w zf_179 36 4 rfl).trans
  (zd_le zf_179 rfl ((zd_w zf_179 43 4 rfl).trans
  (zd_ci zf_179 rfl rfl rfl rfl (fun r4 M4 => (zd_w zf_179 48 14 rfl).trans
  (zd_ci zf_179 rfl rfl rfl rfl (fun r5 M5 => (zd_w zf_179 63 7 rfl).trans
  (zd_ci zf_179 rfl rfl rfl rfl (fun r6 M6 => (zd_w zf_179 71 16 rfl).trans
  (zd_gt zf_179 rfl (rfl) ((zd_w zf_179 88 9 rfl).trans
  (zd_le zf_179 rfl ((zd_w zf_179 100 3 rfl)) (rfl))))))))))) (rfl)))))))))
set_option maxRecDepth 20000 in
theorem e179_48_57_64 (L : Nat) (o0 : Option Value) (o1 : Option Value) (o2 : Option Value) (o3 : Option Value) (o4 : Option Value) (o5 : Option Value) (o6 : Option Value) (M : zM) : zden (L + 1) 179 64 [o0, o1, o2, o3, o4, o5, o6] [] M =
  some (some (.int 0), M) :=
  (zd_w zf_179 41 1 rfl).trans
  (zd_ri zf_179 rfl zr_179 rfl)
set_option maxRecDepth 20000 in
theorem e179_48_57_144 (L : Nat) (o0 : Option Value) (o1 : Option Value) (o2 : Option Value) (o3 : Option Value) (o4 : Option Value) (o5 : Option Value) (o6 : Option Value) (s0 : Int32) (M : zM) : zden (L + 1) 179 144 [o0, o1, o2, o3, o4, o5, o6] [.int s0, .ref 57] M =
  zden (L + 1) 179 151 [o0, o1, o2, o3, o4, o5, o6] [.int 1, .int s0, .ref 57] M :=
  (zd_w zf_179 98 1 rfl).trans
  (zd_goto zf_179 rfl (rfl))
set_option maxRecDepth 20000 in
theorem e179_48_57_151 (L : Nat) (o0 : Option Value) (o1 : Option Value) (o2 : Option Value) (o3 : Option Value) (o4 : Option Value) (o5 : Option Value) (o6 : Option Value) (s0 : Int32) (s1 : Int32) (M : zM) : zden (L + 1) 179 151 [o0, o1, o2, o3, o4, o5, o6] [.int s0, .int s1, .ref 57] M =
  if zinb s1 6 = true then (some (some (.int 1), zput M 57 s1.toNatClampNeg s0)) else none :=
  zd_st zf_179 rfl rfl rfl ((zd_w zf_179 104 1 rfl).trans
  (zd_ri zf_179 rfl zr_179 rfl))
theorem e180_0 (L : Nat)  (M : zM) : zden (L + 1) 180 0 [some (.ref 48), none] [] M =
  if (M 48 6) = 8 then (zden (L + 1) 180 11 [some (.ref 48), some (.int 0)] [] M) else (zden (L + 1) 180 48 [some (.ref 48), none] [] M) :=
  (zd_w zf_180 0 3 rfl).trans
  (zd_ne zf_180 rfl (rfl) ((zd_w zf_180 4 2 rfl)))
theorem e180_48 (L : Nat) (o1 : Option Value) (M : zM) : zden (L + 1) 180 48 [some (.ref 48), o1] [] M =
  zbV (zden (L + 1) 177 0 [some (.ref 48), some (.ref 52), some (.int 0), some (.ref 53), some (.int (6 * (M 48 6))), none] [] M) (fun M1 => zbV (zden (L + 1) 177 0 [some (.ref 48), some (.ref 57), some (.int 0), some (.ref 52), some (.int 0), none] [] (zput M1 48 6 ((M1 48 6) + 1))) (fun M2 => some (none, M2))) :=
  (zd_w zf_180 27 10 rfl).trans
  (zd_cv zf_180 rfl rfl rfl rfl (fun M1 => (zd_w zf_180 38 13 rfl).trans
  (zd_cv zf_180 rfl rfl rfl rfl (fun M2 => zd_rv zf_180 rfl))))
theorem e180_11 (L : Nat) (v1 : Int32) (M : zM) : zden (L + 1) 180 11 [some (.ref 48), some (.int v1)] [] M =
  if v1 < 42 then (if zinb (v1 + 6) 48 = true then (if zinb v1 48 = true then (zden (L + 1) 180 11 [some (.ref 48), some (.int (v1 + 1))] [] (zput M 53 v1.toNatClampNeg (M 53 (v1 + 6).toNatClampNeg))) else none) else none) else (zden (L + 1) 180 48 [some (.ref 48), some (.int v1)] [] (zput M 48 6 ((M 48 6) - 1))) :=
  (zd_w zf_180 6 2 rfl).trans
  (zd_ge zf_180 rfl ((zd_w zf_180 21 6 rfl)) ((zd_w zf_180 9 8 rfl).trans
  (zd_ld zf_180 rfl rfl (zd_st zf_180 rfl rfl rfl ((zd_w zf_180 19 1 rfl).trans
  (zd_goto zf_180 rfl (rfl)))))))
theorem e182_48_57_0 (L : Nat)  (M : zM) : zden (L + 1) 182 0 [some (.ref 48), some (.ref 57)] [] M =
  if (M 57 2) = (M 49 11) then (some (some (.int 0), M)) else (some (some (.int 1), zput (zput M 57 2 (M 49 11)) 57 3 (((zput M 57 2 (M 49 11)) 57 3) + ((zput M 57 2 (M 49 11)) 49 12)))) :=
  (zd_w zf_182 0 7 rfl).trans
  (zd_ne zf_182 rfl ((zd_w zf_182 10 18 rfl).trans
  (zd_ri zf_182 rfl zr_182 rfl)) ((zd_w zf_182 8 1 rfl).trans
  (zd_ri zf_182 rfl zr_182 rfl)))
theorem e177_48_53_52_0 (L : Nat) (v2 : Int32) (v4 : Int32) (M : zM) : zden (L + 1) 177 0 [some (.ref 48), some (.ref 53), some (.int v2), some (.ref 52), some (.int v4), none] [] M =
  zden (L + 1) 177 3 [some (.ref 48), some (.ref 53), some (.int v2), some (.ref 52), some (.int v4), some (.int 0)] [] M :=
  (zd_w zf_177 0 2 rfl)
theorem e177_48_53_52_3 (L : Nat) (o0 : Option Value) (v2 : Int32) (v4 : Int32) (v5 : Int32) (M : zM) : zden (L + 1) 177 3 [o0, some (.ref 53), some (.int v2), some (.ref 52), some (.int v4), some (.int v5)] [] M =
  if v5 < 6 then (if zinb (v2 + v5) 48 = true then (if zinb (v4 + v5) 6 = true then (zden (L + 1) 177 3 [o0, some (.ref 53), some (.int v2), some (.ref 52), some (.int v4), some (.int (v5 + 1))] [] (zput M 52 (v4 + v5).toNatClampNeg (M 53 (v2 + v5).toNatClampNeg))) else none) else none) else (some (none, M)) :=
  (zd_w zf_177 2 2 rfl).trans
  (zd_ge zf_177 rfl (zd_rv zf_177 rfl) ((zd_w zf_177 5 8 rfl).trans
  (zd_ld zf_177 rfl rfl (zd_st zf_177 rfl rfl rfl ((zd_w zf_177 15 1 rfl).trans
  (zd_goto zf_177 rfl (rfl)))))))
theorem e190_0 (L : Nat) (v1 : Int32) (v2 : Int32) (v3 : Int32) (v4 : Int32) (v5 : Int32) (v6 : Int32) (M : zM) : zden (L + 1) 190 0 [some (.ref 48), some (.int v1), some (.int v2), some (.int v3), some (.int v4), some (.int v5), some (.int v6), none, none, none, none] [] M =
  zbI (zden (L + 1) 178 0 [some (.ref 48), some (.int v2), some (.int v5)] [] M) (fun r1 M1 => zbI (zden (L + 1) 173 0 [some (.ref 48), some (.int r1), some (.int v3), some (.int v5), some (.int v6), none, none, none] [] M1) (fun r2 M2 => if r2 < 0 then (zden (L + 1) 190 34 [some (.ref 48), some (.int v1), some (.int v2), some (.int v3), some (.int v4), some (.int v5), some (.int v6), some (.int r1), some (.int r2), none, none] [] M2) else (if v4 < r2 then (zden (L + 1) 190 34 [some (.ref 48), some (.int v1), some (.int v2), some (.int v3), some (.int v4), some (.int v5), some (.int v6), some (.int r1), some (.int r2), none, none] [] M2) else (if v1 = 0 then (zbI (zden (L + 1) 175 0 [some (.int v3)] [] M2) (fun r4 M4 => zden (L + 1) 190 66 [some (.ref 48), some (.int v1), some (.int v2), some (.int v3), some (.int v4), some (.int v5), some (.int v6), some (.int r1), some (.int r2), none, none] [.int r4] M4)) else (if v1 = 2 then (zden (L + 1) 190 66 [some (.ref 48), some (.int v1), some (.int v2), some (.int v3), some (.int v4), some (.int v5), some (.int v6), some (.int r1), some (.int r2), none, none] [.int 0] M2) else (zbI (zden (L + 1) 174 0 [some (.ref 48), some (.int r1), some (.int v3), some (.int v5), none] [] M2) (fun r3 M3 => zden (L + 1) 190 66 [some (.ref 48), some (.int v1), some (.int v2), some (.int v3), some (.int v4), some (.int v5), some (.int v6), some (.int r1), some (.int r2), none, none] [.int r3] M3))))))) :=
  (zd_w zf_190 0 3 rfl).trans
  (zd_ci zf_190 rfl rfl rfl rfl (fun r1 M1 => (zd_w zf_190 4 6 rfl).trans
  (zd_ci zf_190 rfl rfl rfl rfl (fun r2 M2 => (zd_w zf_190 11 2 rfl).trans
  (zd_lt0 zf_190 rfl (rfl) ((zd_w zf_190 14 2 rfl).trans
  (zd_le zf_190 rfl ((zd_w zf_190 19 1 rfl).trans
  (zd_ne0 zf_190 rfl ((zd_w zf_190 24 2 rfl).trans
  (zd_ne zf_190 rfl ((zd_w zf_190 29 4 rfl).trans
  (zd_ci zf_190 rfl rfl rfl rfl (fun r3 M3 => rfl))) ((zd_w zf_190 27 1 rfl).trans
  (zd_goto zf_190 rfl (rfl))))) ((zd_w zf_190 21 1 rfl).trans
  (zd_ci zf_190 rfl rfl rfl rfl (fun r4 M4 => zd_goto zf_190 rfl (rfl)))))) (rfl))))))))
theorem e190_34 (L : Nat) (o0 : Option Value) (o1 : Option Value) (o2 : Option Value) (o3 : Option Value) (o4 : Option Value) (o5 : Option Value) (o6 : Option Value) (o7 : Option Value) (o8 : Option Value) (o9 : Option Value) (o10 : Option Value) (M : zM) : zden (L + 1) 190 34 [o0, o1, o2, o3, o4, o5, o6, o7, o8, o9, o10] [] M =
  some (some (.int 1000000), M) :=
  (zd_w zf_190 17 1 rfl).trans
  (zd_ri zf_190 rfl zr_190 rfl)
theorem e190_66 (L : Nat) (v1 : Int32) (v2 : Int32) (o3 : Option Value) (v4 : Int32) (o5 : Option Value) (o6 : Option Value) (o7 : Option Value) (v8 : Int32) (o9 : Option Value) (o10 : Option Value) (s0 : Int32) (M : zM) : zden (L + 1) 190 66 [some (.ref 48), some (.int v1), some (.int v2), o3, some (.int v4), o5, o6, o7, some (.int v8), o9, o10] [.int s0] M =
  zbI (zden (L + 1) 172 0 [some (.int v8), some (.int 8)] [] M) (fun r1 M1 => if zinb (((100 * (v2 + 1)) + v4) - r1) 1300 = true then (if (M1 58 (((100 * (v2 + 1)) + v4) - r1).toNatClampNeg) = 1000000 then (zden (L + 1) 190 112 [some (.ref 48), some (.int v1), some (.int v2), o3, some (.int v4), o5, o6, o7, some (.int v8), some (.int s0), some (.int (M1 58 (((100 * (v2 + 1)) + v4) - r1).toNatClampNeg))] [.int 1000000] M1) else (zbI (zden (L + 1) 189 0 [some (.int v1), some (.int s0), some (.int (M1 58 (((100 * (v2 + 1)) + v4) - r1).toNatClampNeg))] [] M1) (fun r2 M2 => zden (L + 1) 190 112 [some (.ref 48), some (.int v1), some (.int v2), o3, some (.int v4), o5, o6, o7, some (.int v8), some (.int s0), some (.int (M1 58 (((100 * (v2 + 1)) + v4) - r1).toNatClampNeg))] [.int r2] M2))) else none) :=
  (zd_w zf_190 34 12 rfl).trans
  (zd_ci zf_190 rfl rfl rfl rfl (fun r1 M1 => (zd_w zf_190 47 1 rfl).trans
  (zd_ld zf_190 rfl rfl ((zd_w zf_190 49 3 rfl).trans
  (zd_ne zf_190 rfl ((zd_w zf_190 55 3 rfl).trans
  (zd_ci zf_190 rfl rfl rfl rfl (fun r2 M2 => rfl))) ((zd_w zf_190 53 1 rfl).trans
  (zd_goto zf_190 rfl (rfl))))))))
theorem e190_112 (L : Nat) (o0 : Option Value) (o1 : Option Value) (o2 : Option Value) (o3 : Option Value) (o4 : Option Value) (o5 : Option Value) (o6 : Option Value) (o7 : Option Value) (o8 : Option Value) (o9 : Option Value) (o10 : Option Value) (s0 : Int32) (M : zM) : zden (L + 1) 190 112 [o0, o1, o2, o3, o4, o5, o6, o7, o8, o9, o10] [.int s0] M =
  some (some (.int s0), M) :=
  zd_ri zf_190 rfl zr_190 rfl
set_option maxRecDepth 20000 in
theorem e192_0 (L : Nat) (v1 : Int32) (v2 : Int32) (v3 : Int32) (M : zM) : zden (L + 1) 192 0 [some (.ref 48), some (.int v1), some (.int v2), some (.int v3), none, none, none, none, none, none, none] [] M =
  zden (L + 1) 192 20 [some (.ref 48), some (.int v1), some (.int v2), some (.int v3), some (.int (M 49 0)), some (.int (M 49 11)), some (.int 0), none, none, none, none] [] M :=
  (zd_w zf_192 0 12 rfl)
set_option maxRecDepth 20000 in
theorem e192_20 (L : Nat) (v1 : Int32) (v2 : Int32) (v3 : Int32) (v4 : Int32) (v5 : Int32) (v6 : Int32) (o7 : Option Value) (o8 : Option Value) (o9 : Option Value) (o10 : Option Value) (M : zM) : zden (L + 1) 192 20 [some (.ref 48), some (.int v1), some (.int v2), some (.int v3), some (.int v4), some (.int v5), some (.int v6), o7, o8, o9, o10] [] M =
  if v6 < 100 then (if zinb ((100 * v4) + v6) 1300 = true then (zden (L + 1) 192 20 [some (.ref 48), some (.int v1), some (.int v2), some (.int v3), some (.int v4), some (.int v5), some (.int (v6 + 1)), o7, o8, o9, o10] [] (zput M 58 ((100 * v4) + v6).toNatClampNeg 0)) else none) else (zden (L + 1) 192 53 [some (.ref 48), some (.int v1), some (.int v2), some (.int v3), some (.int v4), some (.int v5), some (.int (v4 - 1)), o7, o8, o9, o10] [] M) :=
  (zd_w zf_192 12 2 rfl).trans
  (zd_ge zf_192 rfl ((zd_w zf_192 26 4 rfl)) ((zd_w zf_192 15 8 rfl).trans
  (zd_st zf_192 rfl rfl rfl ((zd_w zf_192 24 1 rfl).trans
  (zd_goto zf_192 rfl (rfl))))))
set_option maxRecDepth 20000 in
theorem e192_53 (L : Nat) (v1 : Int32) (v2 : Int32) (v3 : Int32) (o4 : Option Value) (v5 : Int32) (v6 : Int32) (o7 : Option Value) (o8 : Option Value) (o9 : Option Value) (o10 : Option Value) (M : zM) : zden (L + 1) 192 53 [some (.ref 48), some (.int v1), some (.int v2), some (.int v3), o4, some (.int v5), some (.int v6), o7, o8, o9, o10] [] M =
  if 0 < v6 then (zbI (zden (L + 1) 191 0 [some (.ref 48), some (.int v1), some (.int v6), some (.int v5), some (.int v2), some (.int v3), none, none, none] [] M) (fun r2 M2 => if r2 = 1000000 then (zden (L + 1) 192 113 [some (.ref 48), some (.int v1), some (.int v2), some (.int v3), o4, some (.int v5), some (.int v6), some (.int r2), o8, o9, o10] [.int 1000000] M2) else (if v1 = 0 then (zden (L + 1) 192 108 [some (.ref 48), some (.int v1), some (.int v2), some (.int v3), o4, some (.int v5), some (.int v6), some (.int r2), o8, o9, o10] [.int (M2 49 12), .int v1] M2) else (if v1 = 2 then (zden (L + 1) 192 108 [some (.ref 48), some (.int v1), some (.int v2), some (.int v3), o4, some (.int v5), some (.int v6), some (.int r2), o8, o9, o10] [.int 1, .int v1] M2) else (zden (L + 1) 192 108 [some (.ref 48), some (.int v1), some (.int v2), some (.int v3), o4, some (.int v5), some (.int v6), some (.int r2), o8, o9, o10] [.int 0, .int v1] M2))))) else (zbI (zden (L + 1) 191 0 [some (.ref 48), some (.int v1), some (.int 0), some (.int v5), some (.int v2), some (.int v3), none, none, none] [] M) (fun r1 M1 => some (some (.int r1), M1))) :=
  (zd_w zf_192 30 1 rfl).trans
  (zd_le0 zf_192 rfl ((zd_w zf_192 96 6 rfl).trans
  (zd_ci zf_192 rfl rfl rfl rfl (fun r1 M1 => zd_ri zf_192 rfl zr_192 rfl))) ((zd_w zf_192 32 6 rfl).trans
  (zd_ci zf_192 rfl rfl rfl rfl (fun r2 M2 => (zd_w zf_192 39 3 rfl).trans
  (zd_ne zf_192 rfl ((zd_w zf_192 45 2 rfl).trans
  (zd_ne0 zf_192 rfl ((zd_w zf_192 53 2 rfl).trans
  (zd_ne zf_192 rfl ((zd_w zf_192 58 1 rfl)) ((zd_w zf_192 56 1 rfl).trans
  (zd_goto zf_192 rfl (rfl))))) ((zd_w zf_192 48 4 rfl).trans
  (zd_goto zf_192 rfl (rfl))))) ((zd_w zf_192 43 1 rfl).trans
  (zd_goto zf_192 rfl (rfl))))))))
set_option maxRecDepth 20000 in
theorem e192_108 (L : Nat) (v1 : Int32) (v2 : Int32) (v3 : Int32) (o4 : Option Value) (v5 : Int32) (v6 : Int32) (v7 : Int32) (o8 : Option Value) (o9 : Option Value) (o10 : Option Value) (s0 : Int32) (s1 : Int32) (M : zM) : zden (L + 1) 192 108 [some (.ref 48), some (.int v1), some (.int v2), some (.int v3), o4, some (.int v5), some (.int v6), some (.int v7), o8, o9, o10] [.int s0, .int s1] M =
  zbI (zden (L + 1) 189 0 [some (.int s1), some (.int s0), some (.int v7)] [] M) (fun r1 M1 => zden (L + 1) 192 113 [some (.ref 48), some (.int v1), some (.int v2), some (.int v3), o4, some (.int v5), some (.int v6), some (.int v7), o8, o9, o10] [.int r1] M1) :=
  (zd_w zf_192 59 1 rfl).trans
  (zd_ci zf_192 rfl rfl rfl rfl (fun r1 M1 => rfl))
set_option maxRecDepth 20000 in
theorem e192_113 (L : Nat) (v1 : Int32) (v2 : Int32) (v3 : Int32) (o4 : Option Value) (v5 : Int32) (v6 : Int32) (o7 : Option Value) (o8 : Option Value) (o9 : Option Value) (o10 : Option Value) (s0 : Int32) (M : zM) : zden (L + 1) 192 113 [some (.ref 48), some (.int v1), some (.int v2), some (.int v3), o4, some (.int v5), some (.int v6), o7, o8, o9, o10] [.int s0] M =
  zden (L + 1) 192 118 [some (.ref 48), some (.int v1), some (.int v2), some (.int v3), o4, some (.int v5), some (.int v6), (zkl o7), some (.int s0), some (.int 0), o10] [] M :=
  (zd_w zf_192 61 3 rfl)
set_option maxRecDepth 20000 in
theorem e192_118 (L : Nat) (v1 : Int32) (v2 : Int32) (v3 : Int32) (o4 : Option Value) (v5 : Int32) (v6 : Int32) (o7 : Option Value) (v8 : Int32) (v9 : Int32) (o10 : Option Value) (M : zM) : zden (L + 1) 192 118 [some (.ref 48), some (.int v1), some (.int v2), some (.int v3), o4, some (.int v5), some (.int v6), o7, some (.int v8), some (.int v9), o10] [] M =
  if v5 < v9 then (zden (L + 1) 192 53 [some (.ref 48), some (.int v1), some (.int v2), some (.int v3), o4, some (.int v5), some (.int (v6 + (-1))), o7, some (.int v8), some (.int v9), o10] [] M) else (zbI (zden (L + 1) 191 0 [some (.ref 48), some (.int v1), some (.int v6), some (.int v9), some (.int v2), some (.int v3), none, none, none] [] M) (fun r1 M1 => if v9 < v5 then (if v8 < r1 then (zden (L + 1) 192 171 [some (.ref 48), some (.int v1), some (.int v2), some (.int v3), o4, some (.int v5), some (.int v6), o7, some (.int v8), some (.int v9), some (.int r1)] [.int v8, .int ((100 * v6) + v9), .ref 58] M1) else (zden (L + 1) 192 169 [some (.ref 48), some (.int v1), some (.int v2), some (.int v3), o4, some (.int v5), some (.int v6), o7, some (.int v8), some (.int v9), some (.int r1)] [.int ((100 * v6) + v9), .ref 58] M1)) else (zden (L + 1) 192 169 [some (.ref 48), some (.int v1), some (.int v2), some (.int v3), o4, some (.int v5), some (.int v6), o7, some (.int v8), some (.int v9), some (.int r1)] [.int ((100 * v6) + v9), .ref 58] M1))) :=
  (zd_w zf_192 64 2 rfl).trans
  (zd_gt zf_192 rfl ((zd_w zf_192 94 1 rfl).trans
  (zd_goto zf_192 rfl (rfl))) ((zd_w zf_192 67 6 rfl).trans
  (zd_ci zf_192 rfl rfl rfl rfl (fun r1 M1 => (zd_w zf_192 74 10 rfl).trans
  (zd_ge zf_192 rfl (rfl) ((zd_w zf_192 85 2 rfl).trans
  (zd_ge zf_192 rfl (rfl) ((zd_w zf_192 88 1 rfl).trans
  (zd_goto zf_192 rfl (rfl))))))))))
set_option maxRecDepth 20000 in
theorem e192_169 (L : Nat) (v1 : Int32) (v2 : Int32) (v3 : Int32) (o4 : Option Value) (v5 : Int32) (v6 : Int32) (o7 : Option Value) (v8 : Int32) (v9 : Int32) (v10 : Int32) (s0 : Int32) (M : zM) : zden (L + 1) 192 169 [some (.ref 48), some (.int v1), some (.int v2), some (.int v3), o4, some (.int v5), some (.int v6), o7, some (.int v8), some (.int v9), some (.int v10)] [.int s0, .ref 58] M =
  zden (L + 1) 192 171 [some (.ref 48), some (.int v1), some (.int v2), some (.int v3), o4, some (.int v5), some (.int v6), o7, some (.int v8), some (.int v9), some (.int v10)] [.int v10, .int s0, .ref 58] M :=
  (zd_w zf_192 90 1 rfl)
set_option maxRecDepth 20000 in
theorem e192_171 (L : Nat) (v1 : Int32) (v2 : Int32) (v3 : Int32) (o4 : Option Value) (v5 : Int32) (v6 : Int32) (o7 : Option Value) (v8 : Int32) (v9 : Int32) (o10 : Option Value) (s0 : Int32) (s1 : Int32) (M : zM) : zden (L + 1) 192 171 [some (.ref 48), some (.int v1), some (.int v2), some (.int v3), o4, some (.int v5), some (.int v6), o7, some (.int v8), some (.int v9), o10] [.int s0, .int s1, .ref 58] M =
  if zinb s1 1300 = true then (zden (L + 1) 192 118 [some (.ref 48), some (.int v1), some (.int v2), some (.int v3), o4, some (.int v5), some (.int v6), o7, some (.int v8), some (.int (v9 + 1)), o10] [] (zput M 58 s1.toNatClampNeg s0)) else none :=
  zd_st zf_192 rfl rfl rfl ((zd_w zf_192 92 1 rfl).trans
  (zd_goto zf_192 rfl (rfl)))
theorem e178_0 (L : Nat) (v1 : Int32) (v2 : Int32) (M : zM) : zden (L + 1) 178 0 [some (.ref 48), some (.int v1), some (.int v2)] [] M =
  if v2 = 0 then (zden (L + 1) 178 18 [some (.ref 48), some (.int v1), some (.int v2)] [.int v1] M) else (zden (L + 1) 178 18 [some (.ref 48), some (.int v1), some (.int v2)] [.int (((M 49 0) - 1) - v1)] M) :=
  (zd_w zf_178 0 1 rfl).trans
  (zd_eq0 zf_178 rfl ((zd_w zf_178 11 1 rfl)) ((zd_w zf_178 2 8 rfl).trans
  (zd_goto zf_178 rfl (rfl))))
theorem e178_18 (L : Nat) (o0 : Option Value) (o1 : Option Value) (o2 : Option Value) (s0 : Int32) (M : zM) : zden (L + 1) 178 18 [o0, o1, o2] [.int s0] M =
  some (some (.int s0), M) :=
  zd_ri zf_178 rfl zr_178 rfl
