theorem e194_0 (L : Nat) (v1 : Int32) (v2 : Int32) (v3 : Int32) (M : zM) : zden (L + 1) 194 0 [some (.ref 48), some (.int v1), some (.int v2), some (.int v3), none, none, none, none, none, none, none] [] M =
  zbI (zden (L + 1) 163 0 [some (.ref 48)] [] M) (fun r1 M1 => zbI (zden (L + 1) 173 0 [some (.ref 48), some (.int v1), some (.int v2), some (.int v3), some (.int r1), none, none, none] [] M1) (fun r2 M2 => zbI (zden (L + 1) 174 0 [some (.ref 48), some (.int v1), some (.int v2), some (.int v3), none] [] M2) (fun r3 M3 => if r2 < 0 then (zden (L + 1) 194 39 [some (.ref 48), some (.int v1), some (.int v2), some (.int v3), some (.int r2), some (.int r3), none, none, none, none, none] [] M3) else (if (M3 49 9) < r3 then (zden (L + 1) 194 39 [some (.ref 48), some (.int v1), some (.int v2), some (.int v3), some (.int r2), some (.int r3), none, none, none, none, none] [] M3) else (zden (L + 1) 194 59 [some (.ref 48), some (.int v1), some (.int v2), some (.int v3), some (.int r2), some (.int r3), some (.int ((10 * (M3 49 10)) - r3)), some (.int r2), none, none, none] [] M3))))) :=
  (zd_w zf_194 0 5 rfl).trans
  (zd_ci zf_194 rfl rfl rfl rfl (fun r1 M1 => zd_ci zf_194 rfl rfl rfl rfl (fun r2 M2 => (zd_w zf_194 7 5 rfl).trans
  (zd_ci zf_194 rfl rfl rfl rfl (fun r3 M3 => (zd_w zf_194 13 2 rfl).trans
  (zd_lt0 zf_194 rfl (rfl) ((zd_w zf_194 16 5 rfl).trans
  (zd_le zf_194 rfl ((zd_w zf_194 23 11 rfl)) (rfl)))))))))
theorem e194_39 (L : Nat) (o0 : Option Value) (o1 : Option Value) (o2 : Option Value) (o3 : Option Value) (o4 : Option Value) (o5 : Option Value) (o6 : Option Value) (o7 : Option Value) (o8 : Option Value) (o9 : Option Value) (o10 : Option Value) (M : zM) : zden (L + 1) 194 39 [o0, o1, o2, o3, o4, o5, o6, o7, o8, o9, o10] [] M =
  some (none, M) :=
  zd_rv zf_194 rfl
theorem e194_59 (L : Nat) (o1 : Option Value) (v2 : Int32) (o3 : Option Value) (v4 : Int32) (v5 : Int32) (v6 : Int32) (v7 : Int32) (o8 : Option Value) (o9 : Option Value) (o10 : Option Value) (M : zM) : zden (L + 1) 194 59 [some (.ref 48), o1, some (.int v2), o3, some (.int v4), some (.int v5), some (.int v6), some (.int v7), o8, o9, o10] [] M =
  if (M 49 11) < v7 then (some (none, M)) else (zden (L + 1) 194 74 [some (.ref 48), o1, some (.int v2), o3, some (.int v4), some (.int v5), some (.int v6), some (.int v7), some (.int 0), o9, o10] [] M) :=
  (zd_w zf_194 34 5 rfl).trans
  (zd_gt zf_194 rfl (zd_rv zf_194 rfl) ((zd_w zf_194 40 2 rfl)))
theorem e194_74 (L : Nat) (o1 : Option Value) (v2 : Int32) (o3 : Option Value) (v4 : Int32) (v5 : Int32) (v6 : Int32) (v7 : Int32) (v8 : Int32) (o9 : Option Value) (o10 : Option Value) (M : zM) : zden (L + 1) 194 74 [some (.ref 48), o1, some (.int v2), o3, some (.int v4), some (.int v5), some (.int v6), some (.int v7), some (.int v8), o9, o10] [] M =
  if v6 < v8 then (zden (L + 1) 194 172 [some (.ref 48), o1, some (.int v2), o3, some (.int v4), some (.int v5), some (.int v6), some (.int v7), some (.int v8), o9, o10] [] M) else (if (v8 + v5) < 721 then (if zinb ((721 * v7) + v8) 72100 = true then (zbI (zden (L + 1) 175 0 [some (.int v2)] [] M) (fun r1 M1 => zbI (zden (L + 1) 172 0 [some (.int v4), some (.int 8)] [] M1) (fun r2 M2 => if zinb (((721 * (v7 - r2)) + v8) + v5) 72100 = true then (if ((M 59 ((721 * v7) + v8).toNatClampNeg) + r1) < (M2 60 (((721 * (v7 - r2)) + v8) + v5).toNatClampNeg) then (zden (L + 1) 194 165 [some (.ref 48), o1, some (.int v2), o3, some (.int v4), some (.int v5), some (.int v6), some (.int v7), some (.int v8), some (.int ((M 59 ((721 * v7) + v8).toNatClampNeg) + r1)), some (.int (((721 * (v7 - r2)) + v8) + v5))] [.int ((M 59 ((721 * v7) + v8).toNatClampNeg) + r1), .int (((721 * (v7 - r2)) + v8) + v5), .ref 60] M2) else (if zinb (((721 * (v7 - r2)) + v8) + v5) 72100 = true then (zden (L + 1) 194 165 [some (.ref 48), o1, some (.int v2), o3, some (.int v4), some (.int v5), some (.int v6), some (.int v7), some (.int v8), some (.int ((M 59 ((721 * v7) + v8).toNatClampNeg) + r1)), some (.int (((721 * (v7 - r2)) + v8) + v5))] [.int (M2 60 (((721 * (v7 - r2)) + v8) + v5).toNatClampNeg), .int (((721 * (v7 - r2)) + v8) + v5), .ref 60] M2) else none)) else none))) else none) else (zden (L + 1) 194 172 [some (.ref 48), o1, some (.int v2), o3, some (.int v4), some (.int v5), some (.int v6), some (.int v7), some (.int v8), o9, o10] [] M)) :=
  (zd_w zf_194 42 2 rfl).trans
  (zd_gt zf_194 rfl (rfl) ((zd_w zf_194 45 4 rfl).trans
  (zd_ge zf_194 rfl (rfl) ((zd_w zf_194 50 7 rfl).trans
  (zd_ld zf_194 rfl rfl ((zd_w zf_194 58 1 rfl).trans
  (zd_ci zf_194 rfl rfl rfl rfl (fun r1 M1 => (zd_w zf_194 60 6 rfl).trans
  (zd_ci zf_194 rfl rfl rfl rfl (fun r2 M2 => (zd_w zf_194 67 14 rfl).trans
  (zd_ld zf_194 rfl rfl (zd_ge zf_194 rfl ((zd_w zf_194 85 3 rfl).trans
  (zd_ld zf_194 rfl rfl (rfl))) ((zd_w zf_194 83 1 rfl).trans
  (zd_goto zf_194 rfl (rfl)))))))))))))))
theorem e194_172 (L : Nat) (o1 : Option Value) (v2 : Int32) (o3 : Option Value) (v4 : Int32) (v5 : Int32) (v6 : Int32) (v7 : Int32) (o8 : Option Value) (o9 : Option Value) (o10 : Option Value) (M : zM) : zden (L + 1) 194 172 [some (.ref 48), o1, some (.int v2), o3, some (.int v4), some (.int v5), some (.int v6), some (.int v7), o8, o9, o10] [] M =
  zden (L + 1) 194 59 [some (.ref 48), o1, some (.int v2), o3, some (.int v4), some (.int v5), some (.int v6), some (.int (v7 + 1)), o8, o9, o10] [] M :=
  (zd_w zf_194 92 1 rfl).trans
  (zd_goto zf_194 rfl (rfl))
theorem e194_165 (L : Nat) (o1 : Option Value) (v2 : Int32) (o3 : Option Value) (v4 : Int32) (v5 : Int32) (v6 : Int32) (v7 : Int32) (v8 : Int32) (o9 : Option Value) (o10 : Option Value) (s0 : Int32) (s1 : Int32) (M : zM) : zden (L + 1) 194 165 [some (.ref 48), o1, some (.int v2), o3, some (.int v4), some (.int v5), some (.int v6), some (.int v7), some (.int v8), o9, o10] [.int s0, .int s1, .ref 60] M =
  if zinb s1 72100 = true then (zden (L + 1) 194 74 [some (.ref 48), o1, some (.int v2), o3, some (.int v4), some (.int v5), some (.int v6), some (.int v7), some (.int (v8 + 1)), o9, o10] [] (zput M 60 s1.toNatClampNeg s0)) else none :=
  zd_st zf_194 rfl rfl rfl ((zd_w zf_194 90 1 rfl).trans
  (zd_goto zf_194 rfl (rfl)))
theorem e196_0 (L : Nat) (v1 : Int32) (v2 : Int32) (M : zM) : zden (L + 1) 196 0 [some (.ref 48), some (.int v1), some (.int v2), none, none, none, none, none, none, none] [] M =
  zbI (zden (L + 1) 163 0 [some (.ref 48)] [] M) (fun r1 M1 => zden (L + 1) 196 11 [some (.ref 48), some (.int v1), some (.int v2), some (.int 0), some (.int r1), some (.int 0), none, none, none, none] [] M1) :=
  (zd_w zf_196 0 3 rfl).trans
  (zd_ci zf_196 rfl rfl rfl rfl (fun r1 M1 => (zd_w zf_196 4 3 rfl)))
theorem e196_11 (L : Nat) (v1 : Int32) (v2 : Int32) (v3 : Int32) (v4 : Int32) (v5 : Int32) (o6 : Option Value) (o7 : Option Value) (o8 : Option Value) (o9 : Option Value) (M : zM) : zden (L + 1) 196 11 [some (.ref 48), some (.int v1), some (.int v2), some (.int v3), some (.int v4), some (.int v5), o6, o7, o8, o9] [] M =
  if v5 < (M 49 0) then (if zinb (28 + v5) 116 = true then (if zinb (16 + v5) 116 = true then (if zinb (28 + v5) 116 = true then (zbI (zden (L + 1) 172 0 [some (.int (v4 * ((M 49 (28 + v5).toNatClampNeg) + (M 49 (16 + v5).toNatClampNeg)))), some (.int (2 * (M 49 (28 + v5).toNatClampNeg)))] [] M) (fun r1 M1 => if r1 < v4 then (zden (L + 1) 196 77 [some (.ref 48), some (.int v1), some (.int v2), some (.int v3), some (.int v4), some (.int v5), some (.int r1), o7, o8, o9] [.int r1] M1) else (zden (L + 1) 196 77 [some (.ref 48), some (.int v1), some (.int v2), some (.int v3), some (.int v4), some (.int v5), some (.int r1), o7, o8, o9] [.int v4] M1))) else none) else none) else none) else (some (some (.int v3), M)) :=
  (zd_w zf_196 7 5 rfl).trans
  (zd_ge zf_196 rfl ((zd_w zf_196 91 1 rfl).trans
  (zd_ri zf_196 rfl zr_196 rfl)) ((zd_w zf_196 13 6 rfl).trans
  (zd_ld zf_196 rfl rfl ((zd_w zf_196 20 5 rfl).trans
  (zd_ld zf_196 rfl rfl ((zd_w zf_196 26 8 rfl).trans
  (zd_ld zf_196 rfl rfl ((zd_w zf_196 35 1 rfl).trans
  (zd_ci zf_196 rfl rfl rfl rfl (fun r1 M1 => (zd_w zf_196 37 3 rfl).trans
  (zd_ge zf_196 rfl ((zd_w zf_196 43 1 rfl)) ((zd_w zf_196 41 1 rfl).trans
  (zd_goto zf_196 rfl (rfl))))))))))))))
theorem e196_77 (L : Nat) (v1 : Int32) (v2 : Int32) (v3 : Int32) (v4 : Int32) (v5 : Int32) (o6 : Option Value) (o7 : Option Value) (o8 : Option Value) (o9 : Option Value) (s0 : Int32) (M : zM) : zden (L + 1) 196 77 [some (.ref 48), some (.int v1), some (.int v2), some (.int v3), some (.int v4), some (.int v5), o6, o7, o8, o9] [.int s0] M =
  if v2 = 0 then (zden (L + 1) 196 93 [some (.ref 48), some (.int v1), some (.int v2), some (.int v3), some (.int v4), some (.int v5), some (.int s0), o7, o8, o9] [.int s0] M) else (zden (L + 1) 196 93 [some (.ref 48), some (.int v1), some (.int v2), some (.int v3), some (.int v4), some (.int v5), some (.int s0), o7, o8, o9] [.int (v4 - s0)] M) :=
  (zd_w zf_196 44 2 rfl).trans
  (zd_ne0 zf_196 rfl ((zd_w zf_196 49 3 rfl)) ((zd_w zf_196 47 1 rfl).trans
  (zd_goto zf_196 rfl (rfl))))
theorem e196_93 (L : Nat) (v1 : Int32) (v2 : Int32) (v3 : Int32) (v4 : Int32) (v5 : Int32) (o6 : Option Value) (o7 : Option Value) (o8 : Option Value) (o9 : Option Value) (s0 : Int32) (M : zM) : zden (L + 1) 196 93 [some (.ref 48), some (.int v1), some (.int v2), some (.int v3), some (.int v4), some (.int v5), o6, o7, o8, o9] [.int s0] M =
  if zinb (40 + v1) 116 = true then (zbI (zden (L + 1) 172 0 [some (.int (100 * s0)), some (.int (M 49 (40 + v1).toNatClampNeg))] [] M) (fun r1 M1 => zbI (zden (L + 1) 172 0 [some (.int (100 * (v4 - s0))), some (.int (M1 49 11))] [] M1) (fun r2 M2 => if v3 < r1 then (zden (L + 1) 196 146 [some (.ref 48), some (.int v1), some (.int v2), some (.int v3), some (.int v4), some (.int v5), (zkl o6), some (.int s0), some (.int r1), some (.int r2)] [.int r1] M2) else (zden (L + 1) 196 146 [some (.ref 48), some (.int v1), some (.int v2), some (.int v3), some (.int v4), some (.int v5), (zkl o6), some (.int s0), some (.int r1), some (.int r2)] [.int v3] M2)))) else none :=
  (zd_w zf_196 52 9 rfl).trans
  (zd_ld zf_196 rfl rfl (zd_ci zf_196 rfl rfl rfl rfl (fun r1 M1 => (zd_w zf_196 63 10 rfl).trans
  (zd_ci zf_196 rfl rfl rfl rfl (fun r2 M2 => (zd_w zf_196 74 3 rfl).trans
  (zd_le zf_196 rfl ((zd_w zf_196 80 1 rfl)) ((zd_w zf_196 78 1 rfl).trans
  (zd_goto zf_196 rfl (rfl)))))))))
theorem e196_146 (L : Nat) (v1 : Int32) (v2 : Int32) (o3 : Option Value) (v4 : Int32) (v5 : Int32) (o6 : Option Value) (o7 : Option Value) (o8 : Option Value) (v9 : Int32) (s0 : Int32) (M : zM) : zden (L + 1) 196 146 [some (.ref 48), some (.int v1), some (.int v2), o3, some (.int v4), some (.int v5), o6, o7, o8, some (.int v9)] [.int s0] M =
  if s0 < v9 then (zden (L + 1) 196 159 [some (.ref 48), some (.int v1), some (.int v2), some (.int s0), some (.int v4), some (.int v5), o6, o7, o8, some (.int v9)] [.int v9] M) else (zden (L + 1) 196 159 [some (.ref 48), some (.int v1), some (.int v2), some (.int s0), some (.int v4), some (.int v5), o6, o7, o8, some (.int v9)] [.int s0] M) :=
  (zd_w zf_196 81 3 rfl).trans
  (zd_le zf_196 rfl ((zd_w zf_196 87 1 rfl)) ((zd_w zf_196 85 1 rfl).trans
  (zd_goto zf_196 rfl (rfl))))
theorem e196_159 (L : Nat) (v1 : Int32) (v2 : Int32) (o3 : Option Value) (v4 : Int32) (v5 : Int32) (o6 : Option Value) (o7 : Option Value) (o8 : Option Value) (o9 : Option Value) (s0 : Int32) (M : zM) : zden (L + 1) 196 159 [some (.ref 48), some (.int v1), some (.int v2), o3, some (.int v4), some (.int v5), o6, o7, o8, o9] [.int s0] M =
  zden (L + 1) 196 11 [some (.ref 48), some (.int v1), some (.int v2), some (.int s0), some (.int v4), some (.int (v5 + 1)), o6, o7, o8, o9] [] M :=
  (zd_w zf_196 88 2 rfl).trans
  (zd_goto zf_196 rfl (rfl))
theorem e197_0 (L : Nat) (v1 : Int32) (M : zM) : zden (L + 1) 197 0 [some (.ref 48), some (.int v1)] [] M =
  zbI (zden (L + 1) 196 0 [some (.ref 48), some (.int v1), some (.int 0), none, none, none, none, none, none, none] [] M) (fun r1 M1 => zbI (zden (L + 1) 196 0 [some (.ref 48), some (.int v1), some (.int 1), none, none, none, none, none, none, none] [] M1) (fun r2 M2 => if r2 < r1 then (zden (L + 1) 197 20 [some (.ref 48), some (.int v1)] [.int 1] M2) else (zden (L + 1) 197 20 [some (.ref 48), some (.int v1)] [.int 0] M2))) :=
  (zd_w zf_197 0 3 rfl).trans
  (zd_ci zf_197 rfl rfl rfl rfl (fun r1 M1 => (zd_w zf_197 4 3 rfl).trans
  (zd_ci zf_197 rfl rfl rfl rfl (fun r2 M2 => zd_gt zf_197 rfl ((zd_w zf_197 11 1 rfl)) ((zd_w zf_197 9 1 rfl).trans
  (zd_goto zf_197 rfl (rfl)))))))
theorem e197_20 (L : Nat) (o0 : Option Value) (o1 : Option Value) (s0 : Int32) (M : zM) : zden (L + 1) 197 20 [o0, o1] [.int s0] M =
  some (some (.int s0), M) :=
  zd_ri zf_197 rfl zr_197 rfl
theorem e202_0 (L : Nat) (v1 : Int32) (v2 : Int32) (M : zM) : zden (L + 1) 202 0 [some (.ref 48), some (.int v1), some (.int v2), none] [] M =
  if v1 = 0 then (zden (L + 1) 202 8 [some (.ref 48), some (.int v1), some (.int v2), none] [] M) else (if v2 = 0 then (zden (L + 1) 202 8 [some (.ref 48), some (.int v1), some (.int v2), none] [] M) else (zbI (zden (L + 1) 201 0 [some (.ref 48), some (.int (v1 - 1)), none, none] [] M) (fun r1 M1 => some (some (.int (1000 - (((1000 - (10 * (M1 49 14))) * (1000 - r1)) / 1000))), M1)))) :=
  (zd_w zf_202 0 1 rfl).trans
  (zd_eq0 zf_202 rfl (rfl) ((zd_w zf_202 2 1 rfl).trans
  (zd_ne0 zf_202 rfl ((zd_w zf_202 8 5 rfl).trans
  (zd_ci zf_202 rfl rfl rfl rfl (fun r1 M1 => (zd_w zf_202 14 16 rfl).trans
  (zd_ri zf_202 rfl zr_202 rfl)))) (rfl))))
theorem e202_8 (L : Nat) (v1 : Int32) (o2 : Option Value) (o3 : Option Value) (M : zM) : zden (L + 1) 202 8 [some (.ref 48), some (.int v1), o2, o3] [] M =
  zbI (zden (L + 1) 201 0 [some (.ref 48), some (.int v1), none, none] [] M) (fun r1 M1 => some (some (.int r1), M1)) :=
  (zd_w zf_202 4 2 rfl).trans
  (zd_ci zf_202 rfl rfl rfl rfl (fun r1 M1 => zd_ri zf_202 rfl zr_202 rfl))
theorem e201_0 (L : Nat) (v1 : Int32) (M : zM) : zden (L + 1) 201 0 [some (.ref 48), some (.int v1), none, none] [] M =
  zden (L + 1) 201 6 [some (.ref 48), some (.int v1), some (.int 1000), some (.int 0)] [] M :=
  (zd_w zf_201 0 4 rfl)
theorem e201_6 (L : Nat) (v1 : Int32) (v2 : Int32) (v3 : Int32) (M : zM) : zden (L + 1) 201 6 [some (.ref 48), some (.int v1), some (.int v2), some (.int v3)] [] M =
  if v3 < v1 then (if v1 = 0 then none else (zden (L + 1) 201 6 [some (.ref 48), some (.int v1), some (.int ((v2 * (1000 - ((10 * (M 49 13)) / v1))) / 1000)), some (.int (v3 + 1))] [] M)) else (some (some (.int (1000 - v2)), M)) :=
  (zd_w zf_201 4 2 rfl).trans
  (zd_ge zf_201 rfl ((zd_w zf_201 24 3 rfl).trans
  (zd_ri zf_201 rfl zr_201 rfl)) ((zd_w zf_201 7 9 rfl).trans
  (zd_div zf_201 rfl ((zd_w zf_201 17 6 rfl).trans
  (zd_goto zf_201 rfl (rfl))))))
theorem e206_0 (L : Nat) (v1 : Int32) (v2 : Int32) (v3 : Int32) (M : zM) : zden (L + 1) 206 0 [some (.ref 48), some (.int v1), some (.int v2), some (.int v3), none, none] [] M =
  zden (L + 1) 206 8 [some (.ref 48), some (.int v1), some (.int v2), some (.int v3), some (.int 1000), some (.int 0)] [] M :=
  (zd_w zf_206 0 4 rfl)
theorem e206_8 (L : Nat) (v1 : Int32) (v2 : Int32) (v3 : Int32) (v4 : Int32) (v5 : Int32) (M : zM) : zden (L + 1) 206 8 [some (.ref 48), some (.int v1), some (.int v2), some (.int v3), some (.int v4), some (.int v5)] [] M =
  if v5 < v2 then (zbI (zden (L + 1) 205 0 [some (.ref 48), some (.int v1), some (.int v5), some (.int v3)] [] M) (fun r1 M1 => zden (L + 1) 206 8 [some (.ref 48), some (.int v1), some (.int v2), some (.int v3), some (.int ((v4 * (1000 - r1)) / 1000)), some (.int (v5 + 1))] [] M1)) else (some (some (.int (1000 - v4)), M)) :=
  (zd_w zf_206 4 2 rfl).trans
  (zd_ge zf_206 rfl ((zd_w zf_206 21 3 rfl).trans
  (zd_ri zf_206 rfl zr_206 rfl)) ((zd_w zf_206 7 6 rfl).trans
  (zd_ci zf_206 rfl rfl rfl rfl (fun r1 M1 => (zd_w zf_206 14 6 rfl).trans
  (zd_goto zf_206 rfl (rfl))))))
theorem e205_0 (L : Nat) (v1 : Int32) (v2 : Int32) (v3 : Int32) (M : zM) : zden (L + 1) 205 0 [some (.ref 48), some (.int v1), some (.int v2), some (.int v3)] [] M =
  if zinb (48 + ((v1 + (v2 / 60)) - (v1 + (v2 / 60)) / 24 * 24)) 116 = true then (zbI (zden (L + 1) 202 0 [some (.ref 48), some (.int (M 49 (48 + ((v1 + (v2 / 60)) - (v1 + (v2 / 60)) / 24 * 24)).toNatClampNeg)), some (.int v3), none] [] M) (fun r1 M1 => some (some (.int r1), M1))) else none :=
  (zd_w zf_205 0 12 rfl).trans
  (zd_ld zf_205 rfl rfl ((zd_w zf_205 13 1 rfl).trans
  (zd_ci zf_205 rfl rfl rfl rfl (fun r1 M1 => zd_ri zf_205 rfl zr_205 rfl))))
theorem e209_0 (L : Nat) (v1 : Int32) (v2 : Int32) (v3 : Int32) (M : zM) : zden (L + 1) 209 0 [some (.ref 48), some (.int v1), some (.int v2), some (.int v3), none, none] [] M =
  zden (L + 1) 209 8 [some (.ref 48), some (.int v1), some (.int v2), some (.int v3), some (.int 1000), some (.int 0)] [] M :=
  (zd_w zf_209 0 4 rfl)
theorem e209_8 (L : Nat) (v1 : Int32) (v2 : Int32) (v3 : Int32) (v4 : Int32) (v5 : Int32) (M : zM) : zden (L + 1) 209 8 [some (.ref 48), some (.int v1), some (.int v2), some (.int v3), some (.int v4), some (.int v5)] [] M =
  if 300 < v5 then (some (some (.int (-4)), M)) else (if (1000 - v4) < v2 then (zbI (zden (L + 1) 205 0 [some (.ref 48), some (.int v1), some (.int v5), some (.int v3)] [] M) (fun r1 M1 => zden (L + 1) 209 8 [some (.ref 48), some (.int v1), some (.int v2), some (.int v3), some (.int ((v4 * (1000 - r1)) / 1000)), some (.int (v5 + 1))] [] M1)) else (some (some (.int v5), M))) :=
  (zd_w zf_209 4 2 rfl).trans
  (zd_gt zf_209 rfl ((zd_w zf_209 28 1 rfl).trans
  (zd_ri zf_209 rfl zr_209 rfl)) ((zd_w zf_209 7 4 rfl).trans
  (zd_lt zf_209 rfl ((zd_w zf_209 14 6 rfl).trans
  (zd_ci zf_209 rfl rfl rfl rfl (fun r1 M1 => (zd_w zf_209 21 6 rfl).trans
  (zd_goto zf_209 rfl (rfl))))) ((zd_w zf_209 12 1 rfl).trans
  (zd_ri zf_209 rfl zr_209 rfl)))))
theorem e172_0 (L : Nat) (v0 : Int32) (v1 : Int32) (M : zM) : zden (L + 1) 172 0 [some (.int v0), some (.int v1)] [] M =
  if v1 = 0 then none else (some (some (.int (((v0 + v1) - 1) / v1)), M)) :=
  (zd_w zf_172 0 6 rfl).trans
  (zd_div zf_172 rfl (zd_ri zf_172 rfl zr_172 rfl))
set_option maxRecDepth 20000 in
theorem e212_0 (L : Nat)  (M : zM) : zden (L + 1) 212 0 [some (.ref 48), none, none, none, none, none] [] M =
  zden (L + 1) 212 9 [some (.ref 48), some (.int (M 49 2)), some (.int 0), none, none, none] [] M :=
  (zd_w zf_212 0 7 rfl)
set_option maxRecDepth 20000 in
theorem e212_9 (L : Nat) (v1 : Int32) (v2 : Int32) (o3 : Option Value) (o4 : Option Value) (o5 : Option Value) (M : zM) : zden (L + 1) 212 9 [some (.ref 48), some (.int v1), some (.int v2), o3, o4, o5] [] M =
  if v2 < 49 then (if (v2 - v2 / 8 * 8) = 0 then (zden (L + 1) 212 33 [some (.ref 48), some (.int v1), some (.int v2), o3, o4, o5] [.int 0, .int v2, .ref 61] M) else (zden (L + 1) 212 33 [some (.ref 48), some (.int v1), some (.int v2), o3, o4, o5] [.int 1000000, .int v2, .ref 61] M)) else (zden (L + 1) 212 42 [some (.ref 48), some (.int v1), some (.int 0), o3, o4, o5] [] M) :=
  (zd_w zf_212 7 2 rfl).trans
  (zd_ge zf_212 rfl ((zd_w zf_212 23 2 rfl)) ((zd_w zf_212 10 6 rfl).trans
  (zd_ne0 zf_212 rfl ((zd_w zf_212 19 1 rfl)) ((zd_w zf_212 17 1 rfl).trans
  (zd_goto zf_212 rfl (rfl))))))
set_option maxRecDepth 20000 in
theorem e212_42 (L : Nat) (v1 : Int32) (v2 : Int32) (o3 : Option Value) (o4 : Option Value) (o5 : Option Value) (M : zM) : zden (L + 1) 212 42 [some (.ref 48), some (.int v1), some (.int v2), o3, o4, o5] [] M =
  if v2 < (M 49 3) then (if zinb (86 + v2) 116 = true then (if zinb (96 + v2) 116 = true then (if zinb (96 + v2) 116 = true then (if zinb (86 + v2) 116 = true then (if zinb (106 + v2) 116 = true then (if zinb ((7 * (M 49 (86 + v2).toNatClampNeg)) + (M 49 (96 + v2).toNatClampNeg)) 49 = true then (if (M 49 (106 + v2).toNatClampNeg) < (M 61 ((7 * (M 49 (86 + v2).toNatClampNeg)) + (M 49 (96 + v2).toNatClampNeg)).toNatClampNeg) then (if zinb (106 + v2) 116 = true then (zden (L + 1) 212 140 [some (.ref 48), some (.int v1), some (.int v2), some (.int ((7 * (M 49 (86 + v2).toNatClampNeg)) + (M 49 (96 + v2).toNatClampNeg))), some (.int ((7 * (M 49 (96 + v2).toNatClampNeg)) + (M 49 (86 + v2).toNatClampNeg))), o5] [.int (M 49 (106 + v2).toNatClampNeg), .int ((7 * (M 49 (86 + v2).toNatClampNeg)) + (M 49 (96 + v2).toNatClampNeg)), .ref 61] M) else none) else (if zinb ((7 * (M 49 (86 + v2).toNatClampNeg)) + (M 49 (96 + v2).toNatClampNeg)) 49 = true then (zden (L + 1) 212 140 [some (.ref 48), some (.int v1), some (.int v2), some (.int ((7 * (M 49 (86 + v2).toNatClampNeg)) + (M 49 (96 + v2).toNatClampNeg))), some (.int ((7 * (M 49 (96 + v2).toNatClampNeg)) + (M 49 (86 + v2).toNatClampNeg))), o5] [.int (M 61 ((7 * (M 49 (86 + v2).toNatClampNeg)) + (M 49 (96 + v2).toNatClampNeg)).toNatClampNeg), .int ((7 * (M 49 (86 + v2).toNatClampNeg)) + (M 49 (96 + v2).toNatClampNeg)), .ref 61] M) else none)) else none) else none) else none) else none) else none) else none) else (zden (L + 1) 212 162 [some (.ref 48), some (.int v1), some (.int 0), o3, o4, o5] [] M) :=
  (zd_w zf_212 25 5 rfl).trans
  (zd_ge zf_212 rfl ((zd_w zf_212 99 2 rfl)) ((zd_w zf_212 31 6 rfl).trans
  (zd_ld zf_212 rfl rfl ((zd_w zf_212 38 6 rfl).trans
  (zd_ld zf_212 rfl rfl ((zd_w zf_212 45 8 rfl).trans
  (zd_ld zf_212 rfl rfl ((zd_w zf_212 54 6 rfl).trans
  (zd_ld zf_212 rfl rfl ((zd_w zf_212 61 10 rfl).trans
  (zd_ld zf_212 rfl rfl ((zd_w zf_212 72 3 rfl).trans
  (zd_ld zf_212 rfl rfl (zd_ge zf_212 rfl ((zd_w zf_212 84 3 rfl).trans
  (zd_ld zf_212 rfl rfl (rfl))) ((zd_w zf_212 77 5 rfl).trans
  (zd_ld zf_212 rfl rfl (zd_goto zf_212 rfl (rfl))))))))))))))))))
set_option maxRecDepth 20000 in
theorem e212_33 (L : Nat) (v1 : Int32) (v2 : Int32) (o3 : Option Value) (o4 : Option Value) (o5 : Option Value) (s0 : Int32) (s1 : Int32) (M : zM) : zden (L + 1) 212 33 [some (.ref 48), some (.int v1), some (.int v2), o3, o4, o5] [.int s0, .int s1, .ref 61] M =
  if zinb s1 49 = true then (zden (L + 1) 212 9 [some (.ref 48), some (.int v1), some (.int (v2 + 1)), o3, o4, o5] [] (zput M 61 s1.toNatClampNeg s0)) else none :=
  zd_st zf_212 rfl rfl rfl ((zd_w zf_212 21 1 rfl).trans
  (zd_goto zf_212 rfl (rfl)))
set_option maxRecDepth 20000 in
theorem e212_162 (L : Nat) (v1 : Int32) (v2 : Int32) (o3 : Option Value) (o4 : Option Value) (o5 : Option Value) (M : zM) : zden (L + 1) 212 162 [some (.ref 48), some (.int v1), some (.int v2), o3, o4, o5] [] M =
  if v2 < v1 then (zden (L + 1) 212 169 [some (.ref 48), some (.int v1), some (.int v2), some (.int 0), o4, o5] [] M) else (some (none, M)) :=
  (zd_w zf_212 101 2 rfl).trans
  (zd_ge zf_212 rfl (zd_rv zf_212 rfl) ((zd_w zf_212 104 2 rfl)))
set_option maxRecDepth 20000 in
theorem e212_140 (L : Nat) (v1 : Int32) (v2 : Int32) (v3 : Int32) (v4 : Int32) (o5 : Option Value) (s0 : Int32) (s1 : Int32) (M : zM) : zden (L + 1) 212 140 [some (.ref 48), some (.int v1), some (.int v2), some (.int v3), some (.int v4), o5] [.int s0, .int s1, .ref 61] M =
  if zinb s1 49 = true then (if zinb v3 49 = true then (if zinb v4 49 = true then (zden (L + 1) 212 42 [some (.ref 48), some (.int v1), some (.int (v2 + 1)), some (.int v3), some (.int v4), o5] [] (zput (zput M 61 s1.toNatClampNeg s0) 61 v4.toNatClampNeg ((zput M 61 s1.toNatClampNeg s0) 61 v3.toNatClampNeg))) else none) else none) else none :=
  zd_st zf_212 rfl rfl rfl ((zd_w zf_212 89 6 rfl).trans
  (zd_ld zf_212 rfl rfl (zd_st zf_212 rfl rfl rfl ((zd_w zf_212 97 1 rfl).trans
  (zd_goto zf_212 rfl (rfl))))))
set_option maxRecDepth 20000 in
theorem e212_169 (L : Nat) (v1 : Int32) (v2 : Int32) (v3 : Int32) (o4 : Option Value) (o5 : Option Value) (M : zM) : zden (L + 1) 212 169 [some (.ref 48), some (.int v1), some (.int v2), some (.int v3), o4, o5] [] M =
  if v3 < v1 then (zden (L + 1) 212 177 [some (.ref 48), some (.int v1), some (.int v2), some (.int v3), some (.int 0), o5] [] M) else (zden (L + 1) 212 162 [some (.ref 48), some (.int v1), some (.int (v2 + 1)), some (.int v3), o4, o5] [] M) :=
  (zd_w zf_212 106 2 rfl).trans
  (zd_ge zf_212 rfl ((zd_w zf_212 164 1 rfl).trans
  (zd_goto zf_212 rfl (rfl))) ((zd_w zf_212 109 2 rfl)))
set_option maxRecDepth 20000 in
theorem e212_177 (L : Nat) (v1 : Int32) (v2 : Int32) (v3 : Int32) (v4 : Int32) (o5 : Option Value) (M : zM) : zden (L + 1) 212 177 [some (.ref 48), some (.int v1), some (.int v2), some (.int v3), some (.int v4), o5] [] M =
  if v4 < v1 then (if zinb ((7 * v3) + v2) 49 = true then (if zinb ((7 * v2) + v4) 49 = true then (if zinb ((7 * v3) + v4) 49 = true then (if ((M 61 ((7 * v3) + v2).toNatClampNeg) + (M 61 ((7 * v2) + v4).toNatClampNeg)) < (M 61 ((7 * v3) + v4).toNatClampNeg) then (zden (L + 1) 212 254 [some (.ref 48), some (.int v1), some (.int v2), some (.int v3), some (.int v4), some (.int ((M 61 ((7 * v3) + v2).toNatClampNeg) + (M 61 ((7 * v2) + v4).toNatClampNeg)))] [.int ((M 61 ((7 * v3) + v2).toNatClampNeg) + (M 61 ((7 * v2) + v4).toNatClampNeg)), .int ((7 * v3) + v4), .ref 61] M) else (if zinb ((7 * v3) + v4) 49 = true then (zden (L + 1) 212 254 [some (.ref 48), some (.int v1), some (.int v2), some (.int v3), some (.int v4), some (.int ((M 61 ((7 * v3) + v2).toNatClampNeg) + (M 61 ((7 * v2) + v4).toNatClampNeg)))] [.int (M 61 ((7 * v3) + v4).toNatClampNeg), .int ((7 * v3) + v4), .ref 61] M) else none)) else none) else none) else none) else (zden (L + 1) 212 169 [some (.ref 48), some (.int v1), some (.int v2), some (.int (v3 + 1)), some (.int v4), o5] [] M) :=
  (zd_w zf_212 111 2 rfl).trans
  (zd_ge zf_212 rfl ((zd_w zf_212 162 1 rfl).trans
  (zd_goto zf_212 rfl (rfl))) ((zd_w zf_212 114 7 rfl).trans
  (zd_ld zf_212 rfl rfl ((zd_w zf_212 122 7 rfl).trans
  (zd_ld zf_212 rfl rfl ((zd_w zf_212 130 17 rfl).trans
  (zd_ld zf_212 rfl rfl (zd_ge zf_212 rfl ((zd_w zf_212 151 7 rfl).trans
  (zd_ld zf_212 rfl rfl (rfl))) ((zd_w zf_212 149 1 rfl).trans
  (zd_goto zf_212 rfl (rfl)))))))))))
set_option maxRecDepth 20000 in
theorem e212_254 (L : Nat) (v1 : Int32) (v2 : Int32) (v3 : Int32) (v4 : Int32) (o5 : Option Value) (s0 : Int32) (s1 : Int32) (M : zM) : zden (L + 1) 212 254 [some (.ref 48), some (.int v1), some (.int v2), some (.int v3), some (.int v4), o5] [.int s0, .int s1, .ref 61] M =
  if zinb s1 49 = true then (zden (L + 1) 212 177 [some (.ref 48), some (.int v1), some (.int v2), some (.int v3), some (.int (v4 + 1)), o5] [] (zput M 61 s1.toNatClampNeg s0)) else none :=
  zd_st zf_212 rfl rfl rfl ((zd_w zf_212 160 1 rfl).trans
  (zd_goto zf_212 rfl (rfl)))
theorem e213_0 (L : Nat)  (M : zM) : zden (L + 1) 213 0 [some (.ref 48), none, none] [] M =
  zden (L + 1) 213 4 [some (.ref 48), some (.int 0), some (.int 0)] [] M :=
  (zd_w zf_213 0 4 rfl)
theorem e213_4 (L : Nat) (v1 : Int32) (v2 : Int32) (M : zM) : zden (L + 1) 213 4 [some (.ref 48), some (.int v1), some (.int v2)] [] M =
  if v2 < (M 49 2) then (if zinb (79 + v2) 116 = true then (zden (L + 1) 213 4 [some (.ref 48), some (.int (v1 ||| ((M 49 (79 + v2).toNatClampNeg) <<< (v2 &&& 31)))), some (.int (v2 + 1))] [] M) else none) else (some (some (.int v1), M)) :=
  (zd_w zf_213 4 5 rfl).trans
  (zd_ge zf_213 rfl ((zd_w zf_213 23 1 rfl).trans
  (zd_ri zf_213 rfl zr_213 rfl)) ((zd_w zf_213 10 6 rfl).trans
  (zd_ld zf_213 rfl rfl ((zd_w zf_213 17 5 rfl).trans
  (zd_goto zf_213 rfl (rfl))))))
theorem e214_0 (L : Nat) (v1 : Int32) (v2 : Int32) (M : zM) : zden (L + 1) 214 0 [some (.ref 48), some (.int v1), some (.int v2)] [] M =
  if ((v2 >>> (v1 &&& 31)) &&& 1) = 1 then (zden (L + 1) 214 22 [some (.ref 48), some (.int v1), some (.int v2)] [.int 0] M) else (if zinb (72 + v1) 116 = true then (zden (L + 1) 214 22 [some (.ref 48), some (.int v1), some (.int v2)] [.int (M 49 (72 + v1).toNatClampNeg)] M) else none) :=
  (zd_w zf_214 0 6 rfl).trans
  (zd_ne zf_214 rfl ((zd_w zf_214 9 5 rfl).trans
  (zd_ld zf_214 rfl rfl (rfl))) ((zd_w zf_214 7 1 rfl).trans
  (zd_goto zf_214 rfl (rfl))))
theorem e214_22 (L : Nat) (o0 : Option Value) (o1 : Option Value) (o2 : Option Value) (s0 : Int32) (M : zM) : zden (L + 1) 214 22 [o0, o1, o2] [.int s0] M =
  some (some (.int s0), M) :=
  zd_ri zf_214 rfl zr_214 rfl
theorem e216_0 (L : Nat) (v1 : Int32) (M : zM) : zden (L + 1) 216 0 [some (.ref 48), some (.int v1), none, none, none] [] M =
  zbV (zden (L + 1) 212 0 [some (.ref 48), none, none, none, none, none] [] M) (fun M1 => zden (L + 1) 216 8 [some (.ref 48), some (.int v1), some (.int 0), some (.int 0), none] [] M1) :=
  (zd_w zf_216 0 1 rfl).trans
  (zd_cv zf_216 rfl rfl rfl rfl (fun M1 => (zd_w zf_216 2 4 rfl)))
theorem e216_8 (L : Nat) (v1 : Int32) (v2 : Int32) (v3 : Int32) (o4 : Option Value) (M : zM) : zden (L + 1) 216 8 [some (.ref 48), some (.int v1), some (.int v2), some (.int v3), o4] [] M =
  if v3 < (M 49 2) then (zden (L + 1) 216 21 [some (.ref 48), some (.int v1), some (.int v2), some (.int v3), some (.int 0)] [] M) else (some (some (.int v2), M)) :=
  (zd_w zf_216 6 5 rfl).trans
  (zd_ge zf_216 rfl ((zd_w zf_216 47 1 rfl).trans
  (zd_ri zf_216 rfl zr_216 rfl)) ((zd_w zf_216 12 2 rfl)))
theorem e216_21 (L : Nat) (v1 : Int32) (v2 : Int32) (v3 : Int32) (v4 : Int32) (M : zM) : zden (L + 1) 216 21 [some (.ref 48), some (.int v1), some (.int v2), some (.int v3), some (.int v4)] [] M =
  if v4 < v3 then (if zinb ((7 * v3) + v4) 49 = true then (if (M 61 ((7 * v3) + v4).toNatClampNeg) < 1000000 then (zbI (zden (L + 1) 214 0 [some (.ref 48), some (.int v3), some (.int v1)] [] M) (fun r1 M1 => zbI (zden (L + 1) 214 0 [some (.ref 48), some (.int v4), some (.int v1)] [] M1) (fun r2 M2 => if (r1 + r2) = 0 then (zden (L + 1) 216 67 [some (.ref 48), some (.int v1), some (.int v2), some (.int v3), some (.int v4)] [.int 1, .int v2] M2) else (zden (L + 1) 216 66 [some (.ref 48), some (.int v1), some (.int v2), some (.int v3), some (.int v4)] [.int v2] M2)))) else (zden (L + 1) 216 66 [some (.ref 48), some (.int v1), some (.int v2), some (.int v3), some (.int v4)] [.int v2] M)) else none) else (zden (L + 1) 216 8 [some (.ref 48), some (.int v1), some (.int v2), some (.int (v3 + 1)), some (.int v4)] [] M) :=
  (zd_w zf_216 14 2 rfl).trans
  (zd_ge zf_216 rfl ((zd_w zf_216 45 1 rfl).trans
  (zd_goto zf_216 rfl (rfl))) ((zd_w zf_216 17 8 rfl).trans
  (zd_ld zf_216 rfl rfl ((zd_w zf_216 26 1 rfl).trans
  (zd_ge zf_216 rfl (rfl) ((zd_w zf_216 28 3 rfl).trans
  (zd_ci zf_216 rfl rfl rfl rfl (fun r1 M1 => (zd_w zf_216 32 3 rfl).trans
  (zd_ci zf_216 rfl rfl rfl rfl (fun r2 M2 => (zd_w zf_216 36 1 rfl).trans
  (zd_ne0 zf_216 rfl (rfl) ((zd_w zf_216 38 1 rfl).trans
  (zd_goto zf_216 rfl (rfl))))))))))))))
theorem e216_66 (L : Nat) (v1 : Int32) (o2 : Option Value) (v3 : Int32) (v4 : Int32) (s0 : Int32) (M : zM) : zden (L + 1) 216 66 [some (.ref 48), some (.int v1), o2, some (.int v3), some (.int v4)] [.int s0] M =
  zden (L + 1) 216 67 [some (.ref 48), some (.int v1), o2, some (.int v3), some (.int v4)] [.int 0, .int s0] M :=
  (zd_w zf_216 40 1 rfl)
theorem e216_67 (L : Nat) (v1 : Int32) (o2 : Option Value) (v3 : Int32) (v4 : Int32) (s0 : Int32) (s1 : Int32) (M : zM) : zden (L + 1) 216 67 [some (.ref 48), some (.int v1), o2, some (.int v3), some (.int v4)] [.int s0, .int s1] M =
  zden (L + 1) 216 21 [some (.ref 48), some (.int v1), some (.int (s1 + s0)), some (.int v3), some (.int (v4 + 1))] [] M :=
  (zd_w zf_216 41 3 rfl).trans
  (zd_goto zf_216 rfl (rfl))
theorem e218_0 (L : Nat) (v0 : Int32) (M : zM) : zden (L + 1) 218 0 [some (.int v0), none, none] [] M =
  zden (L + 1) 218 4 [some (.int v0), some (.int 0), some (.int v0)] [] M :=
  (zd_w zf_218 0 4 rfl)
theorem e218_4 (L : Nat) (o0 : Option Value) (v1 : Int32) (v2 : Int32) (M : zM) : zden (L + 1) 218 4 [o0, some (.int v1), some (.int v2)] [] M =
  if v2 = 0 then (some (some (.int v1), M)) else (zden (L + 1) 218 4 [(zkl o0), some (.int (v1 + 1)), some (.int (v2 &&& (v2 - 1)))] [] M) :=
  (zd_w zf_218 4 1 rfl).trans
  (zd_eq0 zf_218 rfl ((zd_w zf_218 14 1 rfl).trans
  (zd_ri zf_218 rfl zr_218 rfl)) ((zd_w zf_218 6 7 rfl).trans
  (zd_goto zf_218 rfl (rfl))))
theorem e221_0 (L : Nat) (v1 : Int32) (M : zM) : zden (L + 1) 221 0 [some (.ref 48), some (.int v1), none, none] [] M =
  zden (L + 1) 221 5 [some (.ref 48), some (.int v1), some (.int (-4)), some (.int 0)] [] M :=
  (zd_w zf_221 0 4 rfl)
theorem e221_5 (L : Nat) (v1 : Int32) (v2 : Int32) (v3 : Int32) (M : zM) : zden (L + 1) 221 5 [some (.ref 48), some (.int v1), some (.int v2), some (.int v3)] [] M =
  if 40 < ((M 49 7) + v3) then (some (some (.int v2), M)) else (zbI (zden (L + 1) 163 0 [some (.ref 48)] [] M) (fun r1 M1 => zbI (zden (L + 1) 192 0 [some (.ref 48), some (.int 0), some (.int v1), some (.int (r1 + v3)), none, none, none, none, none, none, none] [] M1) (fun r2 M2 => if r2 < 1000000 then (zden (L + 1) 221 41 [some (.ref 48), some (.int v1), some (.int v2), some (.int v3)] [.int v3] M2) else (zden (L + 1) 221 41 [some (.ref 48), some (.int v1), some (.int v2), some (.int v3)] [.int v2] M2)))) :=
  (zd_w zf_221 4 7 rfl).trans
  (zd_gt zf_221 rfl ((zd_w zf_221 28 1 rfl).trans
  (zd_ri zf_221 rfl zr_221 rfl)) ((zd_w zf_221 12 4 rfl).trans
  (zd_ci zf_221 rfl rfl rfl rfl (fun r1 M1 => (zd_w zf_221 17 2 rfl).trans
  (zd_ci zf_221 rfl rfl rfl rfl (fun r2 M2 => (zd_w zf_221 20 1 rfl).trans
  (zd_ge zf_221 rfl ((zd_w zf_221 24 1 rfl)) ((zd_w zf_221 22 1 rfl).trans
  (zd_goto zf_221 rfl (rfl))))))))))
theorem e221_41 (L : Nat) (v1 : Int32) (o2 : Option Value) (v3 : Int32) (s0 : Int32) (M : zM) : zden (L + 1) 221 41 [some (.ref 48), some (.int v1), o2, some (.int v3)] [.int s0] M =
  zden (L + 1) 221 5 [some (.ref 48), some (.int v1), some (.int s0), some (.int (v3 + 1))] [] M :=
  (zd_w zf_221 25 2 rfl).trans
  (zd_goto zf_221 rfl (rfl))
theorem e225_0 (L : Nat) (v1 : Int32) (v2 : Int32) (v3 : Int32) (M : zM) : zden (L + 1) 225 0 [some (.ref 48), some (.int v1), some (.int v2), some (.int v3), none, none, none, none, none] [] M =
  zden (L + 1) 225 3 [some (.ref 48), some (.int v1), some (.int v2), some (.int v3), some (.int 0), none, none, none, none] [] M :=
  (zd_w zf_225 0 2 rfl)
theorem e225_3 (L : Nat) (v1 : Int32) (v2 : Int32) (v3 : Int32) (v4 : Int32) (o5 : Option Value) (o6 : Option Value) (o7 : Option Value) (o8 : Option Value) (M : zM) : zden (L + 1) 225 3 [some (.ref 48), some (.int v1), some (.int v2), some (.int v3), some (.int v4), o5, o6, o7, o8] [] M =
  if v4 < 300 then (zbI (zden (L + 1) 205 0 [some (.ref 48), some (.int v2), some (.int v4), some (.int v3)] [] M) (fun r1 M1 => if (lg_cmp ((((((7919 * v1.toInt64) + (6151 * v4.toInt64)) + 1) * (((7919 * v1.toInt64) + (6151 * v4.toInt64)) + 1)) - ((((7919 * v1.toInt64) + (6151 * v4.toInt64)) + 1) * (((7919 * v1.toInt64) + (6151 * v4.toInt64)) + 1)) / 65521 * 65521) - (((((7919 * v1.toInt64) + (6151 * v4.toInt64)) + 1) * (((7919 * v1.toInt64) + (6151 * v4.toInt64)) + 1)) - ((((7919 * v1.toInt64) + (6151 * v4.toInt64)) + 1) * (((7919 * v1.toInt64) + (6151 * v4.toInt64)) + 1)) / 65521 * 65521) / 1000 * 1000) r1.toInt64) < 0 then (some (some (.int v4), M1)) else (zden (L + 1) 225 3 [some (.ref 48), some (.int v1), some (.int v2), some (.int v3), some (.int (v4 + 1)), some (.long (((7919 * v1.toInt64) + (6151 * v4.toInt64)) + 1)), none, some (.long ((((((7919 * v1.toInt64) + (6151 * v4.toInt64)) + 1) * (((7919 * v1.toInt64) + (6151 * v4.toInt64)) + 1)) - ((((7919 * v1.toInt64) + (6151 * v4.toInt64)) + 1) * (((7919 * v1.toInt64) + (6151 * v4.toInt64)) + 1)) / 65521 * 65521) - (((((7919 * v1.toInt64) + (6151 * v4.toInt64)) + 1) * (((7919 * v1.toInt64) + (6151 * v4.toInt64)) + 1)) - ((((7919 * v1.toInt64) + (6151 * v4.toInt64)) + 1) * (((7919 * v1.toInt64) + (6151 * v4.toInt64)) + 1)) / 65521 * 65521) / 1000 * 1000)), none] [] M1))) else (some (some (.int (-4)), M)) :=
  (zd_w zf_225 2 2 rfl).trans
  (zd_ge zf_225 rfl ((zd_w zf_225 38 1 rfl).trans
  (zd_ri zf_225 rfl zr_225 rfl)) ((zd_w zf_225 5 25 rfl).trans
  (zd_ci zf_225 rfl rfl rfl rfl (fun r1 M1 => (zd_w zf_225 31 2 rfl).trans
  (zd_ge0 zf_225 rfl ((zd_w zf_225 36 1 rfl).trans
  (zd_goto zf_225 rfl (rfl))) ((zd_w zf_225 34 1 rfl).trans
  (zd_ri zf_225 rfl zr_225 rfl)))))))
theorem e177_48_52_55_0 (L : Nat) (v2 : Int32) (v4 : Int32) (M : zM) : zden (L + 1) 177 0 [some (.ref 48), some (.ref 52), some (.int v2), some (.ref 55), some (.int v4), none] [] M =
  zden (L + 1) 177 3 [some (.ref 48), some (.ref 52), some (.int v2), some (.ref 55), some (.int v4), some (.int 0)] [] M :=
  (zd_w zf_177 0 2 rfl)
theorem e177_48_52_55_3 (L : Nat) (o0 : Option Value) (v2 : Int32) (v4 : Int32) (v5 : Int32) (M : zM) : zden (L + 1) 177 3 [o0, some (.ref 52), some (.int v2), some (.ref 55), some (.int v4), some (.int v5)] [] M =
  if v5 < 6 then (if zinb (v2 + v5) 6 = true then (if zinb (v4 + v5) 16 = true then (zden (L + 1) 177 3 [o0, some (.ref 52), some (.int v2), some (.ref 55), some (.int v4), some (.int (v5 + 1))] [] (zput M 55 (v4 + v5).toNatClampNeg (M 52 (v2 + v5).toNatClampNeg))) else none) else none) else (some (none, M)) :=
  (zd_w zf_177 2 2 rfl).trans
  (zd_ge zf_177 rfl (zd_rv zf_177 rfl) ((zd_w zf_177 5 8 rfl).trans
  (zd_ld zf_177 rfl rfl (zd_st zf_177 rfl rfl rfl ((zd_w zf_177 15 1 rfl).trans
  (zd_goto zf_177 rfl (rfl)))))))
theorem e177_48_55_52_0 (L : Nat) (v2 : Int32) (v4 : Int32) (M : zM) : zden (L + 1) 177 0 [some (.ref 48), some (.ref 55), some (.int v2), some (.ref 52), some (.int v4), none] [] M =
  zden (L + 1) 177 3 [some (.ref 48), some (.ref 55), some (.int v2), some (.ref 52), some (.int v4), some (.int 0)] [] M :=
  (zd_w zf_177 0 2 rfl)
theorem e177_48_55_52_3 (L : Nat) (o0 : Option Value) (v2 : Int32) (v4 : Int32) (v5 : Int32) (M : zM) : zden (L + 1) 177 3 [o0, some (.ref 55), some (.int v2), some (.ref 52), some (.int v4), some (.int v5)] [] M =
  if v5 < 6 then (if zinb (v2 + v5) 16 = true then (if zinb (v4 + v5) 6 = true then (zden (L + 1) 177 3 [o0, some (.ref 55), some (.int v2), some (.ref 52), some (.int v4), some (.int (v5 + 1))] [] (zput M 52 (v4 + v5).toNatClampNeg (M 55 (v2 + v5).toNatClampNeg))) else none) else none) else (some (none, M)) :=
  (zd_w zf_177 2 2 rfl).trans
  (zd_ge zf_177 rfl (zd_rv zf_177 rfl) ((zd_w zf_177 5 8 rfl).trans
  (zd_ld zf_177 rfl rfl (zd_st zf_177 rfl rfl rfl ((zd_w zf_177 15 1 rfl).trans
  (zd_goto zf_177 rfl (rfl)))))))
theorem e29_0 (L : Nat) (v1 : Int32) (M : zM) : zden (L + 1) 29 0 [some (.ref 23), some (.int v1)] [] M =
  if (M 23 1) < 0 then (zden (L + 1) 29 19 [some (.ref 23), some (.int v1)] [] M) else (if (M 23 1) < 200 then (if zinb (M 23 1) 200 = true then (some (some (.int ((zput (zput M 24 (M 23 1).toNatClampNeg (vp_nar .char v1)) 23 1 (((zput M 24 (M 23 1).toNatClampNeg (vp_nar .char v1)) 23 1) + 1)) 23 1)), zput (zput M 24 (M 23 1).toNatClampNeg (vp_nar .char v1)) 23 1 (((zput M 24 (M 23 1).toNatClampNeg (vp_nar .char v1)) 23 1) + 1))) else none) else (zden (L + 1) 29 19 [some (.ref 23), some (.int v1)] [] M)) :=
  (zd_w zf_29 0 2 rfl).trans
  (zd_lt0 zf_29 rfl (rfl) ((zd_w zf_29 3 5 rfl).trans
  (zd_lt zf_29 rfl ((zd_w zf_29 11 5 rfl).trans
  (zd_stc zf_29 rfl rfl rfl ((zd_w zf_29 17 8 rfl).trans
  (zd_ri zf_29 rfl zr_29 rfl)))) (rfl))))
theorem e29_19 (L : Nat) (o0 : Option Value) (o1 : Option Value) (M : zM) : zden (L + 1) 29 19 [o0, o1] [] M =
  some (some (.int (-3)), M) :=
  (zd_w zf_29 9 1 rfl).trans
  (zd_ri zf_29 rfl zr_29 rfl)
theorem e30_0 (L : Nat)  (M : zM) : zden (L + 1) 30 0 [some (.ref 23), none] [] M =
  some (some (.int (M 23 1)), zput M 23 1 0) :=
  (zd_w zf_30 0 7 rfl).trans
  (zd_ri zf_30 rfl zr_30 rfl)
theorem e56_23_12_0 (L : Nat)  (M : zM) : zden (L + 1) 56 0 [some (.ref 23), some (.ref 12), none, none, none] [] M =
  zbV (zden (L + 1) 32 0 [some (.ref 12)] [] M) (fun M1 => zden (L + 1) 56 8 [some (.ref 23), some (.ref 12), some (.int 0), some (.int 0), none] [] M1) :=
  (zd_w zf_56 0 1 rfl).trans
  (zd_cv zf_56 rfl rfl rfl rfl (fun M1 => (zd_w zf_56 2 4 rfl)))
theorem e56_23_12_8 (L : Nat) (v2 : Int32) (v3 : Int32) (o4 : Option Value) (M : zM) : zden (L + 1) 56 8 [some (.ref 23), some (.ref 12), some (.int v2), some (.int v3), o4] [] M =
  if v3 < 200 then (if v2 < (M 23 1) then (zbI (zden (L + 1) 55 0 [some (.ref 23), some (.int v2), some (.ref 12), none, none, none, none, none, none, none, none] [] M) (fun r1 M1 => if v2 < r1 then (zden (L + 1) 56 8 [some (.ref 23), some (.ref 12), some (.int r1), some (.int (v3 + 1)), some (.int r1)] [] M1) else (some (some (.int v2), M1)))) else (zden (L + 1) 56 48 [some (.ref 23), some (.ref 12), some (.int v2), some (.int v3), o4] [] M)) else (zden (L + 1) 56 48 [some (.ref 23), some (.ref 12), some (.int v2), some (.int v3), o4] [] M) :=
  (zd_w zf_56 6 2 rfl).trans
  (zd_ge zf_56 rfl (rfl) ((zd_w zf_56 9 3 rfl).trans
  (zd_ge zf_56 rfl (rfl) ((zd_w zf_56 13 3 rfl).trans
  (zd_ci zf_56 rfl rfl rfl rfl (fun r1 M1 => (zd_w zf_56 17 3 rfl).trans
  (zd_gt zf_56 rfl ((zd_w zf_56 23 3 rfl).trans
  (zd_goto zf_56 rfl (rfl))) ((zd_w zf_56 21 1 rfl).trans
  (zd_ri zf_56 rfl zr_56 rfl)))))))))
theorem e56_23_12_48 (L : Nat) (o0 : Option Value) (o1 : Option Value) (o2 : Option Value) (o3 : Option Value) (o4 : Option Value) (M : zM) : zden (L + 1) 56 48 [o0, o1, o2, o3, o4] [] M =
  some (some (.int (-4)), M) :=
  (zd_w zf_56 27 1 rfl).trans
  (zd_ri zf_56 rfl zr_56 rfl)
theorem e14_45_0 (L : Nat)  (M : zM) : zden (L + 1) 14 0 [some (.ref 45)] [] M =
  some (none, zput M 45 3 0) :=
  (zd_w zf_14 0 3 rfl).trans
  (zd_rv zf_14 rfl)
theorem e56_23_1_0 (L : Nat)  (M : zM) : zden (L + 1) 56 0 [some (.ref 23), some (.ref 1), none, none, none] [] M =
  zbV (zden (L + 1) 32 0 [some (.ref 1)] [] M) (fun M1 => zden (L + 1) 56 8 [some (.ref 23), some (.ref 1), some (.int 0), some (.int 0), none] [] M1) :=
  (zd_w zf_56 0 1 rfl).trans
  (zd_cv zf_56 rfl rfl rfl rfl (fun M1 => (zd_w zf_56 2 4 rfl)))
theorem e56_23_1_8 (L : Nat) (v2 : Int32) (v3 : Int32) (o4 : Option Value) (M : zM) : zden (L + 1) 56 8 [some (.ref 23), some (.ref 1), some (.int v2), some (.int v3), o4] [] M =
  if v3 < 200 then (if v2 < (M 23 1) then (zbI (zden (L + 1) 55 0 [some (.ref 23), some (.int v2), some (.ref 1), none, none, none, none, none, none, none, none] [] M) (fun r1 M1 => if v2 < r1 then (zden (L + 1) 56 8 [some (.ref 23), some (.ref 1), some (.int r1), some (.int (v3 + 1)), some (.int r1)] [] M1) else (some (some (.int v2), M1)))) else (zden (L + 1) 56 48 [some (.ref 23), some (.ref 1), some (.int v2), some (.int v3), o4] [] M)) else (zden (L + 1) 56 48 [some (.ref 23), some (.ref 1), some (.int v2), some (.int v3), o4] [] M) :=
  (zd_w zf_56 6 2 rfl).trans
  (zd_ge zf_56 rfl (rfl) ((zd_w zf_56 9 3 rfl).trans
  (zd_ge zf_56 rfl (rfl) ((zd_w zf_56 13 3 rfl).trans
  (zd_ci zf_56 rfl rfl rfl rfl (fun r1 M1 => (zd_w zf_56 17 3 rfl).trans
  (zd_gt zf_56 rfl ((zd_w zf_56 23 3 rfl).trans
  (zd_goto zf_56 rfl (rfl))) ((zd_w zf_56 21 1 rfl).trans
  (zd_ri zf_56 rfl zr_56 rfl)))))))))
theorem e56_23_1_48 (L : Nat) (o0 : Option Value) (o1 : Option Value) (o2 : Option Value) (o3 : Option Value) (o4 : Option Value) (M : zM) : zden (L + 1) 56 48 [o0, o1, o2, o3, o4] [] M =
  some (some (.int (-4)), M) :=
  (zd_w zf_56 27 1 rfl).trans
  (zd_ri zf_56 rfl zr_56 rfl)
theorem e19E_7_0 (v1 : Int32) (M : zM) : zden 0 19 0 [some (.ref 7), some (.int v1), none, none] [] M =
  zden 0 19 5 [some (.ref 7), some (.int v1), some (.int 0), some (.int 24)] [] M :=
  (zd_w zf_19 0 5 rfl)
theorem e19E_7_5 (v1 : Int32) (v2 : Int32) (v3 : Int32) (M : zM) : zden 0 19 5 [some (.ref 7), some (.int v1), some (.int v2), some (.int v3)] [] M =
  if v2 < v3 then (if zinb v2 24 = true then (zden 0 19 5 [some (.ref 7), some (.int v1), some (.int (v2 + 1)), some (.int v3)] [] (zput M 7 v2.toNatClampNeg v1)) else none) else (some (none, M)) :=
  (zd_w zf_19 5 2 rfl).trans
  (zd_ge zf_19 rfl (zd_rv zf_19 rfl) ((zd_w zf_19 8 3 rfl).trans
  (zd_st zf_19 rfl rfl rfl ((zd_w zf_19 12 1 rfl).trans
  (zd_goto zf_19 rfl (rfl))))))
theorem e31E_63_4_0  (M : zM) : zden 0 31 0 [some (.ref 63), some (.ref 4), none] [] M =
  zden 0 31 2 [some (.ref 63), some (.ref 4), some (.int 0)] [] M :=
  (zd_w zf_31 0 2 rfl)
theorem e31E_63_4_2 (v2 : Int32) (M : zM) : zden 0 31 2 [some (.ref 63), some (.ref 4), some (.int v2)] [] M =
  if v2 < 12 then (if v2 < 12 then (if zinb v2 12 = true then (if zinb v2 12 = true then (zden 0 31 2 [some (.ref 63), some (.ref 4), some (.int (v2 + 1))] [] (zput M 4 v2.toNatClampNeg (M 63 v2.toNatClampNeg))) else none) else none) else (zden 0 31 26 [some (.ref 63), some (.ref 4), some (.int v2)] [] M)) else (zden 0 31 26 [some (.ref 63), some (.ref 4), some (.int v2)] [] M) :=
  (zd_w zf_31 2 3 rfl).trans
  (zd_ge zf_31 rfl (rfl) ((zd_w zf_31 6 3 rfl).trans
  (zd_ge zf_31 rfl (rfl) ((zd_w zf_31 10 4 rfl).trans
  (zd_ld zf_31 rfl rfl (zd_st zf_31 rfl rfl rfl ((zd_w zf_31 16 1 rfl).trans
  (zd_goto zf_31 rfl (rfl)))))))))
theorem e31E_63_4_26 (o0 : Option Value) (o1 : Option Value) (o2 : Option Value) (M : zM) : zden 0 31 26 [o0, o1, o2] [] M =
  some (none, M) :=
  zd_rv zf_31 rfl
theorem e5E_2_0 (v1 : Int32) (v2 : Int32) (M : zM) : zden 0 5 0 [some (.ref 2), some (.int v1), some (.int v2)] [] M =
  if v1 < 0 then (zden 0 5 14 [some (.ref 2), some (.int v1), some (.int v2)] [] M) else (if v1 < 12 then (if zinb v1 12 = true then (zden 0 5 14 [some (.ref 2), some (.int v1), some (.int v2)] [] (zput M 2 v1.toNatClampNeg v2)) else none) else (zden 0 5 14 [some (.ref 2), some (.int v1), some (.int v2)] [] M)) :=
  (zd_w zf_5 0 1 rfl).trans
  (zd_lt0 zf_5 rfl (rfl) ((zd_w zf_5 2 3 rfl).trans
  (zd_ge zf_5 rfl (rfl) ((zd_w zf_5 6 3 rfl).trans
  (zd_st zf_5 rfl rfl rfl (rfl))))))
theorem e5E_2_14 (o0 : Option Value) (o1 : Option Value) (o2 : Option Value) (M : zM) : zden 0 5 14 [o0, o1, o2] [] M =
  some (none, M) :=
  zd_rv zf_5 rfl
theorem e5E_3_0 (v1 : Int32) (v2 : Int32) (M : zM) : zden 0 5 0 [some (.ref 3), some (.int v1), some (.int v2)] [] M =
  if v1 < 0 then (zden 0 5 14 [some (.ref 3), some (.int v1), some (.int v2)] [] M) else (if v1 < 12 then (if zinb v1 12 = true then (zden 0 5 14 [some (.ref 3), some (.int v1), some (.int v2)] [] (zput M 3 v1.toNatClampNeg v2)) else none) else (zden 0 5 14 [some (.ref 3), some (.int v1), some (.int v2)] [] M)) :=
  (zd_w zf_5 0 1 rfl).trans
  (zd_lt0 zf_5 rfl (rfl) ((zd_w zf_5 2 3 rfl).trans
  (zd_ge zf_5 rfl (rfl) ((zd_w zf_5 6 3 rfl).trans
  (zd_st zf_5 rfl rfl rfl (rfl))))))
theorem e5E_3_14 (o0 : Option Value) (o1 : Option Value) (o2 : Option Value) (M : zM) : zden 0 5 14 [o0, o1, o2] [] M =
  some (none, M) :=
  zd_rv zf_5 rfl
theorem e0E_1_0 (v1 : Int32) (M : zM) : zden 0 0 0 [some (.ref 1), some (.int v1)] [] M =
  if v1 < 0 then (zden 0 0 22 [some (.ref 1), some (.int v1)] [] M) else (if v1 < 12 then (if zinb v1 12 = true then (zden 0 0 23 [some (.ref 1), some (.int v1)] [.int (M 4 v1.toNatClampNeg)] M) else none) else (zden 0 0 22 [some (.ref 1), some (.int v1)] [] M)) :=
  (zd_w zf_0 0 1 rfl).trans
  (zd_lt0 zf_0 rfl (rfl) ((zd_w zf_0 2 4 rfl).trans
  (zd_ge zf_0 rfl (rfl) ((zd_w zf_0 7 3 rfl).trans
  (zd_ld zf_0 rfl rfl (zd_goto zf_0 rfl (rfl)))))))
theorem e0E_1_22 (o0 : Option Value) (o1 : Option Value) (M : zM) : zden 0 0 22 [o0, o1] [] M =
  zden 0 0 23 [o0, o1] [.int 0] M :=
  (zd_w zf_0 12 1 rfl)
theorem e0E_1_23 (o0 : Option Value) (o1 : Option Value) (s0 : Int32) (M : zM) : zden 0 0 23 [o0, o1] [.int s0] M =
  some (some (.int s0), M) :=
  zd_ri zf_0 rfl zr_0 rfl
theorem e19E_40_0 (v1 : Int32) (M : zM) : zden 0 19 0 [some (.ref 40), some (.int v1), none, none] [] M =
  zden 0 19 5 [some (.ref 40), some (.int v1), some (.int 0), some (.int 6)] [] M :=
  (zd_w zf_19 0 5 rfl)
theorem e19E_40_5 (v1 : Int32) (v2 : Int32) (v3 : Int32) (M : zM) : zden 0 19 5 [some (.ref 40), some (.int v1), some (.int v2), some (.int v3)] [] M =
  if v2 < v3 then (if zinb v2 6 = true then (zden 0 19 5 [some (.ref 40), some (.int v1), some (.int (v2 + 1)), some (.int v3)] [] (zput M 40 v2.toNatClampNeg v1)) else none) else (some (none, M)) :=
  (zd_w zf_19 5 2 rfl).trans
  (zd_ge zf_19 rfl (zd_rv zf_19 rfl) ((zd_w zf_19 8 3 rfl).trans
  (zd_st zf_19 rfl rfl rfl ((zd_w zf_19 12 1 rfl).trans
  (zd_goto zf_19 rfl (rfl))))))
theorem e5E_40_0 (v1 : Int32) (v2 : Int32) (M : zM) : zden 0 5 0 [some (.ref 40), some (.int v1), some (.int v2)] [] M =
  if v1 < 0 then (zden 0 5 14 [some (.ref 40), some (.int v1), some (.int v2)] [] M) else (if v1 < 6 then (if zinb v1 6 = true then (zden 0 5 14 [some (.ref 40), some (.int v1), some (.int v2)] [] (zput M 40 v1.toNatClampNeg v2)) else none) else (zden 0 5 14 [some (.ref 40), some (.int v1), some (.int v2)] [] M)) :=
  (zd_w zf_5 0 1 rfl).trans
  (zd_lt0 zf_5 rfl (rfl) ((zd_w zf_5 2 3 rfl).trans
  (zd_ge zf_5 rfl (rfl) ((zd_w zf_5 6 3 rfl).trans
  (zd_st zf_5 rfl rfl rfl (rfl))))))
theorem e5E_40_14 (o0 : Option Value) (o1 : Option Value) (o2 : Option Value) (M : zM) : zden 0 5 14 [o0, o1, o2] [] M =
  some (none, M) :=
  zd_rv zf_5 rfl
theorem e94E_0  (M : zM) : zden 0 94 0 [some (.ref 0)] [] M =
  zbV (zden 0 14 0 [some (.ref 43)] [] (zput M 0 15 0)) (fun M1 => some (none, M1)) :=
  (zd_w zf_94 0 5 rfl).trans
  (zd_cv zf_94 rfl rfl rfl rfl (fun M1 => zd_rv zf_94 rfl))
theorem e19_40_0 (L : Nat) (v1 : Int32) (M : zM) : zden (L + 1) 19 0 [some (.ref 40), some (.int v1), none, none] [] M =
  zden (L + 1) 19 5 [some (.ref 40), some (.int v1), some (.int 0), some (.int 6)] [] M :=
  (zd_w zf_19 0 5 rfl)
theorem e19_40_5 (L : Nat) (v1 : Int32) (v2 : Int32) (v3 : Int32) (M : zM) : zden (L + 1) 19 5 [some (.ref 40), some (.int v1), some (.int v2), some (.int v3)] [] M =
  if v2 < v3 then (if zinb v2 6 = true then (zden (L + 1) 19 5 [some (.ref 40), some (.int v1), some (.int (v2 + 1)), some (.int v3)] [] (zput M 40 v2.toNatClampNeg v1)) else none) else (some (none, M)) :=
  (zd_w zf_19 5 2 rfl).trans
  (zd_ge zf_19 rfl (zd_rv zf_19 rfl) ((zd_w zf_19 8 3 rfl).trans
  (zd_st zf_19 rfl rfl rfl ((zd_w zf_19 12 1 rfl).trans
  (zd_goto zf_19 rfl (rfl))))))
theorem e5_40_0 (L : Nat) (v1 : Int32) (v2 : Int32) (M : zM) : zden (L + 1) 5 0 [some (.ref 40), some (.int v1), some (.int v2)] [] M =
  if v1 < 0 then (zden (L + 1) 5 14 [some (.ref 40), some (.int v1), some (.int v2)] [] M) else (if v1 < 6 then (if zinb v1 6 = true then (zden (L + 1) 5 14 [some (.ref 40), some (.int v1), some (.int v2)] [] (zput M 40 v1.toNatClampNeg v2)) else none) else (zden (L + 1) 5 14 [some (.ref 40), some (.int v1), some (.int v2)] [] M)) :=
  (zd_w zf_5 0 1 rfl).trans
  (zd_lt0 zf_5 rfl (rfl) ((zd_w zf_5 2 3 rfl).trans
  (zd_ge zf_5 rfl (rfl) ((zd_w zf_5 6 3 rfl).trans
  (zd_st zf_5 rfl rfl rfl (rfl))))))
theorem e5_40_14 (L : Nat) (o0 : Option Value) (o1 : Option Value) (o2 : Option Value) (M : zM) : zden (L + 1) 5 14 [o0, o1, o2] [] M =
  some (none, M) :=
  zd_rv zf_5 rfl
theorem e4_67_0 (L : Nat) (v1 : Int32) (M : zM) : zden (L + 1) 4 0 [some (.ref 67), some (.int v1)] [] M =
  if v1 < 0 then (zden (L + 1) 4 16 [some (.ref 67), some (.int v1)] [] M) else (if v1 < 3 then (if zinb v1 3 = true then (zden (L + 1) 4 17 [some (.ref 67), some (.int v1)] [.int (M 67 v1.toNatClampNeg)] M) else none) else (zden (L + 1) 4 16 [some (.ref 67), some (.int v1)] [] M)) :=
  (zd_w zf_4 0 1 rfl).trans
  (zd_lt0 zf_4 rfl (rfl) ((zd_w zf_4 2 3 rfl).trans
  (zd_ge zf_4 rfl (rfl) ((zd_w zf_4 6 2 rfl).trans
  (zd_ld zf_4 rfl rfl (zd_goto zf_4 rfl (rfl)))))))
theorem e4_67_16 (L : Nat) (o0 : Option Value) (o1 : Option Value) (M : zM) : zden (L + 1) 4 16 [o0, o1] [] M =
  zden (L + 1) 4 17 [o0, o1] [.int 0] M :=
  (zd_w zf_4 10 1 rfl)
theorem e4_67_17 (L : Nat) (o0 : Option Value) (o1 : Option Value) (s0 : Int32) (M : zM) : zden (L + 1) 4 17 [o0, o1] [.int s0] M =
  some (some (.int s0), M) :=
  zd_ri zf_4 rfl zr_4 rfl
theorem e59_0 (L : Nat) (v0 : Int32) (v1 : Int32) (M : zM) : zden (L + 1) 59 0 [some (.int v0), some (.int v1)] [] M =
  if 0 < v1 then (if v1 = 0 then none else (zden (L + 1) 59 15 [some (.int v0), some (.int v1)] [.int (((v0 + v1) - 1) / v1)] M)) else (zden (L + 1) 59 15 [some (.int v0), some (.int v1)] [.int 0] M) :=
  (zd_w zf_59 0 1 rfl).trans
  (zd_gt0 zf_59 rfl ((zd_w zf_59 4 6 rfl).trans
  (zd_div zf_59 rfl (rfl))) ((zd_w zf_59 2 1 rfl).trans
  (zd_goto zf_59 rfl (rfl))))
theorem e59_15 (L : Nat) (o0 : Option Value) (o1 : Option Value) (s0 : Int32) (M : zM) : zden (L + 1) 59 15 [o0, o1] [.int s0] M =
  some (some (.int s0), M) :=
  zd_ri zf_59 rfl zr_59 rfl
theorem e4_68_0 (L : Nat) (v1 : Int32) (M : zM) : zden (L + 1) 4 0 [some (.ref 68), some (.int v1)] [] M =
  if v1 < 0 then (zden (L + 1) 4 16 [some (.ref 68), some (.int v1)] [] M) else (if v1 < 3 then (if zinb v1 3 = true then (zden (L + 1) 4 17 [some (.ref 68), some (.int v1)] [.int (M 68 v1.toNatClampNeg)] M) else none) else (zden (L + 1) 4 16 [some (.ref 68), some (.int v1)] [] M)) :=
  (zd_w zf_4 0 1 rfl).trans
  (zd_lt0 zf_4 rfl (rfl) ((zd_w zf_4 2 3 rfl).trans
  (zd_ge zf_4 rfl (rfl) ((zd_w zf_4 6 2 rfl).trans
  (zd_ld zf_4 rfl rfl (zd_goto zf_4 rfl (rfl)))))))
theorem e4_68_16 (L : Nat) (o0 : Option Value) (o1 : Option Value) (M : zM) : zden (L + 1) 4 16 [o0, o1] [] M =
  zden (L + 1) 4 17 [o0, o1] [.int 0] M :=
  (zd_w zf_4 10 1 rfl)
theorem e4_68_17 (L : Nat) (o0 : Option Value) (o1 : Option Value) (s0 : Int32) (M : zM) : zden (L + 1) 4 17 [o0, o1] [.int s0] M =
  some (some (.int s0), M) :=
  zd_ri zf_4 rfl zr_4 rfl
theorem e16_43_40_0 (L : Nat)  (M : zM) : zden (L + 1) 16 0 [some (.ref 43), some (.ref 40), none] [] M =
  if (M 43 3) < (M 43 0) then (zden (L + 1) 16 15 [some (.ref 43), some (.ref 40), none] [] M) else (zbV (zden (L + 1) 15 0 [some (.ref 43), none] [] M) (fun M1 => zden (L + 1) 16 15 [some (.ref 43), some (.ref 40), none] [] M1)) :=
  (zd_w zf_16 0 4 rfl).trans
  (zd_lt zf_16 rfl (rfl) ((zd_w zf_16 5 1 rfl).trans
  (zd_cv zf_16 rfl rfl rfl rfl (fun M1 => rfl))))
theorem e16_43_40_15 (L : Nat) (o2 : Option Value) (M : zM) : zden (L + 1) 16 15 [some (.ref 43), some (.ref 40), o2] [] M =
  zden (L + 1) 16 17 [some (.ref 43), some (.ref 40), some (.int 0)] [] M :=
  (zd_w zf_16 7 2 rfl)
theorem e16_43_40_17 (L : Nat) (v2 : Int32) (M : zM) : zden (L + 1) 16 17 [some (.ref 43), some (.ref 40), some (.int v2)] [] M =
  if v2 < (M 43 1) then (zbI (zden (L + 1) 4 0 [some (.ref 40), some (.int v2)] [] M) (fun r1 M1 => zbV (zden (L + 1) 5 0 [some (.ref 44), some (.int (((M 43 3) * (M 43 1)) + v2)), some (.int r1)] [] M1) (fun M2 => zden (L + 1) 16 17 [some (.ref 43), some (.ref 40), some (.int (v2 + 1))] [] M2))) else (some (none, zput M 43 3 ((M 43 3) + 1))) :=
  (zd_w zf_16 9 3 rfl).trans
  (zd_ge zf_16 rfl ((zd_w zf_16 28 6 rfl).trans
  (zd_rv zf_16 rfl)) ((zd_w zf_16 13 11 rfl).trans
  (zd_ci zf_16 rfl rfl rfl rfl (fun r1 M1 => zd_cv zf_16 rfl rfl rfl rfl (fun M2 => (zd_w zf_16 26 1 rfl).trans
  (zd_goto zf_16 rfl (rfl)))))))
theorem e31_41_40_0 (L : Nat)  (M : zM) : zden (L + 1) 31 0 [some (.ref 41), some (.ref 40), none] [] M =
  zden (L + 1) 31 2 [some (.ref 41), some (.ref 40), some (.int 0)] [] M :=
  (zd_w zf_31 0 2 rfl)
theorem e31_41_40_2 (L : Nat) (v2 : Int32) (M : zM) : zden (L + 1) 31 2 [some (.ref 41), some (.ref 40), some (.int v2)] [] M =
  if v2 < 6 then (if v2 < 6 then (if zinb v2 6 = true then (if zinb v2 6 = true then (zden (L + 1) 31 2 [some (.ref 41), some (.ref 40), some (.int (v2 + 1))] [] (zput M 40 v2.toNatClampNeg (M 41 v2.toNatClampNeg))) else none) else none) else (zden (L + 1) 31 26 [some (.ref 41), some (.ref 40), some (.int v2)] [] M)) else (zden (L + 1) 31 26 [some (.ref 41), some (.ref 40), some (.int v2)] [] M) :=
  (zd_w zf_31 2 3 rfl).trans
  (zd_ge zf_31 rfl (rfl) ((zd_w zf_31 6 3 rfl).trans
  (zd_ge zf_31 rfl (rfl) ((zd_w zf_31 10 4 rfl).trans
  (zd_ld zf_31 rfl rfl (zd_st zf_31 rfl rfl rfl ((zd_w zf_31 16 1 rfl).trans
  (zd_goto zf_31 rfl (rfl)))))))))
theorem e31_41_40_26 (L : Nat) (o0 : Option Value) (o1 : Option Value) (o2 : Option Value) (M : zM) : zden (L + 1) 31 26 [o0, o1, o2] [] M =
  some (none, M) :=
  zd_rv zf_31 rfl
theorem e4_44_0 (L : Nat) (v1 : Int32) (M : zM) : zden (L + 1) 4 0 [some (.ref 44), some (.int v1)] [] M =
  if v1 < 0 then (zden (L + 1) 4 16 [some (.ref 44), some (.int v1)] [] M) else (if v1 < 48 then (if zinb v1 48 = true then (zden (L + 1) 4 17 [some (.ref 44), some (.int v1)] [.int (M 44 v1.toNatClampNeg)] M) else none) else (zden (L + 1) 4 16 [some (.ref 44), some (.int v1)] [] M)) :=
  (zd_w zf_4 0 1 rfl).trans
  (zd_lt0 zf_4 rfl (rfl) ((zd_w zf_4 2 3 rfl).trans
  (zd_ge zf_4 rfl (rfl) ((zd_w zf_4 6 2 rfl).trans
  (zd_ld zf_4 rfl rfl (zd_goto zf_4 rfl (rfl)))))))
theorem e4_44_16 (L : Nat) (o0 : Option Value) (o1 : Option Value) (M : zM) : zden (L + 1) 4 16 [o0, o1] [] M =
  zden (L + 1) 4 17 [o0, o1] [.int 0] M :=
  (zd_w zf_4 10 1 rfl)
theorem e4_44_17 (L : Nat) (o0 : Option Value) (o1 : Option Value) (s0 : Int32) (M : zM) : zden (L + 1) 4 17 [o0, o1] [.int s0] M =
  some (some (.int s0), M) :=
  zd_ri zf_4 rfl zr_4 rfl
theorem e74_26_41_0 (L : Nat)  (M : zM) : zden (L + 1) 74 0 [some (.ref 26), some (.ref 41), none] [] M =
  zbI (zden (L + 1) 0 0 [some (.ref 1), some (.int 7)] [] M) (fun r1 M1 => zbI (zden (L + 1) 4 0 [some (.ref 41), some (.int 2)] [] M1) (fun r2 M2 => if r2 < r1 then (zbV (zden (L + 1) 5 0 [some (.ref 41), some (.int 2), some (.int r1)] [] M2) (fun M3 => zbI (zden (L + 1) 4 0 [some (.ref 41), some (.int 3)] [] M3) (fun r4 M4 => zbI (zden (L + 1) 0 0 [some (.ref 1), some (.int 8)] [] M4) (fun r5 M5 => zbV (zden (L + 1) 5 0 [some (.ref 41), some (.int 3), some (.int (r4 + r5))] [] M5) (fun M6 => some (some (.int 1), M6)))))) else (some (some (.int 0), M2)))) :=
  (zd_w zf_74 0 3 rfl).trans
  (zd_ci zf_74 rfl rfl rfl rfl (fun r1 M1 => (zd_w zf_74 4 3 rfl).trans
  (zd_ci zf_74 rfl rfl rfl rfl (fun r2 M2 => (zd_w zf_74 8 1 rfl).trans
  (zd_lt zf_74 rfl ((zd_w zf_74 12 3 rfl).trans
  (zd_cv zf_74 rfl rfl rfl rfl (fun M3 => (zd_w zf_74 16 4 rfl).trans
  (zd_ci zf_74 rfl rfl rfl rfl (fun r4 M4 => (zd_w zf_74 21 3 rfl).trans
  (zd_ci zf_74 rfl rfl rfl rfl (fun r5 M5 => (zd_w zf_74 25 1 rfl).trans
  (zd_cv zf_74 rfl rfl rfl rfl (fun M6 => (zd_w zf_74 27 1 rfl).trans
  (zd_ri zf_74 rfl zr_74 rfl)))))))))) ((zd_w zf_74 10 1 rfl).trans
  (zd_ri zf_74 rfl zr_74 rfl)))))))
theorem e76_26_41_0 (L : Nat) (v2 : Int32) (M : zM) : zden (L + 1) 76 0 [some (.ref 26), some (.ref 41), some (.int v2), none, none, none, none] [] M =
  zbI (zden (L + 1) 4 0 [some (.ref 41), some (.int 0)] [] M) (fun r1 M1 => zbI (zden (L + 1) 4 0 [some (.ref 41), some (.int 1)] [] M1) (fun r2 M2 => if r2 = 1 then (zden (L + 1) 76 20 [some (.ref 26), some (.ref 41), some (.int v2), some (.int r1), none, none, none] [.int 1] M2) else (zden (L + 1) 76 20 [some (.ref 26), some (.ref 41), some (.int v2), some (.int r1), none, none, none] [.int 0] M2))) :=
  (zd_w zf_76 0 2 rfl).trans
  (zd_ci zf_76 rfl rfl rfl rfl (fun r1 M1 => (zd_w zf_76 3 3 rfl).trans
  (zd_ci zf_76 rfl rfl rfl rfl (fun r2 M2 => (zd_w zf_76 7 1 rfl).trans
  (zd_ne zf_76 rfl ((zd_w zf_76 11 1 rfl)) ((zd_w zf_76 9 1 rfl).trans
  (zd_goto zf_76 rfl (rfl))))))))
theorem e76_26_41_20 (L : Nat) (v2 : Int32) (v3 : Int32) (o4 : Option Value) (o5 : Option Value) (o6 : Option Value) (s0 : Int32) (M : zM) : zden (L + 1) 76 20 [some (.ref 26), some (.ref 41), some (.int v2), some (.int v3), o4, o5, o6] [.int s0] M =
  zbI (zden (L + 1) 57 0 [some (.ref 26), some (.int v3), some (.int s0)] [] M) (fun r1 M1 => zbI (zden (L + 1) 58 0 [some (.ref 1)] [] M1) (fun r2 M2 => zbI (zden (L + 1) 60 0 [some (.ref 26), some (.int r1), some (.int v2), some (.int s0), some (.int r2), none] [] M2) (fun r3 M3 => if v3 < (M3 1 2) then (zbI (zden (L + 1) 61 0 [some (.ref 26), some (.int r1), some (.int v2), some (.int r3), none] [] M3) (fun r4 M4 => if r4 = 0 then (zden (L + 1) 76 82 [some (.ref 26), some (.ref 41), some (.int v2), some (.int v3), some (.int s0), some (.int r1), some (.int r3)] [] M4) else (zbI (zden (L + 1) 4 0 [some (.ref 41), some (.int 2)] [] M4) (fun r5 M5 => if r5 < r3 then (zden (L + 1) 76 82 [some (.ref 26), some (.ref 41), some (.int v2), some (.int v3), some (.int s0), some (.int r1), some (.int r3)] [] M5) else (zbV (zden (L + 1) 5 0 [some (.ref 41), some (.int 0), some (.int (v3 + 1))] [] M5) (fun M6 => zbI (zden (L + 1) 4 0 [some (.ref 41), some (.int 2)] [] M6) (fun r7 M7 => zbI (zden (L + 1) 67 0 [some (.int r3)] [] M7) (fun r8 M8 => zbV (zden (L + 1) 5 0 [some (.ref 41), some (.int 2), some (.int (r7 - r8))] [] M8) (fun M9 => zbI (zden (L + 1) 4 0 [some (.ref 41), some (.int 3)] [] M9) (fun r10 M10 => zbI (zden (L + 1) 68 0 [some (.int v2)] [] M10) (fun r11 M11 => zbV (zden (L + 1) 5 0 [some (.ref 41), some (.int 3), some (.int (r10 + r11))] [] M11) (fun M12 => zbI (zden (L + 1) 62 0 [some (.ref 26), some (.int r1), some (.int v2), some (.int s0), none] [] M12) (fun r13 M13 => zbV (zden (L + 1) 75 0 [some (.ref 26), some (.ref 41), some (.int r13), none] [] M13) (fun M14 => some (some (.int 1), M14))))))))))))))) else (zden (L + 1) 76 82 [some (.ref 26), some (.ref 41), some (.int v2), some (.int v3), some (.int s0), some (.int r1), some (.int r3)] [] M3)))) :=
  (zd_w zf_76 12 4 rfl).trans
  (zd_ci zf_76 rfl rfl rfl rfl (fun r1 M1 => (zd_w zf_76 17 7 rfl).trans
  (zd_ci zf_76 rfl rfl rfl rfl (fun r2 M2 => zd_ci zf_76 rfl rfl rfl rfl (fun r3 M3 => (zd_w zf_76 26 5 rfl).trans
  (zd_ge zf_76 rfl (rfl) ((zd_w zf_76 32 4 rfl).trans
  (zd_ci zf_76 rfl rfl rfl rfl (fun r4 M4 => zd_eq0 zf_76 rfl (rfl) ((zd_w zf_76 38 3 rfl).trans
  (zd_ci zf_76 rfl rfl rfl rfl (fun r5 M5 => zd_le zf_76 rfl ((zd_w zf_76 45 5 rfl).trans
  (zd_cv zf_76 rfl rfl rfl rfl (fun M6 => (zd_w zf_76 51 4 rfl).trans
  (zd_ci zf_76 rfl rfl rfl rfl (fun r7 M7 => (zd_w zf_76 56 1 rfl).trans
  (zd_ci zf_76 rfl rfl rfl rfl (fun r8 M8 => (zd_w zf_76 58 1 rfl).trans
  (zd_cv zf_76 rfl rfl rfl rfl (fun M9 => (zd_w zf_76 60 4 rfl).trans
  (zd_ci zf_76 rfl rfl rfl rfl (fun r10 M10 => (zd_w zf_76 65 1 rfl).trans
  (zd_ci zf_76 rfl rfl rfl rfl (fun r11 M11 => (zd_w zf_76 67 1 rfl).trans
  (zd_cv zf_76 rfl rfl rfl rfl (fun M12 => (zd_w zf_76 69 6 rfl).trans
  (zd_ci zf_76 rfl rfl rfl rfl (fun r13 M13 => zd_cv zf_76 rfl rfl rfl rfl (fun M14 => (zd_w zf_76 77 1 rfl).trans
  (zd_ri zf_76 rfl zr_76 rfl))))))))))))))))))) (rfl)))))))))))))
theorem e76_26_41_82 (L : Nat) (o0 : Option Value) (o1 : Option Value) (o2 : Option Value) (o3 : Option Value) (o4 : Option Value) (o5 : Option Value) (o6 : Option Value) (M : zM) : zden (L + 1) 76 82 [o0, o1, o2, o3, o4, o5, o6] [] M =
  some (some (.int 0), M) :=
  (zd_w zf_76 43 1 rfl).trans
  (zd_ri zf_76 rfl zr_76 rfl)
theorem e19_30_0 (L : Nat) (v1 : Int32) (M : zM) : zden (L + 1) 19 0 [some (.ref 30), some (.int v1), none, none] [] M =
  zden (L + 1) 19 5 [some (.ref 30), some (.int v1), some (.int 0), some (.int 100)] [] M :=
  (zd_w zf_19 0 5 rfl)
theorem e19_30_5 (L : Nat) (v1 : Int32) (v2 : Int32) (v3 : Int32) (M : zM) : zden (L + 1) 19 5 [some (.ref 30), some (.int v1), some (.int v2), some (.int v3)] [] M =
  if v2 < v3 then (if zinb v2 100 = true then (zden (L + 1) 19 5 [some (.ref 30), some (.int v1), some (.int (v2 + 1)), some (.int v3)] [] (zput M 30 v2.toNatClampNeg v1)) else none) else (some (none, M)) :=
  (zd_w zf_19 5 2 rfl).trans
  (zd_ge zf_19 rfl (zd_rv zf_19 rfl) ((zd_w zf_19 8 3 rfl).trans
  (zd_st zf_19 rfl rfl rfl ((zd_w zf_19 12 1 rfl).trans
  (zd_goto zf_19 rfl (rfl))))))
theorem e31_31_30_0 (L : Nat)  (M : zM) : zden (L + 1) 31 0 [some (.ref 31), some (.ref 30), none] [] M =
  zden (L + 1) 31 2 [some (.ref 31), some (.ref 30), some (.int 0)] [] M :=
  (zd_w zf_31 0 2 rfl)
theorem e31_31_30_2 (L : Nat) (v2 : Int32) (M : zM) : zden (L + 1) 31 2 [some (.ref 31), some (.ref 30), some (.int v2)] [] M =
  if v2 < 100 then (if v2 < 100 then (if zinb v2 100 = true then (if zinb v2 100 = true then (zden (L + 1) 31 2 [some (.ref 31), some (.ref 30), some (.int (v2 + 1))] [] (zput M 30 v2.toNatClampNeg (M 31 v2.toNatClampNeg))) else none) else none) else (zden (L + 1) 31 26 [some (.ref 31), some (.ref 30), some (.int v2)] [] M)) else (zden (L + 1) 31 26 [some (.ref 31), some (.ref 30), some (.int v2)] [] M) :=
  (zd_w zf_31 2 3 rfl).trans
  (zd_ge zf_31 rfl (rfl) ((zd_w zf_31 6 3 rfl).trans
  (zd_ge zf_31 rfl (rfl) ((zd_w zf_31 10 4 rfl).trans
  (zd_ld zf_31 rfl rfl (zd_st zf_31 rfl rfl rfl ((zd_w zf_31 16 1 rfl).trans
  (zd_goto zf_31 rfl (rfl)))))))))
theorem e31_31_30_26 (L : Nat) (o0 : Option Value) (o1 : Option Value) (o2 : Option Value) (M : zM) : zden (L + 1) 31 26 [o0, o1, o2] [] M =
  some (none, M) :=
  zd_rv zf_31 rfl
theorem e38_0 (L : Nat) (v0 : Int32) (v1 : Int32) (M : zM) : zden (L + 1) 38 0 [some (.int v0), some (.int v1)] [] M =
  if v1 < v0 then (zden (L + 1) 38 10 [some (.int v0), some (.int v1)] [.int v1] M) else (zden (L + 1) 38 10 [some (.int v0), some (.int v1)] [.int v0] M) :=
  (zd_w zf_38 0 2 rfl).trans
  (zd_gt zf_38 rfl ((zd_w zf_38 5 1 rfl)) ((zd_w zf_38 3 1 rfl).trans
  (zd_goto zf_38 rfl (rfl))))
theorem e38_10 (L : Nat) (o0 : Option Value) (o1 : Option Value) (s0 : Int32) (M : zM) : zden (L + 1) 38 10 [o0, o1] [.int s0] M =
  some (some (.int s0), M) :=
  zd_ri zf_38 rfl zr_38 rfl
theorem e5_31_0 (L : Nat) (v1 : Int32) (v2 : Int32) (M : zM) : zden (L + 1) 5 0 [some (.ref 31), some (.int v1), some (.int v2)] [] M =
  if v1 < 0 then (zden (L + 1) 5 14 [some (.ref 31), some (.int v1), some (.int v2)] [] M) else (if v1 < 100 then (if zinb v1 100 = true then (zden (L + 1) 5 14 [some (.ref 31), some (.int v1), some (.int v2)] [] (zput M 31 v1.toNatClampNeg v2)) else none) else (zden (L + 1) 5 14 [some (.ref 31), some (.int v1), some (.int v2)] [] M)) :=
  (zd_w zf_5 0 1 rfl).trans
  (zd_lt0 zf_5 rfl (rfl) ((zd_w zf_5 2 3 rfl).trans
  (zd_ge zf_5 rfl (rfl) ((zd_w zf_5 6 3 rfl).trans
  (zd_st zf_5 rfl rfl rfl (rfl))))))
theorem e5_31_14 (L : Nat) (o0 : Option Value) (o1 : Option Value) (o2 : Option Value) (M : zM) : zden (L + 1) 5 14 [o0, o1, o2] [] M =
  some (none, M) :=
  zd_rv zf_5 rfl
theorem e87_0 (L : Nat) (v1 : Int32) (v2 : Int32) (v3 : Int32) (M : zM) : zden (L + 1) 87 0 [some (.ref 29), some (.int v1), some (.int v2), some (.int v3), none] [] M =
  zbI (zden (L + 1) 57 0 [some (.ref 26), some (.int v2), some (.int v3)] [] M) (fun r1 M1 => zbV (zden (L + 1) 63 0 [some (.ref 26), some (.int r1), some (.int v3), none, none, none] [] M1) (fun M2 => zden (L + 1) 87 20 [some (.ref 29), some (.int v1), some (.int v2), some (.int v3), some (.int 0)] [] M2)) :=
  (zd_w zf_87 0 6 rfl).trans
  (zd_ci zf_87 rfl rfl rfl rfl (fun r1 M1 => (zd_w zf_87 7 1 rfl).trans
  (zd_cv zf_87 rfl rfl rfl rfl (fun M2 => (zd_w zf_87 9 2 rfl)))))
theorem e87_20 (L : Nat) (v1 : Int32) (o2 : Option Value) (o3 : Option Value) (v4 : Int32) (M : zM) : zden (L + 1) 87 20 [some (.ref 29), some (.int v1), o2, o3, some (.int v4)] [] M =
  if v4 < 3 then (zbI (zden (L + 1) 86 0 [some (.ref 29), some (.int v1), some (.int v4)] [] M) (fun r1 M1 => zbV (zden (L + 1) 5 0 [some (.ref 32), some (.int v4), some (.int r1)] [] M1) (fun M2 => zden (L + 1) 87 20 [some (.ref 29), some (.int v1), o2, (zkl o3), some (.int (v4 + 1))] [] M2))) else (some (none, M)) :=
  (zd_w zf_87 11 2 rfl).trans
  (zd_ge zf_87 rfl (zd_rv zf_87 rfl) ((zd_w zf_87 14 6 rfl).trans
  (zd_ci zf_87 rfl rfl rfl rfl (fun r1 M1 => zd_cv zf_87 rfl rfl rfl rfl (fun M2 => (zd_w zf_87 22 1 rfl).trans
  (zd_goto zf_87 rfl (rfl)))))))
theorem e88_0 (L : Nat) (v1 : Int32) (M : zM) : zden (L + 1) 88 0 [some (.ref 29), some (.int v1)] [] M =
  if v1 = 0 then zden (L + 1) 88 28 [some (.ref 29), some (.int v1)] [] M else (if v1 = 2 then zden (L + 1) 88 38 [some (.ref 29), some (.int v1)] [] M else (zden (L + 1) 88 40 [some (.ref 29), some (.int v1)] [] M)) :=
  (zd_w zf_88 0 1 rfl).trans
  ((zsw_88_1 (lc := [some (.ref 29), some (.int v1)]) (st := [])))
theorem e88_40 (L : Nat) (o0 : Option Value) (o1 : Option Value) (M : zM) : zden (L + 1) 88 40 [o0, o1] [] M =
  some (some (.int 0), M) :=
  (zd_w zf_88 9 1 rfl).trans
  (zd_ri zf_88 rfl zr_88 rfl)
theorem e88_38 (L : Nat) (o0 : Option Value) (o1 : Option Value) (M : zM) : zden (L + 1) 88 38 [o0, o1] [] M =
  some (some (.int 1), M) :=
  (zd_w zf_88 7 1 rfl).trans
  (zd_ri zf_88 rfl zr_88 rfl)
theorem e88_28 (L : Nat) (o1 : Option Value) (M : zM) : zden (L + 1) 88 28 [some (.ref 29), o1] [] M =
  zbI (zden (L + 1) 0 0 [some (.ref 1), some (.int 8)] [] M) (fun r1 M1 => some (some (.int r1), M1)) :=
  (zd_w zf_88 2 3 rfl).trans
  (zd_ci zf_88 rfl rfl rfl rfl (fun r1 M1 => zd_ri zf_88 rfl zr_88 rfl))
theorem e89_0 (L : Nat) (v0 : Int32) (v1 : Int32) (v2 : Int32) (M : zM) : zden (L + 1) 89 0 [some (.int v0), some (.int v1), some (.int v2), none] [] M =
  if v0 = 3 then (zbI (zden (L + 1) 13 0 [some (.int v1), some (.int v2)] [] M) (fun r1 M1 => zden (L + 1) 89 16 [some (.int v0), some (.int v1), some (.int v2), none] [.int r1] M1)) else (zden (L + 1) 89 16 [some (.int v0), some (.int v1), some (.int v2), none] [.int (v1 + v2)] M) :=
  (zd_w zf_89 0 2 rfl).trans
  (zd_ne zf_89 rfl ((zd_w zf_89 7 3 rfl)) ((zd_w zf_89 3 2 rfl).trans
  (zd_ci zf_89 rfl rfl rfl rfl (fun r1 M1 => zd_goto zf_89 rfl (rfl)))))
theorem e89_16 (L : Nat) (o0 : Option Value) (o1 : Option Value) (o2 : Option Value) (o3 : Option Value) (s0 : Int32) (M : zM) : zden (L + 1) 89 16 [o0, o1, o2, o3] [.int s0] M =
  zbI (zden (L + 1) 38 0 [some (.int s0), some (.int 1000000)] [] M) (fun r1 M1 => some (some (.int r1), M1)) :=
  (zd_w zf_89 10 3 rfl).trans
  (zd_ci zf_89 rfl rfl rfl rfl (fun r1 M1 => zd_ri zf_89 rfl zr_89 rfl))
theorem e91_0 (L : Nat) (v1 : Int32) (v2 : Int32) (M : zM) : zden (L + 1) 91 0 [some (.ref 29), some (.int v1), some (.int v2), none, none] [] M =
  zden (L + 1) 91 6 [some (.ref 29), some (.int v1), some (.int v2), some (.int 1000000), some (.int 0)] [] M :=
  (zd_w zf_91 0 4 rfl)
theorem e91_6 (L : Nat) (v1 : Int32) (v2 : Int32) (v3 : Int32) (v4 : Int32) (M : zM) : zden (L + 1) 91 6 [some (.ref 29), some (.int v1), some (.int v2), some (.int v3), some (.int v4)] [] M =
  if v4 < 3 then (zbI (zden (L + 1) 90 0 [some (.ref 29), some (.int v4), some (.int v1), some (.int v2), none] [] M) (fun r1 M1 => zbI (zden (L + 1) 38 0 [some (.int v3), some (.int r1)] [] M1) (fun r2 M2 => zden (L + 1) 91 6 [some (.ref 29), some (.int v1), some (.int v2), some (.int r2), some (.int (v4 + 1))] [] M2))) else (some (some (.int v3), M)) :=
  (zd_w zf_91 4 2 rfl).trans
  (zd_ge zf_91 rfl ((zd_w zf_91 17 1 rfl).trans
  (zd_ri zf_91 rfl zr_91 rfl)) ((zd_w zf_91 7 5 rfl).trans
  (zd_ci zf_91 rfl rfl rfl rfl (fun r1 M1 => zd_ci zf_91 rfl rfl rfl rfl (fun r2 M2 => (zd_w zf_91 14 2 rfl).trans
  (zd_goto zf_91 rfl (rfl)))))))
theorem e90_0 (L : Nat) (v1 : Int32) (v2 : Int32) (v3 : Int32) (M : zM) : zden (L + 1) 90 0 [some (.ref 29), some (.int v1), some (.int v2), some (.int v3), none] [] M =
  zbI (zden (L + 1) 4 0 [some (.ref 27), some (.int v1)] [] M) (fun r1 M1 => if v2 < r1 then (some (some (.int 1000000), M1)) else (zbI (zden (L + 1) 4 0 [some (.ref 32), some (.int v1)] [] M1) (fun r2 M2 => zbI (zden (L + 1) 67 0 [some (.int r1)] [] M2) (fun r3 M3 => zbI (zden (L + 1) 4 0 [some (.ref 30), some (.int (v2 - r3))] [] M3) (fun r4 M4 => zbI (zden (L + 1) 89 0 [some (.int v3), some (.int r2), some (.int r4), none] [] M4) (fun r5 M5 => some (some (.int r5), M5))))))) :=
  (zd_w zf_90 0 4 rfl).trans
  (zd_ci zf_90 rfl rfl rfl rfl (fun r1 M1 => (zd_w zf_90 5 3 rfl).trans
  (zd_le zf_90 rfl ((zd_w zf_90 11 4 rfl).trans
  (zd_ci zf_90 rfl rfl rfl rfl (fun r2 M2 => (zd_w zf_90 16 4 rfl).trans
  (zd_ci zf_90 rfl rfl rfl rfl (fun r3 M3 => (zd_w zf_90 21 1 rfl).trans
  (zd_ci zf_90 rfl rfl rfl rfl (fun r4 M4 => zd_ci zf_90 rfl rfl rfl rfl (fun r5 M5 => zd_ri zf_90 rfl zr_90 rfl)))))))) ((zd_w zf_90 9 1 rfl).trans
  (zd_ri zf_90 rfl zr_90 rfl)))))
theorem e19_34_0 (L : Nat) (v1 : Int32) (M : zM) : zden (L + 1) 19 0 [some (.ref 34), some (.int v1), none, none] [] M =
  zden (L + 1) 19 5 [some (.ref 34), some (.int v1), some (.int 0), some (.int 24100)] [] M :=
  (zd_w zf_19 0 5 rfl)
theorem e19_34_5 (L : Nat) (v1 : Int32) (v2 : Int32) (v3 : Int32) (M : zM) : zden (L + 1) 19 5 [some (.ref 34), some (.int v1), some (.int v2), some (.int v3)] [] M =
  if v2 < v3 then (if zinb v2 24100 = true then (zden (L + 1) 19 5 [some (.ref 34), some (.int v1), some (.int (v2 + 1)), some (.int v3)] [] (zput M 34 v2.toNatClampNeg v1)) else none) else (some (none, M)) :=
  (zd_w zf_19 5 2 rfl).trans
  (zd_ge zf_19 rfl (zd_rv zf_19 rfl) ((zd_w zf_19 8 3 rfl).trans
  (zd_st zf_19 rfl rfl rfl ((zd_w zf_19 12 1 rfl).trans
  (zd_goto zf_19 rfl (rfl))))))
theorem e5_34_0 (L : Nat) (v1 : Int32) (v2 : Int32) (M : zM) : zden (L + 1) 5 0 [some (.ref 34), some (.int v1), some (.int v2)] [] M =
  if v1 < 0 then (zden (L + 1) 5 14 [some (.ref 34), some (.int v1), some (.int v2)] [] M) else (if v1 < 24100 then (if zinb v1 24100 = true then (zden (L + 1) 5 14 [some (.ref 34), some (.int v1), some (.int v2)] [] (zput M 34 v1.toNatClampNeg v2)) else none) else (zden (L + 1) 5 14 [some (.ref 34), some (.int v1), some (.int v2)] [] M)) :=
  (zd_w zf_5 0 1 rfl).trans
  (zd_lt0 zf_5 rfl (rfl) ((zd_w zf_5 2 3 rfl).trans
  (zd_ge zf_5 rfl (rfl) ((zd_w zf_5 6 3 rfl).trans
  (zd_st zf_5 rfl rfl rfl (rfl))))))
theorem e5_34_14 (L : Nat) (o0 : Option Value) (o1 : Option Value) (o2 : Option Value) (M : zM) : zden (L + 1) 5 14 [o0, o1, o2] [] M =
  some (none, M) :=
  zd_rv zf_5 rfl
theorem e57_0 (L : Nat) (v1 : Int32) (v2 : Int32) (M : zM) : zden (L + 1) 57 0 [some (.ref 26), some (.int v1), some (.int v2)] [] M =
  if v2 = 0 then (zden (L + 1) 57 19 [some (.ref 26), some (.int v1), some (.int v2)] [.int v1] M) else (zden (L + 1) 57 19 [some (.ref 26), some (.int v1), some (.int v2)] [.int (((M 1 2) - 1) - v1)] M) :=
  (zd_w zf_57 0 1 rfl).trans
  (zd_eq0 zf_57 rfl ((zd_w zf_57 10 1 rfl)) ((zd_w zf_57 2 7 rfl).trans
  (zd_goto zf_57 rfl (rfl))))
theorem e57_19 (L : Nat) (o0 : Option Value) (o1 : Option Value) (o2 : Option Value) (s0 : Int32) (M : zM) : zden (L + 1) 57 19 [o0, o1, o2] [.int s0] M =
  some (some (.int s0), M) :=
  zd_ri zf_57 rfl zr_57 rfl
theorem e63_0 (L : Nat) (v1 : Int32) (v2 : Int32) (M : zM) : zden (L + 1) 63 0 [some (.ref 26), some (.int v1), some (.int v2), none, none, none] [] M =
  zbI (zden (L + 1) 58 0 [some (.ref 1)] [] M) (fun r1 M1 => zden (L + 1) 63 11 [some (.ref 26), some (.int v1), some (.int v2), some (.int r1), some (.int 0), none] [] M1) :=
  (zd_w zf_63 0 2 rfl).trans
  (zd_ci zf_63 rfl rfl rfl rfl (fun r1 M1 => (zd_w zf_63 3 3 rfl)))
theorem e63_11 (L : Nat) (v1 : Int32) (v2 : Int32) (v3 : Int32) (v4 : Int32) (o5 : Option Value) (M : zM) : zden (L + 1) 63 11 [some (.ref 26), some (.int v1), some (.int v2), some (.int v3), some (.int v4), o5] [] M =
  if v4 < 3 then (zbI (zden (L + 1) 60 0 [some (.ref 26), some (.int v1), some (.int v4), some (.int v2), some (.int v3), none] [] M) (fun r1 M1 => zbI (zden (L + 1) 61 0 [some (.ref 26), some (.int v1), some (.int v4), some (.int r1), none] [] M1) (fun r2 M2 => if r2 = 0 then (zden (L + 1) 63 53 [some (.ref 26), some (.int v1), some (.int v2), some (.int v3), some (.int v4), some (.int r1)] [.int 1000000, .int v4, .ref 27] M2) else (zden (L + 1) 63 53 [some (.ref 26), some (.int v1), some (.int v2), some (.int v3), some (.int v4), some (.int r1)] [.int r1, .int v4, .ref 27] M2)))) else (some (none, M)) :=
  (zd_w zf_63 6 2 rfl).trans
  (zd_ge zf_63 rfl (zd_rv zf_63 rfl) ((zd_w zf_63 9 5 rfl).trans
  (zd_ci zf_63 rfl rfl rfl rfl (fun r1 M1 => (zd_w zf_63 15 8 rfl).trans
  (zd_ci zf_63 rfl rfl rfl rfl (fun r2 M2 => zd_eq0 zf_63 rfl ((zd_w zf_63 27 1 rfl)) ((zd_w zf_63 25 1 rfl).trans
  (zd_goto zf_63 rfl (rfl)))))))))
theorem e63_53 (L : Nat) (v1 : Int32) (v2 : Int32) (v3 : Int32) (v4 : Int32) (o5 : Option Value) (s0 : Int32) (s1 : Int32) (M : zM) : zden (L + 1) 63 53 [some (.ref 26), some (.int v1), some (.int v2), some (.int v3), some (.int v4), o5] [.int s0, .int s1, .ref 27] M =
  zbV (zden (L + 1) 5 0 [some (.ref 27), some (.int s1), some (.int s0)] [] M) (fun M1 => zbI (zden (L + 1) 62 0 [some (.ref 26), some (.int v1), some (.int v4), some (.int v2), none] [] M1) (fun r2 M2 => zbV (zden (L + 1) 5 0 [some (.ref 28), some (.int v4), some (.int r2)] [] M2) (fun M3 => zden (L + 1) 63 11 [some (.ref 26), some (.int v1), some (.int v2), some (.int v3), some (.int (v4 + 1)), o5] [] M3))) :=
  zd_cv zf_63 rfl rfl rfl rfl (fun M1 => (zd_w zf_63 29 7 rfl).trans
  (zd_ci zf_63 rfl rfl rfl rfl (fun r2 M2 => zd_cv zf_63 rfl rfl rfl rfl (fun M3 => (zd_w zf_63 38 1 rfl).trans
  (zd_goto zf_63 rfl (rfl))))))
theorem e65_0 (L : Nat)  (M : zM) : zden (L + 1) 65 0 [some (.ref 33), none, none] [] M =
  zden (L + 1) 65 5 [some (.ref 33), some (.int 1000000), some (.int 0)] [] M :=
  (zd_w zf_65 0 4 rfl)
theorem e65_5 (L : Nat) (v1 : Int32) (v2 : Int32) (M : zM) : zden (L + 1) 65 5 [some (.ref 33), some (.int v1), some (.int v2)] [] M =
  if v2 < 3 then (zbI (zden (L + 1) 64 0 [some (.ref 33), some (.int v2)] [] M) (fun r1 M1 => if r1 = 0 then (zden (L + 1) 65 34 [some (.ref 33), some (.int v1), some (.int v2)] [] M1) else (zbI (zden (L + 1) 4 0 [some (.ref 28), some (.int v2)] [] M1) (fun r2 M2 => zbI (zden (L + 1) 38 0 [some (.int v1), some (.int r2)] [] M2) (fun r3 M3 => zden (L + 1) 65 34 [some (.ref 33), some (.int r3), some (.int v2)] [] M3))))) else (some (some (.int v1), M)) :=
  (zd_w zf_65 4 2 rfl).trans
  (zd_ge zf_65 rfl ((zd_w zf_65 21 1 rfl).trans
  (zd_ri zf_65 rfl zr_65 rfl)) ((zd_w zf_65 7 2 rfl).trans
  (zd_ci zf_65 rfl rfl rfl rfl (fun r1 M1 => zd_eq0 zf_65 rfl (rfl) ((zd_w zf_65 11 5 rfl).trans
  (zd_ci zf_65 rfl rfl rfl rfl (fun r2 M2 => zd_ci zf_65 rfl rfl rfl rfl (fun r3 M3 => (zd_w zf_65 18 1 rfl)))))))))
theorem e65_34 (L : Nat) (v1 : Int32) (v2 : Int32) (M : zM) : zden (L + 1) 65 34 [some (.ref 33), some (.int v1), some (.int v2)] [] M =
  zden (L + 1) 65 5 [some (.ref 33), some (.int v1), some (.int (v2 + 1))] [] M :=
  (zd_w zf_65 19 1 rfl).trans
  (zd_goto zf_65 rfl (rfl))
theorem e70_0 (L : Nat) (v1 : Int32) (v2 : Int32) (v3 : Int32) (v4 : Int32) (M : zM) : zden (L + 1) 70 0 [some (.ref 33), some (.int v1), some (.int v2), some (.int v3), some (.int v4), none, none, none, none] [] M =
  zbI (zden (L + 1) 0 0 [some (.ref 1), some (.int 7)] [] M) (fun r1 M1 => zden (L + 1) 70 14 [some (.ref 33), some (.int v1), some (.int v2), some (.int v3), some (.int v4), some (.int r1), some (.int v1), none, none] [] M1) :=
  (zd_w zf_70 0 3 rfl).trans
  (zd_ci zf_70 rfl rfl rfl rfl (fun r1 M1 => (zd_w zf_70 4 3 rfl)))
theorem e70_14 (L : Nat) (o1 : Option Value) (v2 : Int32) (v3 : Int32) (v4 : Int32) (v5 : Int32) (v6 : Int32) (o7 : Option Value) (o8 : Option Value) (M : zM) : zden (L + 1) 70 14 [some (.ref 33), o1, some (.int v2), some (.int v3), some (.int v4), some (.int v5), some (.int v6), o7, o8] [] M =
  if v6 < 0 then (some (none, M)) else (zbI (zden (L + 1) 66 0 [some (.ref 33), some (.int v6), none, none] [] M) (fun r1 M1 => if r1 < 1000000 then (if v4 = 0 then (zden (L + 1) 70 69 [some (.ref 33), o1, some (.int v2), some (.int v3), some (.int v4), some (.int v5), some (.int v6), some (.int r1), o8] [] M1) else (zbI (zden (L + 1) 0 0 [some (.ref 1), some (.int 8)] [] M1) (fun r2 M2 => zbV (zden (L + 1) 5 0 [some (.ref 34), some (.int ((v6 * 100) + v5)), some (.int (r1 + r2))] [] M2) (fun M3 => zden (L + 1) 70 69 [some (.ref 33), o1, some (.int v2), some (.int v3), some (.int v4), some (.int v5), some (.int v6), some (.int r1), o8] [] M3)))) else (zden (L + 1) 70 95 [some (.ref 33), o1, some (.int v2), some (.int v3), some (.int v4), some (.int v5), some (.int v6), some (.int r1), o8] [] M1))) :=
  (zd_w zf_70 7 1 rfl).trans
  (zd_lt0 zf_70 rfl (zd_rv zf_70 rfl) ((zd_w zf_70 9 2 rfl).trans
  (zd_ci zf_70 rfl rfl rfl rfl (fun r1 M1 => (zd_w zf_70 12 3 rfl).trans
  (zd_lt zf_70 rfl ((zd_w zf_70 17 1 rfl).trans
  (zd_eq0 zf_70 rfl (rfl) ((zd_w zf_70 19 11 rfl).trans
  (zd_ci zf_70 rfl rfl rfl rfl (fun r2 M2 => (zd_w zf_70 31 1 rfl).trans
  (zd_cv zf_70 rfl rfl rfl rfl (fun M3 => rfl))))))) (zd_goto zf_70 rfl (rfl)))))))
theorem e70_69 (L : Nat) (o1 : Option Value) (v2 : Int32) (v3 : Int32) (v4 : Int32) (v5 : Int32) (v6 : Int32) (o7 : Option Value) (o8 : Option Value) (M : zM) : zden (L + 1) 70 69 [some (.ref 33), o1, some (.int v2), some (.int v3), some (.int v4), some (.int v5), some (.int v6), o7, o8] [] M =
  zden (L + 1) 70 72 [some (.ref 33), o1, some (.int v2), some (.int v3), some (.int v4), some (.int v5), some (.int v6), (zkl o7), some (.int 0)] [] M :=
  (zd_w zf_70 33 2 rfl)
theorem e70_95 (L : Nat) (o1 : Option Value) (v2 : Int32) (v3 : Int32) (v4 : Int32) (v5 : Int32) (v6 : Int32) (o7 : Option Value) (o8 : Option Value) (M : zM) : zden (L + 1) 70 95 [some (.ref 33), o1, some (.int v2), some (.int v3), some (.int v4), some (.int v5), some (.int v6), o7, o8] [] M =
  zden (L + 1) 70 14 [some (.ref 33), o1, some (.int v2), some (.int v3), some (.int v4), some (.int v5), some (.int (v6 + (-1))), o7, o8] [] M :=
  (zd_w zf_70 46 1 rfl).trans
  (zd_goto zf_70 rfl (rfl))
theorem e70_72 (L : Nat) (o1 : Option Value) (v2 : Int32) (v3 : Int32) (v4 : Int32) (v5 : Int32) (v6 : Int32) (o7 : Option Value) (v8 : Int32) (M : zM) : zden (L + 1) 70 72 [some (.ref 33), o1, some (.int v2), some (.int v3), some (.int v4), some (.int v5), some (.int v6), o7, some (.int v8)] [] M =
  if v5 < v8 then (zden (L + 1) 70 95 [some (.ref 33), o1, some (.int v2), some (.int v3), some (.int v4), some (.int v5), some (.int v6), o7, some (.int v8)] [] M) else (zbV (zden (L + 1) 69 0 [some (.ref 33), some (.int v6), some (.int v8), some (.int v2), some (.int v3), none, none, none, none, none, none] [] M) (fun M1 => zden (L + 1) 70 72 [some (.ref 33), o1, some (.int v2), some (.int v3), some (.int v4), some (.int v5), some (.int v6), (zkl o7), some (.int (v8 + 1))] [] M1)) :=
  (zd_w zf_70 35 2 rfl).trans
  (zd_gt zf_70 rfl (rfl) ((zd_w zf_70 38 5 rfl).trans
  (zd_cv zf_70 rfl rfl rfl rfl (fun M1 => (zd_w zf_70 44 1 rfl).trans
  (zd_goto zf_70 rfl (rfl))))))
theorem e71_0 (L : Nat)  (M : zM) : zden (L + 1) 71 0 [some (.ref 33), none, none] [] M =
  zden (L + 1) 71 4 [some (.ref 33), some (.int 0), some (.int 0)] [] M :=
  (zd_w zf_71 0 4 rfl)
theorem e71_4 (L : Nat) (v1 : Int32) (v2 : Int32) (M : zM) : zden (L + 1) 71 4 [some (.ref 33), some (.int v1), some (.int v2)] [] M =
  if v2 < 3 then (zbI (zden (L + 1) 64 0 [some (.ref 33), some (.int v2)] [] M) (fun r1 M1 => if r1 = 0 then (zden (L + 1) 71 33 [some (.ref 33), some (.int v1), some (.int v2)] [] M1) else (zbI (zden (L + 1) 4 0 [some (.ref 28), some (.int v2)] [] M1) (fun r2 M2 => zbI (zden (L + 1) 13 0 [some (.int v1), some (.int r2)] [] M2) (fun r3 M3 => zden (L + 1) 71 33 [some (.ref 33), some (.int r3), some (.int v2)] [] M3))))) else (some (some (.int v1), M)) :=
  (zd_w zf_71 4 2 rfl).trans
  (zd_ge zf_71 rfl ((zd_w zf_71 21 1 rfl).trans
  (zd_ri zf_71 rfl zr_71 rfl)) ((zd_w zf_71 7 2 rfl).trans
  (zd_ci zf_71 rfl rfl rfl rfl (fun r1 M1 => zd_eq0 zf_71 rfl (rfl) ((zd_w zf_71 11 5 rfl).trans
  (zd_ci zf_71 rfl rfl rfl rfl (fun r2 M2 => zd_ci zf_71 rfl rfl rfl rfl (fun r3 M3 => (zd_w zf_71 18 1 rfl)))))))))
theorem e71_33 (L : Nat) (v1 : Int32) (v2 : Int32) (M : zM) : zden (L + 1) 71 33 [some (.ref 33), some (.int v1), some (.int v2)] [] M =
  zden (L + 1) 71 4 [some (.ref 33), some (.int v1), some (.int (v2 + 1))] [] M :=
  (zd_w zf_71 19 1 rfl).trans
  (zd_goto zf_71 rfl (rfl))
theorem e72_0 (L : Nat) (v1 : Int32) (M : zM) : zden (L + 1) 72 0 [some (.ref 33), some (.int v1), none, none] [] M =
  zden (L + 1) 72 5 [some (.ref 33), some (.int v1), some (.int 1000000), some (.int 0)] [] M :=
  (zd_w zf_72 0 4 rfl)
theorem e72_5 (L : Nat) (v1 : Int32) (v2 : Int32) (v3 : Int32) (M : zM) : zden (L + 1) 72 5 [some (.ref 33), some (.int v1), some (.int v2), some (.int v3)] [] M =
  if v1 < v3 then (some (some (.int v2), M)) else (zbI (zden (L + 1) 66 0 [some (.ref 33), some (.int v3), none, none] [] M) (fun r1 M1 => zbI (zden (L + 1) 38 0 [some (.int v2), some (.int r1)] [] M1) (fun r2 M2 => zden (L + 1) 72 5 [some (.ref 33), some (.int v1), some (.int r2), some (.int (v3 + 1))] [] M2))) :=
  (zd_w zf_72 4 2 rfl).trans
  (zd_gt zf_72 rfl ((zd_w zf_72 15 1 rfl).trans
  (zd_ri zf_72 rfl zr_72 rfl)) ((zd_w zf_72 7 3 rfl).trans
  (zd_ci zf_72 rfl rfl rfl rfl (fun r1 M1 => zd_ci zf_72 rfl rfl rfl rfl (fun r2 M2 => (zd_w zf_72 12 2 rfl).trans
  (zd_goto zf_72 rfl (rfl)))))))
theorem e80_0 (L : Nat) (v1 : Int32) (v2 : Int32) (M : zM) : zden (L + 1) 80 0 [some (.ref 35), some (.int v1), some (.int v2), none, none, none, none, none, none, none, none, none] [] M =
  zbI (zden (L + 1) 4 0 [some (.ref 5), some (.int v1)] [] M) (fun r1 M1 => zbI (zden (L + 1) 0 0 [some (.ref 1), some (.int 7)] [] M1) (fun r2 M2 => zbI (zden (L + 1) 58 0 [some (.ref 1)] [] M2) (fun r3 M3 => zden (L + 1) 80 38 [some (.ref 35), some (.int v1), some (.int v2), some (.int r1), some (.int r2), some (.int r3), some (.int 0), some (.int 0), none, none, none, none] [] M3))) :=
  (zd_w zf_80 0 4 rfl).trans
  (zd_ci zf_80 rfl rfl rfl rfl (fun r1 M1 => (zd_w zf_80 5 4 rfl).trans
  (zd_ci zf_80 rfl rfl rfl rfl (fun r2 M2 => (zd_w zf_80 10 3 rfl).trans
  (zd_ci zf_80 rfl rfl rfl rfl (fun r3 M3 => (zd_w zf_80 14 5 rfl)))))))
theorem e80_38 (L : Nat) (o1 : Option Value) (v2 : Int32) (v3 : Int32) (v4 : Int32) (v5 : Int32) (v6 : Int32) (v7 : Int32) (o8 : Option Value) (o9 : Option Value) (o10 : Option Value) (o11 : Option Value) (M : zM) : zden (L + 1) 80 38 [some (.ref 35), o1, some (.int v2), some (.int v3), some (.int v4), some (.int v5), some (.int v6), some (.int v7), o8, o9, o10, o11] [] M =
  if v7 < (M 1 2) then (zbI (zden (L + 1) 79 0 [some (.ref 35), some (.int v7), some (.int v5), none] [] M) (fun r1 M1 => if v2 = 0 then (zden (L + 1) 80 82 [some (.ref 35), o1, some (.int v2), some (.int v3), some (.int v4), some (.int v5), some (.int v6), some (.int v7), some (.int r1), some (.int (v5 - r1)), o10, o11] [.int v4, .int (100 * r1)] M1) else (zden (L + 1) 80 82 [some (.ref 35), o1, some (.int v2), some (.int v3), some (.int v4), some (.int v5), some (.int v6), some (.int v7), some (.int r1), some (.int (v5 - r1)), o10, o11] [.int v3, .int (100 * r1)] M1))) else (some (some (.int v6), M)) :=
  (zd_w zf_80 19 4 rfl).trans
  (zd_ge zf_80 rfl ((zd_w zf_80 61 1 rfl).trans
  (zd_ri zf_80 rfl zr_80 rfl)) ((zd_w zf_80 24 3 rfl).trans
  (zd_ci zf_80 rfl rfl rfl rfl (fun r1 M1 => (zd_w zf_80 28 9 rfl).trans
  (zd_eq0 zf_80 rfl ((zd_w zf_80 40 1 rfl)) ((zd_w zf_80 38 1 rfl).trans
  (zd_goto zf_80 rfl (rfl))))))))
theorem e80_82 (L : Nat) (o1 : Option Value) (v2 : Int32) (v3 : Int32) (v4 : Int32) (v5 : Int32) (v6 : Int32) (v7 : Int32) (o8 : Option Value) (v9 : Int32) (o10 : Option Value) (o11 : Option Value) (s0 : Int32) (s1 : Int32) (M : zM) : zden (L + 1) 80 82 [some (.ref 35), o1, some (.int v2), some (.int v3), some (.int v4), some (.int v5), some (.int v6), some (.int v7), o8, some (.int v9), o10, o11] [.int s0, .int s1] M =
  zbI (zden (L + 1) 59 0 [some (.int s1), some (.int s0)] [] M) (fun r1 M1 => if v2 = 0 then (zden (L + 1) 80 102 [some (.ref 35), o1, some (.int v2), some (.int v3), some (.int v4), some (.int v5), some (.int v6), some (.int v7), o8, some (.int v9), some (.int r1), o11] [.int v3, .int (100 * v9)] M1) else (zden (L + 1) 80 102 [some (.ref 35), o1, some (.int v2), some (.int v3), some (.int v4), some (.int v5), some (.int v6), some (.int v7), o8, some (.int v9), some (.int r1), o11] [.int v4, .int (100 * v9)] M1)) :=
  zd_ci zf_80 rfl rfl rfl rfl (fun r1 M1 => (zd_w zf_80 42 5 rfl).trans
  (zd_eq0 zf_80 rfl ((zd_w zf_80 50 1 rfl)) ((zd_w zf_80 48 1 rfl).trans
  (zd_goto zf_80 rfl (rfl)))))
theorem e80_102 (L : Nat) (o1 : Option Value) (v2 : Int32) (v3 : Int32) (v4 : Int32) (v5 : Int32) (v6 : Int32) (v7 : Int32) (o8 : Option Value) (o9 : Option Value) (v10 : Int32) (o11 : Option Value) (s0 : Int32) (s1 : Int32) (M : zM) : zden (L + 1) 80 102 [some (.ref 35), o1, some (.int v2), some (.int v3), some (.int v4), some (.int v5), some (.int v6), some (.int v7), o8, o9, some (.int v10), o11] [.int s0, .int s1] M =
  zbI (zden (L + 1) 59 0 [some (.int s1), some (.int s0)] [] M) (fun r1 M1 => zbI (zden (L + 1) 13 0 [some (.int v10), some (.int r1)] [] M1) (fun r2 M2 => zbI (zden (L + 1) 13 0 [some (.int v6), some (.int r2)] [] M2) (fun r3 M3 => zden (L + 1) 80 38 [some (.ref 35), o1, some (.int v2), some (.int v3), some (.int v4), some (.int v5), some (.int r3), some (.int (v7 + 1)), o8, o9, some (.int v10), some (.int r1)] [] M3))) :=
  zd_ci zf_80 rfl rfl rfl rfl (fun r1 M1 => (zd_w zf_80 52 4 rfl).trans
  (zd_ci zf_80 rfl rfl rfl rfl (fun r2 M2 => zd_ci zf_80 rfl rfl rfl rfl (fun r3 M3 => (zd_w zf_80 58 2 rfl).trans
  (zd_goto zf_80 rfl (rfl))))))
theorem e13_0 (L : Nat) (v0 : Int32) (v1 : Int32) (M : zM) : zden (L + 1) 13 0 [some (.int v0), some (.int v1)] [] M =
  if v0 < v1 then (zden (L + 1) 13 10 [some (.int v0), some (.int v1)] [.int v1] M) else (zden (L + 1) 13 10 [some (.int v0), some (.int v1)] [.int v0] M) :=
  (zd_w zf_13 0 2 rfl).trans
  (zd_lt zf_13 rfl ((zd_w zf_13 5 1 rfl)) ((zd_w zf_13 3 1 rfl).trans
  (zd_goto zf_13 rfl (rfl))))
theorem e13_10 (L : Nat) (o0 : Option Value) (o1 : Option Value) (s0 : Int32) (M : zM) : zden (L + 1) 13 10 [o0, o1] [.int s0] M =
  some (some (.int s0), M) :=
  zd_ri zf_13 rfl zr_13 rfl
theorem e84_0 (L : Nat) (v0 : Int32) (v1 : Int32) (M : zM) : zden (L + 1) 84 0 [some (.int v0), some (.int v1), none, none] [] M =
  zden (L + 1) 84 4 [some (.int v0), some (.int v1), some (.int 1), some (.int 2)] [] M :=
  (zd_w zf_84 0 4 rfl)
theorem e84_4 (L : Nat) (v0 : Int32) (v1 : Int32) (v2 : Int32) (v3 : Int32) (M : zM) : zden (L + 1) 84 4 [some (.int v0), some (.int v1), some (.int v2), some (.int v3)] [] M =
  if 10 < v3 then (some (some (.int v2), M)) else (if v3 = 0 then none else (if (v0 - v0 / v3 * v3) = 0 then (if v3 = 0 then none else (if (v1 - v1 / v3 * v3) = 0 then (zden (L + 1) 84 24 [some (.int v0), some (.int v1), some (.int v3), some (.int v3)] [] M) else (zden (L + 1) 84 24 [some (.int v0), some (.int v1), some (.int v2), some (.int v3)] [] M))) else (zden (L + 1) 84 24 [some (.int v0), some (.int v1), some (.int v2), some (.int v3)] [] M))) :=
  (zd_w zf_84 4 2 rfl).trans
  (zd_gt zf_84 rfl ((zd_w zf_84 19 1 rfl).trans
  (zd_ri zf_84 rfl zr_84 rfl)) ((zd_w zf_84 7 2 rfl).trans
  (zd_rem zf_84 rfl (zd_ne0 zf_84 rfl (rfl) ((zd_w zf_84 11 2 rfl).trans
  (zd_rem zf_84 rfl (zd_ne0 zf_84 rfl (rfl) ((zd_w zf_84 15 2 rfl)))))))))
theorem e84_24 (L : Nat) (v0 : Int32) (v1 : Int32) (v2 : Int32) (v3 : Int32) (M : zM) : zden (L + 1) 84 24 [some (.int v0), some (.int v1), some (.int v2), some (.int v3)] [] M =
  zden (L + 1) 84 4 [some (.int v0), some (.int v1), some (.int v2), some (.int (v3 + 1))] [] M :=
  (zd_w zf_84 17 1 rfl).trans
  (zd_goto zf_84 rfl (rfl))
theorem e1_0 (L : Nat) (v1 : Int32) (M : zM) : zden (L + 1) 1 0 [some (.ref 36), some (.int v1), none, none, none] [] M =
  if 0 < v1 then (zbI (zden (L + 1) 0 0 [some (.ref 1), some (.int 9)] [] M) (fun r1 M1 => if v1 = 0 then none else (zden (L + 1) 1 28 [some (.ref 36), some (.int v1), some (.int ((10 * r1) / v1)), some (.int 1000), some (.int 0)] [] M1))) else (some (some (.int 0), M)) :=
  (zd_w zf_1 0 1 rfl).trans
  (zd_gt0 zf_1 rfl ((zd_w zf_1 4 4 rfl).trans
  (zd_ci zf_1 rfl rfl rfl rfl (fun r1 M1 => (zd_w zf_1 9 2 rfl).trans
  (zd_div zf_1 rfl ((zd_w zf_1 12 5 rfl)))))) ((zd_w zf_1 2 1 rfl).trans
  (zd_ri zf_1 rfl zr_1 rfl)))
theorem e1_28 (L : Nat) (o0 : Option Value) (v1 : Int32) (v2 : Int32) (v3 : Int32) (v4 : Int32) (M : zM) : zden (L + 1) 1 28 [o0, some (.int v1), some (.int v2), some (.int v3), some (.int v4)] [] M =
  if v4 < v1 then (zden (L + 1) 1 28 [o0, some (.int v1), some (.int v2), some (.int ((v3 * (1000 - v2)) / 1000)), some (.int (v4 + 1))] [] M) else (some (some (.int (1000 - v3)), M)) :=
  (zd_w zf_1 17 2 rfl).trans
  (zd_ge zf_1 rfl ((zd_w zf_1 30 3 rfl).trans
  (zd_ri zf_1 rfl zr_1 rfl)) ((zd_w zf_1 20 9 rfl).trans
  (zd_goto zf_1 rfl (rfl))))
theorem e7_0 (L : Nat) (v1 : Int32) (v2 : Int32) (M : zM) : zden (L + 1) 7 0 [some (.ref 36), some (.int v1), some (.int v2)] [] M =
  zbI (zden (L + 1) 4 0 [some (.ref 37), some (.int ((v1 + (v2 / 60)) - (v1 + (v2 / 60)) / 24 * 24))] [] M) (fun r1 M1 => some (some (.int r1), M1)) :=
  (zd_w zf_7 0 9 rfl).trans
  (zd_ci zf_7 rfl rfl rfl rfl (fun r1 M1 => zd_ri zf_7 rfl zr_7 rfl))
theorem e4_37_0 (L : Nat) (v1 : Int32) (M : zM) : zden (L + 1) 4 0 [some (.ref 37), some (.int v1)] [] M =
  if v1 < 0 then (zden (L + 1) 4 16 [some (.ref 37), some (.int v1)] [] M) else (if v1 < 24 then (if zinb v1 24 = true then (zden (L + 1) 4 17 [some (.ref 37), some (.int v1)] [.int (M 37 v1.toNatClampNeg)] M) else none) else (zden (L + 1) 4 16 [some (.ref 37), some (.int v1)] [] M)) :=
  (zd_w zf_4 0 1 rfl).trans
  (zd_lt0 zf_4 rfl (rfl) ((zd_w zf_4 2 3 rfl).trans
  (zd_ge zf_4 rfl (rfl) ((zd_w zf_4 6 2 rfl).trans
  (zd_ld zf_4 rfl rfl (zd_goto zf_4 rfl (rfl)))))))
theorem e4_37_16 (L : Nat) (o0 : Option Value) (o1 : Option Value) (M : zM) : zden (L + 1) 4 16 [o0, o1] [] M =
  zden (L + 1) 4 17 [o0, o1] [.int 0] M :=
  (zd_w zf_4 10 1 rfl)
theorem e4_37_17 (L : Nat) (o0 : Option Value) (o1 : Option Value) (s0 : Int32) (M : zM) : zden (L + 1) 4 17 [o0, o1] [.int s0] M =
  some (some (.int s0), M) :=
  zd_ri zf_4 rfl zr_4 rfl
theorem e4_39_0 (L : Nat) (v1 : Int32) (M : zM) : zden (L + 1) 4 0 [some (.ref 39), some (.int v1)] [] M =
  if v1 < 0 then (zden (L + 1) 4 16 [some (.ref 39), some (.int v1)] [] M) else (if v1 < 49 then (if zinb v1 49 = true then (zden (L + 1) 4 17 [some (.ref 39), some (.int v1)] [.int (M 39 v1.toNatClampNeg)] M) else none) else (zden (L + 1) 4 16 [some (.ref 39), some (.int v1)] [] M)) :=
  (zd_w zf_4 0 1 rfl).trans
  (zd_lt0 zf_4 rfl (rfl) ((zd_w zf_4 2 3 rfl).trans
  (zd_ge zf_4 rfl (rfl) ((zd_w zf_4 6 2 rfl).trans
  (zd_ld zf_4 rfl rfl (zd_goto zf_4 rfl (rfl)))))))
theorem e4_39_16 (L : Nat) (o0 : Option Value) (o1 : Option Value) (M : zM) : zden (L + 1) 4 16 [o0, o1] [] M =
  zden (L + 1) 4 17 [o0, o1] [.int 0] M :=
  (zd_w zf_4 10 1 rfl)
theorem e4_39_17 (L : Nat) (o0 : Option Value) (o1 : Option Value) (s0 : Int32) (M : zM) : zden (L + 1) 4 17 [o0, o1] [.int s0] M =
  some (some (.int s0), M) :=
  zd_ri zf_4 rfl zr_4 rfl
theorem e19_39_0 (L : Nat) (v1 : Int32) (M : zM) : zden (L + 1) 19 0 [some (.ref 39), some (.int v1), none, none] [] M =
  zden (L + 1) 19 5 [some (.ref 39), some (.int v1), some (.int 0), some (.int 49)] [] M :=
  (zd_w zf_19 0 5 rfl)
theorem e19_39_5 (L : Nat) (v1 : Int32) (v2 : Int32) (v3 : Int32) (M : zM) : zden (L + 1) 19 5 [some (.ref 39), some (.int v1), some (.int v2), some (.int v3)] [] M =
  if v2 < v3 then (if zinb v2 49 = true then (zden (L + 1) 19 5 [some (.ref 39), some (.int v1), some (.int (v2 + 1)), some (.int v3)] [] (zput M 39 v2.toNatClampNeg v1)) else none) else (some (none, M)) :=
  (zd_w zf_19 5 2 rfl).trans
  (zd_ge zf_19 rfl (zd_rv zf_19 rfl) ((zd_w zf_19 8 3 rfl).trans
  (zd_st zf_19 rfl rfl rfl ((zd_w zf_19 12 1 rfl).trans
  (zd_goto zf_19 rfl (rfl))))))
theorem e21_0 (L : Nat) (v1 : Int32) (v2 : Int32) (v3 : Int32) (M : zM) : zden (L + 1) 21 0 [some (.ref 38), some (.int v1), some (.int v2), some (.int v3)] [] M =
  zbI (zden (L + 1) 20 0 [some (.ref 38), some (.int v1), some (.int v2)] [] M) (fun r1 M1 => if v3 < r1 then (zbV (zden (L + 1) 5 0 [some (.ref 39), some (.int ((v1 * 7) + v2)), some (.int v3)] [] M1) (fun M2 => zbV (zden (L + 1) 5 0 [some (.ref 39), some (.int ((v2 * 7) + v1)), some (.int v3)] [] M2) (fun M3 => zden (L + 1) 21 38 [some (.ref 38), some (.int v1), some (.int v2), some (.int v3)] [] M3))) else (zden (L + 1) 21 38 [some (.ref 38), some (.int v1), some (.int v2), some (.int v3)] [] M1)) :=
  (zd_w zf_21 0 4 rfl).trans
  (zd_ci zf_21 rfl rfl rfl rfl (fun r1 M1 => zd_ge zf_21 rfl (rfl) ((zd_w zf_21 6 8 rfl).trans
  (zd_cv zf_21 rfl rfl rfl rfl (fun M2 => (zd_w zf_21 15 8 rfl).trans
  (zd_cv zf_21 rfl rfl rfl rfl (fun M3 => rfl)))))))
theorem e21_38 (L : Nat) (o0 : Option Value) (o1 : Option Value) (o2 : Option Value) (o3 : Option Value) (M : zM) : zden (L + 1) 21 38 [o0, o1, o2, o3] [] M =
  some (none, M) :=
  zd_rv zf_21 rfl
theorem e4_10_0 (L : Nat) (v1 : Int32) (M : zM) : zden (L + 1) 4 0 [some (.ref 10), some (.int v1)] [] M =
  if v1 < 0 then (zden (L + 1) 4 16 [some (.ref 10), some (.int v1)] [] M) else (if v1 < 10 then (if zinb v1 10 = true then (zden (L + 1) 4 17 [some (.ref 10), some (.int v1)] [.int (M 10 v1.toNatClampNeg)] M) else none) else (zden (L + 1) 4 16 [some (.ref 10), some (.int v1)] [] M)) :=
  (zd_w zf_4 0 1 rfl).trans
  (zd_lt0 zf_4 rfl (rfl) ((zd_w zf_4 2 3 rfl).trans
  (zd_ge zf_4 rfl (rfl) ((zd_w zf_4 6 2 rfl).trans
  (zd_ld zf_4 rfl rfl (zd_goto zf_4 rfl (rfl)))))))
theorem e4_10_16 (L : Nat) (o0 : Option Value) (o1 : Option Value) (M : zM) : zden (L + 1) 4 16 [o0, o1] [] M =
  zden (L + 1) 4 17 [o0, o1] [.int 0] M :=
  (zd_w zf_4 10 1 rfl)
theorem e4_10_17 (L : Nat) (o0 : Option Value) (o1 : Option Value) (s0 : Int32) (M : zM) : zden (L + 1) 4 17 [o0, o1] [.int s0] M =
  some (some (.int s0), M) :=
  zd_ri zf_4 rfl zr_4 rfl
theorem e4_11_0 (L : Nat) (v1 : Int32) (M : zM) : zden (L + 1) 4 0 [some (.ref 11), some (.int v1)] [] M =
  if v1 < 0 then (zden (L + 1) 4 16 [some (.ref 11), some (.int v1)] [] M) else (if v1 < 10 then (if zinb v1 10 = true then (zden (L + 1) 4 17 [some (.ref 11), some (.int v1)] [.int (M 11 v1.toNatClampNeg)] M) else none) else (zden (L + 1) 4 16 [some (.ref 11), some (.int v1)] [] M)) :=
  (zd_w zf_4 0 1 rfl).trans
  (zd_lt0 zf_4 rfl (rfl) ((zd_w zf_4 2 3 rfl).trans
  (zd_ge zf_4 rfl (rfl) ((zd_w zf_4 6 2 rfl).trans
  (zd_ld zf_4 rfl rfl (zd_goto zf_4 rfl (rfl)))))))
theorem e4_11_16 (L : Nat) (o0 : Option Value) (o1 : Option Value) (M : zM) : zden (L + 1) 4 16 [o0, o1] [] M =
  zden (L + 1) 4 17 [o0, o1] [.int 0] M :=
  (zd_w zf_4 10 1 rfl)
theorem e4_11_17 (L : Nat) (o0 : Option Value) (o1 : Option Value) (s0 : Int32) (M : zM) : zden (L + 1) 4 17 [o0, o1] [.int s0] M =
  some (some (.int s0), M) :=
  zd_ri zf_4 rfl zr_4 rfl
theorem e4_9_0 (L : Nat) (v1 : Int32) (M : zM) : zden (L + 1) 4 0 [some (.ref 9), some (.int v1)] [] M =
  if v1 < 0 then (zden (L + 1) 4 16 [some (.ref 9), some (.int v1)] [] M) else (if v1 < 10 then (if zinb v1 10 = true then (zden (L + 1) 4 17 [some (.ref 9), some (.int v1)] [.int (M 9 v1.toNatClampNeg)] M) else none) else (zden (L + 1) 4 16 [some (.ref 9), some (.int v1)] [] M)) :=
  (zd_w zf_4 0 1 rfl).trans
  (zd_lt0 zf_4 rfl (rfl) ((zd_w zf_4 2 3 rfl).trans
  (zd_ge zf_4 rfl (rfl) ((zd_w zf_4 6 2 rfl).trans
  (zd_ld zf_4 rfl rfl (zd_goto zf_4 rfl (rfl)))))))
theorem e4_9_16 (L : Nat) (o0 : Option Value) (o1 : Option Value) (M : zM) : zden (L + 1) 4 16 [o0, o1] [] M =
  zden (L + 1) 4 17 [o0, o1] [.int 0] M :=
  (zd_w zf_4 10 1 rfl)
theorem e4_9_17 (L : Nat) (o0 : Option Value) (o1 : Option Value) (s0 : Int32) (M : zM) : zden (L + 1) 4 17 [o0, o1] [.int s0] M =
  some (some (.int s0), M) :=
  zd_ri zf_4 rfl zr_4 rfl
theorem e23_0 (L : Nat) (v1 : Int32) (v2 : Int32) (M : zM) : zden (L + 1) 23 0 [some (.ref 38), some (.int v1), some (.int v2)] [] M =
  zbI (zden (L + 1) 18 0 [some (.int v2), some (.int v1)] [] M) (fun r1 M1 => if r1 = 0 then (zbI (zden (L + 1) 4 0 [some (.ref 8), some (.int v1)] [] M1) (fun r2 M2 => zden (L + 1) 23 23 [some (.ref 38), some (.int v1), some (.int v2)] [.int r2] M2)) else (zden (L + 1) 23 23 [some (.ref 38), some (.int v1), some (.int v2)] [.int 0] M1)) :=
  (zd_w zf_23 0 2 rfl).trans
  (zd_ci zf_23 rfl rfl rfl rfl (fun r1 M1 => zd_eq0 zf_23 rfl ((zd_w zf_23 6 4 rfl).trans
  (zd_ci zf_23 rfl rfl rfl rfl (fun r2 M2 => rfl))) ((zd_w zf_23 4 1 rfl).trans
  (zd_goto zf_23 rfl (rfl)))))
theorem e23_23 (L : Nat) (o0 : Option Value) (o1 : Option Value) (o2 : Option Value) (s0 : Int32) (M : zM) : zden (L + 1) 23 23 [o0, o1, o2] [.int s0] M =
  some (some (.int s0), M) :=
  zd_ri zf_23 rfl zr_23 rfl
theorem e78_0 (L : Nat) (v1 : Int32) (v2 : Int32) (M : zM) : zden (L + 1) 78 0 [some (.ref 26), some (.int v1), some (.int v2), none] [] M =
  zden (L + 1) 78 2 [some (.ref 26), some (.int v1), some (.int v2), some (.int 0)] [] M :=
  (zd_w zf_78 0 2 rfl)
theorem e78_2 (L : Nat) (v1 : Int32) (v2 : Int32) (v3 : Int32) (M : zM) : zden (L + 1) 78 2 [some (.ref 26), some (.int v1), some (.int v2), some (.int v3)] [] M =
  if v3 < (M 1 2) then (zbI (zden (L + 1) 60 0 [some (.ref 26), some (.int v3), some (.int 2), some (.int v1), some (.int v2), none] [] M) (fun r1 M1 => zbI (zden (L + 1) 0 0 [some (.ref 1), some (.int 7)] [] M1) (fun r2 M2 => if r2 < r1 then (some (some (.int 0), M2)) else (zden (L + 1) 78 2 [some (.ref 26), some (.int v1), some (.int v2), some (.int (v3 + 1))] [] M2)))) else (some (some (.int 1), M)) :=
  (zd_w zf_78 2 4 rfl).trans
  (zd_ge zf_78 rfl ((zd_w zf_78 22 1 rfl).trans
  (zd_ri zf_78 rfl zr_78 rfl)) ((zd_w zf_78 7 5 rfl).trans
  (zd_ci zf_78 rfl rfl rfl rfl (fun r1 M1 => (zd_w zf_78 13 3 rfl).trans
  (zd_ci zf_78 rfl rfl rfl rfl (fun r2 M2 => zd_le zf_78 rfl ((zd_w zf_78 20 1 rfl).trans
  (zd_goto zf_78 rfl (rfl))) ((zd_w zf_78 18 1 rfl).trans
  (zd_ri zf_78 rfl zr_78 rfl))))))))
theorem e11_0 (L : Nat) (v0 : Int32) (v1 : Int32) (M : zM) : zden (L + 1) 11 0 [some (.int v0), some (.int v1), none, none] [] M =
  some (some (.int (((((((7919 * v0.toInt64) + (6151 * v1.toInt64)) + 1) * (((7919 * v0.toInt64) + (6151 * v1.toInt64)) + 1)) - ((((7919 * v0.toInt64) + (6151 * v1.toInt64)) + 1) * (((7919 * v0.toInt64) + (6151 * v1.toInt64)) + 1)) / 65521 * 65521) - (((((7919 * v0.toInt64) + (6151 * v1.toInt64)) + 1) * (((7919 * v0.toInt64) + (6151 * v1.toInt64)) + 1)) - ((((7919 * v0.toInt64) + (6151 * v1.toInt64)) + 1) * (((7919 * v0.toInt64) + (6151 * v1.toInt64)) + 1)) / 65521 * 65521) / 1000 * 1000).toInt32)), M) :=
  (zd_w zf_11 0 20 rfl).trans
  (zd_ri zf_11 rfl zr_11 rfl)
theorem e5_37_0 (L : Nat) (v1 : Int32) (v2 : Int32) (M : zM) : zden (L + 1) 5 0 [some (.ref 37), some (.int v1), some (.int v2)] [] M =
  if v1 < 0 then (zden (L + 1) 5 14 [some (.ref 37), some (.int v1), some (.int v2)] [] M) else (if v1 < 24 then (if zinb v1 24 = true then (zden (L + 1) 5 14 [some (.ref 37), some (.int v1), some (.int v2)] [] (zput M 37 v1.toNatClampNeg v2)) else none) else (zden (L + 1) 5 14 [some (.ref 37), some (.int v1), some (.int v2)] [] M)) :=
  (zd_w zf_5 0 1 rfl).trans
  (zd_lt0 zf_5 rfl (rfl) ((zd_w zf_5 2 3 rfl).trans
  (zd_ge zf_5 rfl (rfl) ((zd_w zf_5 6 3 rfl).trans
  (zd_st zf_5 rfl rfl rfl (rfl))))))
theorem e5_37_14 (L : Nat) (o0 : Option Value) (o1 : Option Value) (o2 : Option Value) (M : zM) : zden (L + 1) 5 14 [o0, o1, o2] [] M =
  some (none, M) :=
  zd_rv zf_5 rfl
theorem e15_45_0 (L : Nat)  (M : zM) : zden (L + 1) 15 0 [some (.ref 45), none] [] M =
  zden (L + 1) 15 5 [some (.ref 45), some (.int (M 45 1))] [] M :=
  (zd_w zf_15 0 3 rfl)
theorem e15_45_5 (L : Nat) (v1 : Int32) (M : zM) : zden (L + 1) 15 5 [some (.ref 45), some (.int v1)] [] M =
  if v1 < ((M 45 3) * (M 45 1)) then (zbI (zden (L + 1) 4 0 [some (.ref 46), some (.int v1)] [] M) (fun r1 M1 => zbV (zden (L + 1) 5 0 [some (.ref 46), some (.int (v1 - (M 45 1))), some (.int r1)] [] M1) (fun M2 => zden (L + 1) 15 5 [some (.ref 45), some (.int (v1 + 1))] [] M2))) else (some (none, zput M 45 3 ((M 45 3) - 1))) :=
  (zd_w zf_15 3 6 rfl).trans
  (zd_ge zf_15 rfl ((zd_w zf_15 23 6 rfl).trans
  (zd_rv zf_15 rfl)) ((zd_w zf_15 10 9 rfl).trans
  (zd_ci zf_15 rfl rfl rfl rfl (fun r1 M1 => zd_cv zf_15 rfl rfl rfl rfl (fun M2 => (zd_w zf_15 21 1 rfl).trans
  (zd_goto zf_15 rfl (rfl)))))))
theorem e5_46_0 (L : Nat) (v1 : Int32) (v2 : Int32) (M : zM) : zden (L + 1) 5 0 [some (.ref 46), some (.int v1), some (.int v2)] [] M =
  if v1 < 0 then (zden (L + 1) 5 14 [some (.ref 46), some (.int v1), some (.int v2)] [] M) else (if v1 < 16 then (if zinb v1 16 = true then (zden (L + 1) 5 14 [some (.ref 46), some (.int v1), some (.int v2)] [] (zput M 46 v1.toNatClampNeg v2)) else none) else (zden (L + 1) 5 14 [some (.ref 46), some (.int v1), some (.int v2)] [] M)) :=
  (zd_w zf_5 0 1 rfl).trans
  (zd_lt0 zf_5 rfl (rfl) ((zd_w zf_5 2 3 rfl).trans
  (zd_ge zf_5 rfl (rfl) ((zd_w zf_5 6 3 rfl).trans
  (zd_st zf_5 rfl rfl rfl (rfl))))))
theorem e5_46_14 (L : Nat) (o0 : Option Value) (o1 : Option Value) (o2 : Option Value) (M : zM) : zden (L + 1) 5 14 [o0, o1, o2] [] M =
  some (none, M) :=
  zd_rv zf_5 rfl
theorem e4_46_0 (L : Nat) (v1 : Int32) (M : zM) : zden (L + 1) 4 0 [some (.ref 46), some (.int v1)] [] M =
  if v1 < 0 then (zden (L + 1) 4 16 [some (.ref 46), some (.int v1)] [] M) else (if v1 < 16 then (if zinb v1 16 = true then (zden (L + 1) 4 17 [some (.ref 46), some (.int v1)] [.int (M 46 v1.toNatClampNeg)] M) else none) else (zden (L + 1) 4 16 [some (.ref 46), some (.int v1)] [] M)) :=
  (zd_w zf_4 0 1 rfl).trans
  (zd_lt0 zf_4 rfl (rfl) ((zd_w zf_4 2 3 rfl).trans
  (zd_ge zf_4 rfl (rfl) ((zd_w zf_4 6 2 rfl).trans
  (zd_ld zf_4 rfl rfl (zd_goto zf_4 rfl (rfl)))))))
theorem e4_46_16 (L : Nat) (o0 : Option Value) (o1 : Option Value) (M : zM) : zden (L + 1) 4 16 [o0, o1] [] M =
  zden (L + 1) 4 17 [o0, o1] [.int 0] M :=
  (zd_w zf_4 10 1 rfl)
theorem e4_46_17 (L : Nat) (o0 : Option Value) (o1 : Option Value) (s0 : Int32) (M : zM) : zden (L + 1) 4 17 [o0, o1] [.int s0] M =
  some (some (.int s0), M) :=
  zd_ri zf_4 rfl zr_4 rfl
theorem e141_50_0 (L : Nat)  (M : zM) : zden (L + 1) 141 0 [some (.ref 50), none] [] M =
  zden (L + 1) 141 2 [some (.ref 50), some (.int 0)] [] M :=
  (zd_w zf_141 0 2 rfl)
theorem e141_50_2 (L : Nat) (v1 : Int32) (M : zM) : zden (L + 1) 141 2 [some (.ref 50), some (.int v1)] [] M =
  if v1 < 116 then (if zinb v1 116 = true then (zden (L + 1) 141 2 [some (.ref 50), some (.int (v1 + 1))] [] (zput M 50 v1.toNatClampNeg 0)) else none) else (some (none, zput (zput (zput (zput (zput (zput (zput (zput (zput (zput (zput M 50 4 20) 50 5 20) 50 6 30) 50 8 10) 50 9 30) 50 10 20) 50 11 40) 50 12 20) 50 13 20) 50 14 60) 50 15 9)) :=
  (zd_w zf_141 2 2 rfl).trans
  (zd_ge zf_141 rfl ((zd_w zf_141 11 44 rfl).trans
  (zd_rv zf_141 rfl)) ((zd_w zf_141 5 3 rfl).trans
  (zd_st zf_141 rfl rfl rfl ((zd_w zf_141 9 1 rfl).trans
  (zd_goto zf_141 rfl (rfl))))))
set_option maxRecDepth 20000 in
theorem e156_0 (L : Nat)  (M : zM) : zden (L + 1) 156 0 [some (.ref 48), none] [] M =
  if zinb (M 48 11) 200 = true then (if (M 51 (M 48 11).toNatClampNeg) = 97 then zden (L + 1) 156 247 [some (.ref 48), some (.int (M 51 (M 48 11).toNatClampNeg))] [] (zput M 48 11 ((M 48 11) + 1)) else (if (M 51 (M 48 11).toNatClampNeg) = 98 then zden (L + 1) 156 177 [some (.ref 48), some (.int (M 51 (M 48 11).toNatClampNeg))] [] (zput M 48 11 ((M 48 11) + 1)) else (if (M 51 (M 48 11).toNatClampNeg) = 99 then zden (L + 1) 156 377 [some (.ref 48), some (.int (M 51 (M 48 11).toNatClampNeg))] [] (zput M 48 11 ((M 48 11) + 1)) else (if (M 51 (M 48 11).toNatClampNeg) = 100 then zden (L + 1) 156 377 [some (.ref 48), some (.int (M 51 (M 48 11).toNatClampNeg))] [] (zput M 48 11 ((M 48 11) + 1)) else (if (M 51 (M 48 11).toNatClampNeg) = 101 then zden (L + 1) 156 367 [some (.ref 48), some (.int (M 51 (M 48 11).toNatClampNeg))] [] (zput M 48 11 ((M 48 11) + 1)) else (if (M 51 (M 48 11).toNatClampNeg) = 102 then zden (L + 1) 156 377 [some (.ref 48), some (.int (M 51 (M 48 11).toNatClampNeg))] [] (zput M 48 11 ((M 48 11) + 1)) else (if (M 51 (M 48 11).toNatClampNeg) = 103 then zden (L + 1) 156 377 [some (.ref 48), some (.int (M 51 (M 48 11).toNatClampNeg))] [] (zput M 48 11 ((M 48 11) + 1)) else (if (M 51 (M 48 11).toNatClampNeg) = 104 then zden (L + 1) 156 293 [some (.ref 48), some (.int (M 51 (M 48 11).toNatClampNeg))] [] (zput M 48 11 ((M 48 11) + 1)) else (if (M 51 (M 48 11).toNatClampNeg) = 105 then zden (L + 1) 156 372 [some (.ref 48), some (.int (M 51 (M 48 11).toNatClampNeg))] [] (zput M 48 11 ((M 48 11) + 1)) else (if (M 51 (M 48 11).toNatClampNeg) = 106 then zden (L + 1) 156 377 [some (.ref 48), some (.int (M 51 (M 48 11).toNatClampNeg))] [] (zput M 48 11 ((M 48 11) + 1)) else (if (M 51 (M 48 11).toNatClampNeg) = 107 then zden (L + 1) 156 212 [some (.ref 48), some (.int (M 51 (M 48 11).toNatClampNeg))] [] (zput M 48 11 ((M 48 11) + 1)) else (if (M 51 (M 48 11).toNatClampNeg) = 108 then zden (L + 1) 156 377 [some (.ref 48), some (.int (M 51 (M 48 11).toNatClampNeg))] [] (zput M 48 11 ((M 48 11) + 1)) else (if (M 51 (M 48 11).toNatClampNeg) = 109 then zden (L + 1) 156 327 [some (.ref 48), some (.int (M 51 (M 48 11).toNatClampNeg))] [] (zput M 48 11 ((M 48 11) + 1)) else (if (M 51 (M 48 11).toNatClampNeg) = 110 then zden (L + 1) 156 298 [some (.ref 48), some (.int (M 51 (M 48 11).toNatClampNeg))] [] (zput M 48 11 ((M 48 11) + 1)) else (if (M 51 (M 48 11).toNatClampNeg) = 111 then zden (L + 1) 156 377 [some (.ref 48), some (.int (M 51 (M 48 11).toNatClampNeg))] [] (zput M 48 11 ((M 48 11) + 1)) else (if (M 51 (M 48 11).toNatClampNeg) = 112 then zden (L + 1) 156 121 [some (.ref 48), some (.int (M 51 (M 48 11).toNatClampNeg))] [] (zput M 48 11 ((M 48 11) + 1)) else (if (M 51 (M 48 11).toNatClampNeg) = 113 then zden (L + 1) 156 303 [some (.ref 48), some (.int (M 51 (M 48 11).toNatClampNeg))] [] (zput M 48 11 ((M 48 11) + 1)) else (if (M 51 (M 48 11).toNatClampNeg) = 114 then zden (L + 1) 156 377 [some (.ref 48), some (.int (M 51 (M 48 11).toNatClampNeg))] [] (zput M 48 11 ((M 48 11) + 1)) else (if (M 51 (M 48 11).toNatClampNeg) = 115 then zden (L + 1) 156 116 [some (.ref 48), some (.int (M 51 (M 48 11).toNatClampNeg))] [] (zput M 48 11 ((M 48 11) + 1)) else (if (M 51 (M 48 11).toNatClampNeg) = 116 then zden (L + 1) 156 362 [some (.ref 48), some (.int (M 51 (M 48 11).toNatClampNeg))] [] (zput M 48 11 ((M 48 11) + 1)) else (zden (L + 1) 156 377 [some (.ref 48), some (.int (M 51 (M 48 11).toNatClampNeg))] [] (zput M 48 11 ((M 48 11) + 1))))))))))))))))))))))) else none :=
  (zd_w zf_156 0 4 rfl).trans
  (zd_ld zf_156 rfl rfl ((zd_w zf_156 5 8 rfl).trans
  ((zsw_156_21 (lc := [some (.ref 48), some (.int (M 51 (M 48 11).toNatClampNeg))]) (st := [])))))
set_option maxRecDepth 20000 in
theorem e156_377 (L : Nat) (o0 : Option Value) (o1 : Option Value) (M : zM) : zden (L + 1) 156 377 [o0, o1] [] M =
  some (some (.int 0), M) :=
  (zd_w zf_156 158 1 rfl).trans
  (zd_ri zf_156 rfl zr_156 rfl)
set_option maxRecDepth 20000 in
theorem e156_362 (L : Nat) (o1 : Option Value) (M : zM) : zden (L + 1) 156 362 [some (.ref 48), o1] [] M =
  zbI (zden (L + 1) 153 0 [some (.ref 48)] [] M) (fun r1 M1 => if zfit (some .boolean) r1 = true then some (some (.int r1), M1) else none) :=
  (zd_w zf_156 149 1 rfl).trans
  (zd_ci zf_156 rfl rfl rfl rfl (fun r1 M1 => zd_rf zf_156 rfl zr_156))
set_option maxRecDepth 20000 in
theorem e156_116 (L : Nat) (o1 : Option Value) (M : zM) : zden (L + 1) 156 116 [some (.ref 48), o1] [] M =
  zbI (zden (L + 1) 149 0 [some (.ref 48), none] [] M) (fun r1 M1 => if zfit (some .boolean) r1 = true then some (some (.int r1), M1) else none) :=
  (zd_w zf_156 14 1 rfl).trans
  (zd_ci zf_156 rfl rfl rfl rfl (fun r1 M1 => zd_rf zf_156 rfl zr_156))
set_option maxRecDepth 20000 in
theorem e156_303 (L : Nat) (o1 : Option Value) (M : zM) : zden (L + 1) 156 303 [some (.ref 48), o1] [] M =
  zbI (zden (L + 1) 146 0 [some (.ref 48), some (.int 2), none, none, none, none] [] M) (fun r1 M1 => if r1 = 0 then (zden (L + 1) 156 325 [some (.ref 48), o1] [] M1) else (zbI (zden (L + 1) 150 0 [some (.ref 48), some (.int 13), some (.int 2), none] [] M1) (fun r2 M2 => if r2 = 0 then (zden (L + 1) 156 325 [some (.ref 48), o1] [] M2) else (zden (L + 1) 156 326 [some (.ref 48), o1] [.int 1] M2)))) :=
  (zd_w zf_156 117 2 rfl).trans
  (zd_ci zf_156 rfl rfl rfl rfl (fun r1 M1 => zd_eq0 zf_156 rfl (rfl) ((zd_w zf_156 121 3 rfl).trans
  (zd_ci zf_156 rfl rfl rfl rfl (fun r2 M2 => zd_eq0 zf_156 rfl (rfl) ((zd_w zf_156 126 1 rfl).trans
  (zd_goto zf_156 rfl (rfl))))))))
set_option maxRecDepth 20000 in
theorem e156_121 (L : Nat) (o1 : Option Value) (M : zM) : zden (L + 1) 156 121 [some (.ref 48), o1] [] M =
  zbI (zden (L + 1) 146 0 [some (.ref 48), some (.int 3), none, none, none, none] [] M) (fun r1 M1 => if r1 = 0 then (zden (L + 1) 156 175 [some (.ref 48), o1] [] M1) else (zbI (zden (L + 1) 147 0 [some (.ref 48), some (.int 0), some (.int 3), some (.int 40)] [] M1) (fun r2 M2 => if r2 = 0 then (zden (L + 1) 156 175 [some (.ref 48), o1] [] M2) else (zbI (zden (L + 1) 147 0 [some (.ref 48), some (.int 1), some (.int 1), some (.int 60)] [] M2) (fun r3 M3 => if r3 = 0 then (zden (L + 1) 156 175 [some (.ref 48), o1] [] M3) else (zbI (zden (L + 1) 147 0 [some (.ref 48), some (.int 2), some (.int 1), some (.int 99)] [] M3) (fun r4 M4 => if r4 = 0 then (zden (L + 1) 156 175 [some (.ref 48), o1] [] M4) else (zbI (zden (L + 1) 150 0 [some (.ref 48), some (.int 4), some (.int 3), none] [] M4) (fun r5 M5 => if r5 = 0 then (zden (L + 1) 156 175 [some (.ref 48), o1] [] M5) else (zden (L + 1) 156 176 [some (.ref 48), o1] [.int 1] M5)))))))))) :=
  (zd_w zf_156 17 2 rfl).trans
  (zd_ci zf_156 rfl rfl rfl rfl (fun r1 M1 => zd_eq0 zf_156 rfl (rfl) ((zd_w zf_156 21 4 rfl).trans
  (zd_ci zf_156 rfl rfl rfl rfl (fun r2 M2 => zd_eq0 zf_156 rfl (rfl) ((zd_w zf_156 27 4 rfl).trans
  (zd_ci zf_156 rfl rfl rfl rfl (fun r3 M3 => zd_eq0 zf_156 rfl (rfl) ((zd_w zf_156 33 4 rfl).trans
  (zd_ci zf_156 rfl rfl rfl rfl (fun r4 M4 => zd_eq0 zf_156 rfl (rfl) ((zd_w zf_156 39 3 rfl).trans
  (zd_ci zf_156 rfl rfl rfl rfl (fun r5 M5 => zd_eq0 zf_156 rfl (rfl) ((zd_w zf_156 44 1 rfl).trans
  (zd_goto zf_156 rfl (rfl)))))))))))))))))
set_option maxRecDepth 20000 in
theorem e156_298 (L : Nat) (o1 : Option Value) (M : zM) : zden (L + 1) 156 298 [some (.ref 48), o1] [] M =
  zbI (zden (L + 1) 152 0 [some (.ref 48)] [] M) (fun r1 M1 => if zfit (some .boolean) r1 = true then some (some (.int r1), M1) else none) :=
  (zd_w zf_156 114 1 rfl).trans
  (zd_ci zf_156 rfl rfl rfl rfl (fun r1 M1 => zd_rf zf_156 rfl zr_156))
set_option maxRecDepth 20000 in
theorem e156_327 (L : Nat) (o1 : Option Value) (M : zM) : zden (L + 1) 156 327 [some (.ref 48), o1] [] M =
  zbI (zden (L + 1) 146 0 [some (.ref 48), some (.int 1), none, none, none, none] [] M) (fun r1 M1 => if r1 = 0 then (zden (L + 1) 156 360 [some (.ref 48), o1] [] M1) else (zbI (zden (L + 1) 147 0 [some (.ref 48), some (.int 0), some (.int 1), some (.int 99)] [] M1) (fun r2 M2 => if r2 = 0 then (zden (L + 1) 156 360 [some (.ref 48), o1] [] M2) else (zbI (zden (L + 1) 150 0 [some (.ref 48), some (.int 15), some (.int 1), none] [] M2) (fun r3 M3 => if r3 = 0 then (zden (L + 1) 156 360 [some (.ref 48), o1] [] M3) else (zden (L + 1) 156 361 [some (.ref 48), o1] [.int 1] M3)))))) :=
  (zd_w zf_156 130 2 rfl).trans
  (zd_ci zf_156 rfl rfl rfl rfl (fun r1 M1 => zd_eq0 zf_156 rfl (rfl) ((zd_w zf_156 134 4 rfl).trans
  (zd_ci zf_156 rfl rfl rfl rfl (fun r2 M2 => zd_eq0 zf_156 rfl (rfl) ((zd_w zf_156 140 3 rfl).trans
  (zd_ci zf_156 rfl rfl rfl rfl (fun r3 M3 => zd_eq0 zf_156 rfl (rfl) ((zd_w zf_156 145 1 rfl).trans
  (zd_goto zf_156 rfl (rfl)))))))))))
set_option maxRecDepth 20000 in
theorem e156_212 (L : Nat) (o1 : Option Value) (M : zM) : zden (L + 1) 156 212 [some (.ref 48), o1] [] M =
  zbI (zden (L + 1) 146 0 [some (.ref 48), some (.int 3), none, none, none, none] [] M) (fun r1 M1 => if r1 = 0 then (zden (L + 1) 156 245 [some (.ref 48), o1] [] M1) else (zbI (zden (L + 1) 147 0 [some (.ref 48), some (.int 0), some (.int 0), some (.int 40)] [] M1) (fun r2 M2 => if r2 = 0 then (zden (L + 1) 156 245 [some (.ref 48), o1] [] M2) else (zbI (zden (L + 1) 150 0 [some (.ref 48), some (.int 8), some (.int 3), none] [] M2) (fun r3 M3 => if r3 = 0 then (zden (L + 1) 156 245 [some (.ref 48), o1] [] M3) else (zden (L + 1) 156 246 [some (.ref 48), o1] [.int 1] M3)))))) :=
  (zd_w zf_156 67 2 rfl).trans
  (zd_ci zf_156 rfl rfl rfl rfl (fun r1 M1 => zd_eq0 zf_156 rfl (rfl) ((zd_w zf_156 71 4 rfl).trans
  (zd_ci zf_156 rfl rfl rfl rfl (fun r2 M2 => zd_eq0 zf_156 rfl (rfl) ((zd_w zf_156 77 3 rfl).trans
  (zd_ci zf_156 rfl rfl rfl rfl (fun r3 M3 => zd_eq0 zf_156 rfl (rfl) ((zd_w zf_156 82 1 rfl).trans
  (zd_goto zf_156 rfl (rfl)))))))))))
set_option maxRecDepth 20000 in
theorem e156_372 (L : Nat) (o1 : Option Value) (M : zM) : zden (L + 1) 156 372 [some (.ref 48), o1] [] M =
  zbI (zden (L + 1) 155 0 [some (.ref 48)] [] M) (fun r1 M1 => if zfit (some .boolean) r1 = true then some (some (.int r1), M1) else none) :=
  (zd_w zf_156 155 1 rfl).trans
  (zd_ci zf_156 rfl rfl rfl rfl (fun r1 M1 => zd_rf zf_156 rfl zr_156))
set_option maxRecDepth 20000 in
theorem e156_293 (L : Nat) (o1 : Option Value) (M : zM) : zden (L + 1) 156 293 [some (.ref 48), o1] [] M =
  zbI (zden (L + 1) 151 0 [some (.ref 48), none] [] M) (fun r1 M1 => if zfit (some .boolean) r1 = true then some (some (.int r1), M1) else none) :=
  (zd_w zf_156 111 1 rfl).trans
  (zd_ci zf_156 rfl rfl rfl rfl (fun r1 M1 => zd_rf zf_156 rfl zr_156))
set_option maxRecDepth 20000 in
theorem e156_367 (L : Nat) (o1 : Option Value) (M : zM) : zden (L + 1) 156 367 [some (.ref 48), o1] [] M =
  zbI (zden (L + 1) 154 0 [some (.ref 48), none, none] [] M) (fun r1 M1 => if zfit (some .boolean) r1 = true then some (some (.int r1), M1) else none) :=
  (zd_w zf_156 152 1 rfl).trans
  (zd_ci zf_156 rfl rfl rfl rfl (fun r1 M1 => zd_rf zf_156 rfl zr_156))
set_option maxRecDepth 20000 in
theorem e156_177 (L : Nat) (o1 : Option Value) (M : zM) : zden (L + 1) 156 177 [some (.ref 48), o1] [] M =
  zbI (zden (L + 1) 146 0 [some (.ref 48), some (.int 1), none, none, none, none] [] M) (fun r1 M1 => if r1 = 0 then (zden (L + 1) 156 210 [some (.ref 48), o1] [] M1) else (zbI (zden (L + 1) 147 0 [some (.ref 48), some (.int 0), some (.int 0), some (.int 40)] [] M1) (fun r2 M2 => if r2 = 0 then (zden (L + 1) 156 210 [some (.ref 48), o1] [] M2) else (zbI (zden (L + 1) 150 0 [some (.ref 48), some (.int 7), some (.int 1), none] [] M2) (fun r3 M3 => if r3 = 0 then (zden (L + 1) 156 210 [some (.ref 48), o1] [] M3) else (zden (L + 1) 156 211 [some (.ref 48), o1] [.int 1] M3)))))) :=
  (zd_w zf_156 48 2 rfl).trans
  (zd_ci zf_156 rfl rfl rfl rfl (fun r1 M1 => zd_eq0 zf_156 rfl (rfl) ((zd_w zf_156 52 4 rfl).trans
  (zd_ci zf_156 rfl rfl rfl rfl (fun r2 M2 => zd_eq0 zf_156 rfl (rfl) ((zd_w zf_156 58 3 rfl).trans
  (zd_ci zf_156 rfl rfl rfl rfl (fun r3 M3 => zd_eq0 zf_156 rfl (rfl) ((zd_w zf_156 63 1 rfl).trans
  (zd_goto zf_156 rfl (rfl)))))))))))
set_option maxRecDepth 20000 in
theorem e156_247 (L : Nat) (o1 : Option Value) (M : zM) : zden (L + 1) 156 247 [some (.ref 48), o1] [] M =
  zbI (zden (L + 1) 146 0 [some (.ref 48), some (.int 2), none, none, none, none] [] M) (fun r1 M1 => if r1 = 0 then (zden (L + 1) 156 291 [some (.ref 48), o1] [] M1) else (zbI (zden (L + 1) 147 0 [some (.ref 48), some (.int 0), some (.int 1), some (.int 99)] [] M1) (fun r2 M2 => if r2 = 0 then (zden (L + 1) 156 291 [some (.ref 48), o1] [] M2) else (zbI (zden (L + 1) 147 0 [some (.ref 48), some (.int 1), some (.int 1), some (.int 99)] [] M2) (fun r3 M3 => if r3 = 0 then (zden (L + 1) 156 291 [some (.ref 48), o1] [] M3) else (zbI (zden (L + 1) 150 0 [some (.ref 48), some (.int 11), some (.int 2), none] [] M3) (fun r4 M4 => if r4 = 0 then (zden (L + 1) 156 291 [some (.ref 48), o1] [] M4) else (zden (L + 1) 156 292 [some (.ref 48), o1] [.int 1] M4)))))))) :=
  (zd_w zf_156 86 2 rfl).trans
  (zd_ci zf_156 rfl rfl rfl rfl (fun r1 M1 => zd_eq0 zf_156 rfl (rfl) ((zd_w zf_156 90 4 rfl).trans
  (zd_ci zf_156 rfl rfl rfl rfl (fun r2 M2 => zd_eq0 zf_156 rfl (rfl) ((zd_w zf_156 96 4 rfl).trans
  (zd_ci zf_156 rfl rfl rfl rfl (fun r3 M3 => zd_eq0 zf_156 rfl (rfl) ((zd_w zf_156 102 3 rfl).trans
  (zd_ci zf_156 rfl rfl rfl rfl (fun r4 M4 => zd_eq0 zf_156 rfl (rfl) ((zd_w zf_156 107 1 rfl).trans
  (zd_goto zf_156 rfl (rfl))))))))))))))
set_option maxRecDepth 20000 in
theorem e156_325 (L : Nat) (o0 : Option Value) (o1 : Option Value) (M : zM) : zden (L + 1) 156 325 [o0, o1] [] M =
  zden (L + 1) 156 326 [o0, o1] [.int 0] M :=
  (zd_w zf_156 128 1 rfl)
set_option maxRecDepth 20000 in
theorem e156_326 (L : Nat) (o0 : Option Value) (o1 : Option Value) (s0 : Int32) (M : zM) : zden (L + 1) 156 326 [o0, o1] [.int s0] M =
  if zfit (some .boolean) s0 = true then some (some (.int s0), M) else none :=
  zd_rf zf_156 rfl zr_156
set_option maxRecDepth 20000 in
theorem e156_175 (L : Nat) (o0 : Option Value) (o1 : Option Value) (M : zM) : zden (L + 1) 156 175 [o0, o1] [] M =
  zden (L + 1) 156 176 [o0, o1] [.int 0] M :=
  (zd_w zf_156 46 1 rfl)
set_option maxRecDepth 20000 in
theorem e156_176 (L : Nat) (o0 : Option Value) (o1 : Option Value) (s0 : Int32) (M : zM) : zden (L + 1) 156 176 [o0, o1] [.int s0] M =
  if zfit (some .boolean) s0 = true then some (some (.int s0), M) else none :=
  zd_rf zf_156 rfl zr_156
set_option maxRecDepth 20000 in
theorem e156_360 (L : Nat) (o0 : Option Value) (o1 : Option Value) (M : zM) : zden (L + 1) 156 360 [o0, o1] [] M =
  zden (L + 1) 156 361 [o0, o1] [.int 0] M :=
  (zd_w zf_156 147 1 rfl)
set_option maxRecDepth 20000 in
theorem e156_361 (L : Nat) (o0 : Option Value) (o1 : Option Value) (s0 : Int32) (M : zM) : zden (L + 1) 156 361 [o0, o1] [.int s0] M =
  if zfit (some .boolean) s0 = true then some (some (.int s0), M) else none :=
  zd_rf zf_156 rfl zr_156
set_option maxRecDepth 20000 in
theorem e156_245 (L : Nat) (o0 : Option Value) (o1 : Option Value) (M : zM) : zden (L + 1) 156 245 [o0, o1] [] M =
  zden (L + 1) 156 246 [o0, o1] [.int 0] M :=
  (zd_w zf_156 84 1 rfl)
set_option maxRecDepth 20000 in
theorem e156_246 (L : Nat) (o0 : Option Value) (o1 : Option Value) (s0 : Int32) (M : zM) : zden (L + 1) 156 246 [o0, o1] [.int s0] M =
  if zfit (some .boolean) s0 = true then some (some (.int s0), M) else none :=
  zd_rf zf_156 rfl zr_156
set_option maxRecDepth 20000 in
theorem e156_210 (L : Nat) (o0 : Option Value) (o1 : Option Value) (M : zM) : zden (L + 1) 156 210 [o0, o1] [] M =
  zden (L + 1) 156 211 [o0, o1] [.int 0] M :=
  (zd_w zf_156 65 1 rfl)
set_option maxRecDepth 20000 in
theorem e156_211 (L : Nat) (o0 : Option Value) (o1 : Option Value) (s0 : Int32) (M : zM) : zden (L + 1) 156 211 [o0, o1] [.int s0] M =
  if zfit (some .boolean) s0 = true then some (some (.int s0), M) else none :=
  zd_rf zf_156 rfl zr_156
set_option maxRecDepth 20000 in
theorem e156_291 (L : Nat) (o0 : Option Value) (o1 : Option Value) (M : zM) : zden (L + 1) 156 291 [o0, o1] [] M =
  zden (L + 1) 156 292 [o0, o1] [.int 0] M :=
  (zd_w zf_156 109 1 rfl)
set_option maxRecDepth 20000 in
theorem e156_292 (L : Nat) (o0 : Option Value) (o1 : Option Value) (s0 : Int32) (M : zM) : zden (L + 1) 156 292 [o0, o1] [.int s0] M =
  if zfit (some .boolean) s0 = true then some (some (.int s0), M) else none :=
  zd_rf zf_156 rfl zr_156
theorem e177_48_52_53_0 (L : Nat) (v2 : Int32) (v4 : Int32) (M : zM) : zden (L + 1) 177 0 [some (.ref 48), some (.ref 52), some (.int v2), some (.ref 53), some (.int v4), none] [] M =
  zden (L + 1) 177 3 [some (.ref 48), some (.ref 52), some (.int v2), some (.ref 53), some (.int v4), some (.int 0)] [] M :=
  (zd_w zf_177 0 2 rfl)
theorem e177_48_52_53_3 (L : Nat) (o0 : Option Value) (v2 : Int32) (v4 : Int32) (v5 : Int32) (M : zM) : zden (L + 1) 177 3 [o0, some (.ref 52), some (.int v2), some (.ref 53), some (.int v4), some (.int v5)] [] M =
  if v5 < 6 then (if zinb (v2 + v5) 6 = true then (if zinb (v4 + v5) 48 = true then (zden (L + 1) 177 3 [o0, some (.ref 52), some (.int v2), some (.ref 53), some (.int v4), some (.int (v5 + 1))] [] (zput M 53 (v4 + v5).toNatClampNeg (M 52 (v2 + v5).toNatClampNeg))) else none) else none) else (some (none, M)) :=
  (zd_w zf_177 2 2 rfl).trans
  (zd_ge zf_177 rfl (zd_rv zf_177 rfl) ((zd_w zf_177 5 8 rfl).trans
  (zd_ld zf_177 rfl rfl (zd_st zf_177 rfl rfl rfl ((zd_w zf_177 15 1 rfl).trans
  (zd_goto zf_177 rfl (rfl)))))))
theorem e177_48_57_52_0 (L : Nat) (v2 : Int32) (v4 : Int32) (M : zM) : zden (L + 1) 177 0 [some (.ref 48), some (.ref 57), some (.int v2), some (.ref 52), some (.int v4), none] [] M =
  zden (L + 1) 177 3 [some (.ref 48), some (.ref 57), some (.int v2), some (.ref 52), some (.int v4), some (.int 0)] [] M :=
  (zd_w zf_177 0 2 rfl)
theorem e177_48_57_52_3 (L : Nat) (o0 : Option Value) (v2 : Int32) (v4 : Int32) (v5 : Int32) (M : zM) : zden (L + 1) 177 3 [o0, some (.ref 57), some (.int v2), some (.ref 52), some (.int v4), some (.int v5)] [] M =
  if v5 < 6 then (if zinb (v2 + v5) 6 = true then (if zinb (v4 + v5) 6 = true then (zden (L + 1) 177 3 [o0, some (.ref 57), some (.int v2), some (.ref 52), some (.int v4), some (.int (v5 + 1))] [] (zput M 52 (v4 + v5).toNatClampNeg (M 57 (v2 + v5).toNatClampNeg))) else none) else none) else (some (none, M)) :=
  (zd_w zf_177 2 2 rfl).trans
  (zd_ge zf_177 rfl (zd_rv zf_177 rfl) ((zd_w zf_177 5 8 rfl).trans
  (zd_ld zf_177 rfl rfl (zd_st zf_177 rfl rfl rfl ((zd_w zf_177 15 1 rfl).trans
  (zd_goto zf_177 rfl (rfl)))))))
theorem e189_0 (L : Nat) (v0 : Int32) (v1 : Int32) (v2 : Int32) (M : zM) : zden (L + 1) 189 0 [some (.int v0), some (.int v1), some (.int v2)] [] M =
  if v0 = 3 then (if v2 < v1 then (zden (L + 1) 189 21 [some (.int v0), some (.int v1), some (.int v2)] [.int v1] M) else (zden (L + 1) 189 21 [some (.int v0), some (.int v1), some (.int v2)] [.int v2] M)) else (zden (L + 1) 189 21 [some (.int v0), some (.int v1), some (.int v2)] [.int (v1 + v2)] M) :=
  (zd_w zf_189 0 2 rfl).trans
  (zd_ne zf_189 rfl ((zd_w zf_189 10 3 rfl)) ((zd_w zf_189 3 2 rfl).trans
  (zd_le zf_189 rfl ((zd_w zf_189 8 1 rfl).trans
  (zd_goto zf_189 rfl (rfl))) ((zd_w zf_189 6 1 rfl).trans
  (zd_goto zf_189 rfl (rfl))))))
theorem e189_21 (L : Nat) (o0 : Option Value) (o1 : Option Value) (o2 : Option Value) (s0 : Int32) (M : zM) : zden (L + 1) 189 21 [o0, o1, o2] [.int s0] M =
  some (some (.int s0), M) :=
  zd_ri zf_189 rfl zr_189 rfl
theorem e191_0 (L : Nat) (v1 : Int32) (v2 : Int32) (v3 : Int32) (v4 : Int32) (v5 : Int32) (M : zM) : zden (L + 1) 191 0 [some (.ref 48), some (.int v1), some (.int v2), some (.int v3), some (.int v4), some (.int v5), none, none, none] [] M =
  zden (L + 1) 191 7 [some (.ref 48), some (.int v1), some (.int v2), some (.int v3), some (.int v4), some (.int v5), some (.int 1000000), some (.int 0), none] [] M :=
  (zd_w zf_191 0 4 rfl)
theorem e191_7 (L : Nat) (v1 : Int32) (v2 : Int32) (v3 : Int32) (v4 : Int32) (v5 : Int32) (v6 : Int32) (v7 : Int32) (o8 : Option Value) (M : zM) : zden (L + 1) 191 7 [some (.ref 48), some (.int v1), some (.int v2), some (.int v3), some (.int v4), some (.int v5), some (.int v6), some (.int v7), o8] [] M =
  if v7 < 3 then (zbI (zden (L + 1) 190 0 [some (.ref 48), some (.int v1), some (.int v2), some (.int v7), some (.int v3), some (.int v4), some (.int v5), none, none, none, none] [] M) (fun r1 M1 => if r1 < v6 then (zden (L + 1) 191 42 [some (.ref 48), some (.int v1), some (.int v2), some (.int v3), some (.int v4), some (.int v5), some (.int v6), some (.int v7), some (.int r1)] [.int r1] M1) else (zden (L + 1) 191 42 [some (.ref 48), some (.int v1), some (.int v2), some (.int v3), some (.int v4), some (.int v5), some (.int v6), some (.int v7), some (.int r1)] [.int v6] M1))) else (some (some (.int v6), M)) :=
  (zd_w zf_191 4 2 rfl).trans
  (zd_ge zf_191 rfl ((zd_w zf_191 25 1 rfl).trans
  (zd_ri zf_191 rfl zr_191 rfl)) ((zd_w zf_191 7 7 rfl).trans
  (zd_ci zf_191 rfl rfl rfl rfl (fun r1 M1 => (zd_w zf_191 15 3 rfl).trans
  (zd_ge zf_191 rfl ((zd_w zf_191 21 1 rfl)) ((zd_w zf_191 19 1 rfl).trans
  (zd_goto zf_191 rfl (rfl))))))))
theorem e191_42 (L : Nat) (v1 : Int32) (v2 : Int32) (v3 : Int32) (v4 : Int32) (v5 : Int32) (o6 : Option Value) (v7 : Int32) (o8 : Option Value) (s0 : Int32) (M : zM) : zden (L + 1) 191 42 [some (.ref 48), some (.int v1), some (.int v2), some (.int v3), some (.int v4), some (.int v5), o6, some (.int v7), o8] [.int s0] M =
  zden (L + 1) 191 7 [some (.ref 48), some (.int v1), some (.int v2), some (.int v3), some (.int v4), some (.int v5), some (.int s0), some (.int (v7 + 1)), o8] [] M :=
  (zd_w zf_191 22 2 rfl).trans
  (zd_goto zf_191 rfl (rfl))
theorem e32_12_0 (L : Nat)  (M : zM) : zden (L + 1) 32 0 [some (.ref 12)] [] M =
  zbV (zden (L + 1) 19 0 [some (.ref 18), some (.int 0), none, none] [] (zput (zput (zput (zput (zput M 12 2 0) 12 6 0) 12 9 0) 12 13 0) 12 14 0)) (fun M1 => zbV (zden (L + 1) 31 0 [some (.ref 63), some (.ref 15), none] [] M1) (fun M2 => some (none, M2))) :=
  (zd_w zf_32 0 18 rfl).trans
  (zd_cv zf_32 rfl rfl rfl rfl (fun M1 => (zd_w zf_32 19 3 rfl).trans
  (zd_cv zf_32 rfl rfl rfl rfl (fun M2 => zd_rv zf_32 rfl))))
theorem e55_23_12_0 (L : Nat) (v1 : Int32) (M : zM) : zden (L + 1) 55 0 [some (.ref 23), some (.int v1), some (.ref 12), none, none, none, none, none, none, none, none] [] M =
  zbI (zden (L + 1) 33 0 [some (.ref 23), some (.int v1)] [] M) (fun r1 M1 => zbI (zden (L + 1) 42 0 [some (.ref 69), some (.int r1)] [] M1) (fun r2 M2 => if r2 < 0 then (some (some (.int (-1)), M2)) else (zbI (zden (L + 1) 4 0 [some (.ref 64), some (.int r2)] [] M2) (fun r3 M3 => zden (L + 1) 55 39 [some (.ref 23), some (.int v1), some (.ref 12), some (.int r1), some (.int r2), some (.int r3), some (.int (v1 + 1)), some (.int 0), none, none, none] [] M3)))) :=
  (zd_w zf_55 0 2 rfl).trans
  (zd_ci zf_55 rfl rfl rfl rfl (fun r1 M1 => (zd_w zf_55 3 3 rfl).trans
  (zd_ci zf_55 rfl rfl rfl rfl (fun r2 M2 => (zd_w zf_55 7 2 rfl).trans
  (zd_ge0 zf_55 rfl ((zd_w zf_55 12 2 rfl).trans
  (zd_ci zf_55 rfl rfl rfl rfl (fun r3 M3 => (zd_w zf_55 15 7 rfl)))) ((zd_w zf_55 10 1 rfl).trans
  (zd_ri zf_55 rfl zr_55 rfl)))))))
theorem e55_23_12_39 (L : Nat) (o1 : Option Value) (v3 : Int32) (v4 : Int32) (v5 : Int32) (v6 : Int32) (v7 : Int32) (o8 : Option Value) (o9 : Option Value) (o10 : Option Value) (M : zM) : zden (L + 1) 55 39 [some (.ref 23), o1, some (.ref 12), some (.int v3), some (.int v4), some (.int v5), some (.int v6), some (.int v7), o8, o9, o10] [] M =
  if v7 < v5 then (zbI (zden (L + 1) 44 0 [some (.ref 23), some (.int v6)] [] M) (fun r2 M2 => zbI (zden (L + 1) 45 0 [some (.ref 23), some (.int v6), some (.int r2), none, none] [] M2) (fun r3 M3 => if r2 = 0 then (zden (L + 1) 55 102 [some (.ref 23), o1, some (.ref 12), some (.int v3), some (.int v4), some (.int v5), some (.int v6), some (.int v7), some (.int r2), some (.int ((3 * v4) + v7)), some (.int r3)] [] M3) else (zbI (zden (L + 1) 4 0 [some (.ref 65), some (.int ((3 * v4) + v7))] [] M3) (fun r4 M4 => zbI (zden (L + 1) 4 0 [some (.ref 66), some (.int ((3 * v4) + v7))] [] M4) (fun r5 M5 => zbI (zden (L + 1) 46 0 [some (.int r3), some (.int r4), some (.int r5)] [] M5) (fun r6 M6 => if r6 = 0 then (zden (L + 1) 55 102 [some (.ref 23), o1, some (.ref 12), some (.int v3), some (.int v4), some (.int v5), some (.int v6), some (.int v7), some (.int r2), some (.int ((3 * v4) + v7)), some (.int r3)] [] M6) else (zbV (zden (L + 1) 5 0 [some (.ref 25), some (.int v7), some (.int r3)] [] M6) (fun M7 => zbI (zden (L + 1) 33 0 [some (.ref 23), some (.int (v6 + r2))] [] M7) (fun r8 M8 => if v7 = (v5 - 1) then (zden (L + 1) 55 144 [some (.ref 23), o1, some (.ref 12), some (.int v3), some (.int v4), some (.int v5), some (.int (v6 + r2)), some (.int v7), some (.int r2), some (.int ((3 * v4) + v7)), some (.int r3)] [.int 59, .int r8] M8) else (zden (L + 1) 55 144 [some (.ref 23), o1, some (.ref 12), some (.int v3), some (.int v4), some (.int v5), some (.int (v6 + r2)), some (.int v7), some (.int r2), some (.int ((3 * v4) + v7)), some (.int r3)] [.int 44, .int r8] M8))))))))))) else (zbI (zden (L + 1) 54 0 [some (.ref 12), some (.int v3), some (.ref 25), none, none] [] M) (fun r1 M1 => if r1 = 0 then (zden (L + 1) 55 176 [some (.ref 23), o1, some (.ref 12), some (.int v3), some (.int v4), some (.int v5), some (.int v6), some (.int v7), o8, o9, o10] [.int (-1)] M1) else (zden (L + 1) 55 176 [some (.ref 23), o1, some (.ref 12), some (.int v3), some (.int v4), some (.int v5), some (.int v6), some (.int v7), o8, o9, o10] [.int v6] M1))) :=
  (zd_w zf_55 22 2 rfl).trans
  (zd_ge zf_55 rfl ((zd_w zf_55 79 4 rfl).trans
  (zd_ci zf_55 rfl rfl rfl rfl (fun r1 M1 => zd_eq0 zf_55 rfl ((zd_w zf_55 87 1 rfl)) ((zd_w zf_55 85 1 rfl).trans
  (zd_goto zf_55 rfl (rfl)))))) ((zd_w zf_55 25 2 rfl).trans
  (zd_ci zf_55 rfl rfl rfl rfl (fun r2 M2 => (zd_w zf_55 28 10 rfl).trans
  (zd_ci zf_55 rfl rfl rfl rfl (fun r3 M3 => (zd_w zf_55 39 2 rfl).trans
  (zd_eq0 zf_55 rfl (rfl) ((zd_w zf_55 42 3 rfl).trans
  (zd_ci zf_55 rfl rfl rfl rfl (fun r4 M4 => (zd_w zf_55 46 2 rfl).trans
  (zd_ci zf_55 rfl rfl rfl rfl (fun r5 M5 => zd_ci zf_55 rfl rfl rfl rfl (fun r6 M6 => zd_ne0 zf_55 rfl ((zd_w zf_55 53 4 rfl).trans
  (zd_cv zf_55 rfl rfl rfl rfl (fun M7 => (zd_w zf_55 58 6 rfl).trans
  (zd_ci zf_55 rfl rfl rfl rfl (fun r8 M8 => (zd_w zf_55 65 4 rfl).trans
  (zd_ne zf_55 rfl ((zd_w zf_55 72 1 rfl)) ((zd_w zf_55 70 1 rfl).trans
  (zd_goto zf_55 rfl (rfl))))))))) (rfl))))))))))))))
theorem e55_23_12_176 (L : Nat) (o0 : Option Value) (o1 : Option Value) (o2 : Option Value) (o3 : Option Value) (o4 : Option Value) (o5 : Option Value) (o6 : Option Value) (o7 : Option Value) (o8 : Option Value) (o9 : Option Value) (o10 : Option Value) (s0 : Int32) (M : zM) : zden (L + 1) 55 176 [o0, o1, o2, o3, o4, o5, o6, o7, o8, o9, o10] [.int s0] M =
  some (some (.int s0), M) :=
  zd_ri zf_55 rfl zr_55 rfl
theorem e55_23_12_102 (L : Nat) (o0 : Option Value) (o1 : Option Value) (o2 : Option Value) (o3 : Option Value) (o4 : Option Value) (o5 : Option Value) (o6 : Option Value) (o7 : Option Value) (o8 : Option Value) (o9 : Option Value) (o10 : Option Value) (M : zM) : zden (L + 1) 55 102 [o0, o1, o2, o3, o4, o5, o6, o7, o8, o9, o10] [] M =
  some (some (.int (-1)), M) :=
  (zd_w zf_55 51 1 rfl).trans
  (zd_ri zf_55 rfl zr_55 rfl)
theorem e55_23_12_144 (L : Nat) (o1 : Option Value) (v3 : Int32) (v4 : Int32) (v5 : Int32) (v6 : Int32) (v7 : Int32) (o8 : Option Value) (o9 : Option Value) (o10 : Option Value) (s0 : Int32) (s1 : Int32) (M : zM) : zden (L + 1) 55 144 [some (.ref 23), o1, some (.ref 12), some (.int v3), some (.int v4), some (.int v5), some (.int v6), some (.int v7), o8, o9, o10] [.int s0, .int s1] M =
  if s1 = s0 then (zden (L + 1) 55 39 [some (.ref 23), o1, some (.ref 12), some (.int v3), some (.int v4), some (.int v5), some (.int (v6 + 1)), some (.int (v7 + 1)), o8, o9, o10] [] M) else (some (some (.int (-1)), M)) :=
  zd_eq zf_55 rfl ((zd_w zf_55 76 2 rfl).trans
  (zd_goto zf_55 rfl (rfl))) ((zd_w zf_55 74 1 rfl).trans
  (zd_ri zf_55 rfl zr_55 rfl))
theorem e32_1_0 (L : Nat)  (M : zM) : zden (L + 1) 32 0 [some (.ref 1)] [] M =
  zbV (zden (L + 1) 19 0 [some (.ref 7), some (.int 0), none, none] [] (zput (zput (zput (zput (zput M 1 2 0) 1 6 0) 1 9 0) 1 13 0) 1 14 0)) (fun M1 => zbV (zden (L + 1) 31 0 [some (.ref 63), some (.ref 4), none] [] M1) (fun M2 => some (none, M2))) :=
  (zd_w zf_32 0 18 rfl).trans
  (zd_cv zf_32 rfl rfl rfl rfl (fun M1 => (zd_w zf_32 19 3 rfl).trans
  (zd_cv zf_32 rfl rfl rfl rfl (fun M2 => zd_rv zf_32 rfl))))
theorem e55_23_1_0 (L : Nat) (v1 : Int32) (M : zM) : zden (L + 1) 55 0 [some (.ref 23), some (.int v1), some (.ref 1), none, none, none, none, none, none, none, none] [] M =
  zbI (zden (L + 1) 33 0 [some (.ref 23), some (.int v1)] [] M) (fun r1 M1 => zbI (zden (L + 1) 42 0 [some (.ref 69), some (.int r1)] [] M1) (fun r2 M2 => if r2 < 0 then (some (some (.int (-1)), M2)) else (zbI (zden (L + 1) 4 0 [some (.ref 64), some (.int r2)] [] M2) (fun r3 M3 => zden (L + 1) 55 39 [some (.ref 23), some (.int v1), some (.ref 1), some (.int r1), some (.int r2), some (.int r3), some (.int (v1 + 1)), some (.int 0), none, none, none] [] M3)))) :=
  (zd_w zf_55 0 2 rfl).trans
  (zd_ci zf_55 rfl rfl rfl rfl (fun r1 M1 => (zd_w zf_55 3 3 rfl).trans
  (zd_ci zf_55 rfl rfl rfl rfl (fun r2 M2 => (zd_w zf_55 7 2 rfl).trans
  (zd_ge0 zf_55 rfl ((zd_w zf_55 12 2 rfl).trans
  (zd_ci zf_55 rfl rfl rfl rfl (fun r3 M3 => (zd_w zf_55 15 7 rfl)))) ((zd_w zf_55 10 1 rfl).trans
  (zd_ri zf_55 rfl zr_55 rfl)))))))
theorem e55_23_1_39 (L : Nat) (o1 : Option Value) (v3 : Int32) (v4 : Int32) (v5 : Int32) (v6 : Int32) (v7 : Int32) (o8 : Option Value) (o9 : Option Value) (o10 : Option Value) (M : zM) : zden (L + 1) 55 39 [some (.ref 23), o1, some (.ref 1), some (.int v3), some (.int v4), some (.int v5), some (.int v6), some (.int v7), o8, o9, o10] [] M =
  if v7 < v5 then (zbI (zden (L + 1) 44 0 [some (.ref 23), some (.int v6)] [] M) (fun r2 M2 => zbI (zden (L + 1) 45 0 [some (.ref 23), some (.int v6), some (.int r2), none, none] [] M2) (fun r3 M3 => if r2 = 0 then (zden (L + 1) 55 102 [some (.ref 23), o1, some (.ref 1), some (.int v3), some (.int v4), some (.int v5), some (.int v6), some (.int v7), some (.int r2), some (.int ((3 * v4) + v7)), some (.int r3)] [] M3) else (zbI (zden (L + 1) 4 0 [some (.ref 65), some (.int ((3 * v4) + v7))] [] M3) (fun r4 M4 => zbI (zden (L + 1) 4 0 [some (.ref 66), some (.int ((3 * v4) + v7))] [] M4) (fun r5 M5 => zbI (zden (L + 1) 46 0 [some (.int r3), some (.int r4), some (.int r5)] [] M5) (fun r6 M6 => if r6 = 0 then (zden (L + 1) 55 102 [some (.ref 23), o1, some (.ref 1), some (.int v3), some (.int v4), some (.int v5), some (.int v6), some (.int v7), some (.int r2), some (.int ((3 * v4) + v7)), some (.int r3)] [] M6) else (zbV (zden (L + 1) 5 0 [some (.ref 25), some (.int v7), some (.int r3)] [] M6) (fun M7 => zbI (zden (L + 1) 33 0 [some (.ref 23), some (.int (v6 + r2))] [] M7) (fun r8 M8 => if v7 = (v5 - 1) then (zden (L + 1) 55 144 [some (.ref 23), o1, some (.ref 1), some (.int v3), some (.int v4), some (.int v5), some (.int (v6 + r2)), some (.int v7), some (.int r2), some (.int ((3 * v4) + v7)), some (.int r3)] [.int 59, .int r8] M8) else (zden (L + 1) 55 144 [some (.ref 23), o1, some (.ref 1), some (.int v3), some (.int v4), some (.int v5), some (.int (v6 + r2)), some (.int v7), some (.int r2), some (.int ((3 * v4) + v7)), some (.int r3)] [.int 44, .int r8] M8))))))))))) else (zbI (zden (L + 1) 54 0 [some (.ref 1), some (.int v3), some (.ref 25), none, none] [] M) (fun r1 M1 => if r1 = 0 then (zden (L + 1) 55 176 [some (.ref 23), o1, some (.ref 1), some (.int v3), some (.int v4), some (.int v5), some (.int v6), some (.int v7), o8, o9, o10] [.int (-1)] M1) else (zden (L + 1) 55 176 [some (.ref 23), o1, some (.ref 1), some (.int v3), some (.int v4), some (.int v5), some (.int v6), some (.int v7), o8, o9, o10] [.int v6] M1))) :=
  (zd_w zf_55 22 2 rfl).trans
  (zd_ge zf_55 rfl ((zd_w zf_55 79 4 rfl).trans
  (zd_ci zf_55 rfl rfl rfl rfl (fun r1 M1 => zd_eq0 zf_55 rfl ((zd_w zf_55 87 1 rfl)) ((zd_w zf_55 85 1 rfl).trans
  (zd_goto zf_55 rfl (rfl)))))) ((zd_w zf_55 25 2 rfl).trans
  (zd_ci zf_55 rfl rfl rfl rfl (fun r2 M2 => (zd_w zf_55 28 10 rfl).trans
  (zd_ci zf_55 rfl rfl rfl rfl (fun r3 M3 => (zd_w zf_55 39 2 rfl).trans
  (zd_eq0 zf_55 rfl (rfl) ((zd_w zf_55 42 3 rfl).trans
  (zd_ci zf_55 rfl rfl rfl rfl (fun r4 M4 => (zd_w zf_55 46 2 rfl).trans
  (zd_ci zf_55 rfl rfl rfl rfl (fun r5 M5 => zd_ci zf_55 rfl rfl rfl rfl (fun r6 M6 => zd_ne0 zf_55 rfl ((zd_w zf_55 53 4 rfl).trans
  (zd_cv zf_55 rfl rfl rfl rfl (fun M7 => (zd_w zf_55 58 6 rfl).trans
  (zd_ci zf_55 rfl rfl rfl rfl (fun r8 M8 => (zd_w zf_55 65 4 rfl).trans
  (zd_ne zf_55 rfl ((zd_w zf_55 72 1 rfl)) ((zd_w zf_55 70 1 rfl).trans
  (zd_goto zf_55 rfl (rfl))))))))) (rfl))))))))))))))
theorem e55_23_1_176 (L : Nat) (o0 : Option Value) (o1 : Option Value) (o2 : Option Value) (o3 : Option Value) (o4 : Option Value) (o5 : Option Value) (o6 : Option Value) (o7 : Option Value) (o8 : Option Value) (o9 : Option Value) (o10 : Option Value) (s0 : Int32) (M : zM) : zden (L + 1) 55 176 [o0, o1, o2, o3, o4, o5, o6, o7, o8, o9, o10] [.int s0] M =
  some (some (.int s0), M) :=
  zd_ri zf_55 rfl zr_55 rfl
theorem e55_23_1_102 (L : Nat) (o0 : Option Value) (o1 : Option Value) (o2 : Option Value) (o3 : Option Value) (o4 : Option Value) (o5 : Option Value) (o6 : Option Value) (o7 : Option Value) (o8 : Option Value) (o9 : Option Value) (o10 : Option Value) (M : zM) : zden (L + 1) 55 102 [o0, o1, o2, o3, o4, o5, o6, o7, o8, o9, o10] [] M =
  some (some (.int (-1)), M) :=
  (zd_w zf_55 51 1 rfl).trans
  (zd_ri zf_55 rfl zr_55 rfl)
theorem e55_23_1_144 (L : Nat) (o1 : Option Value) (v3 : Int32) (v4 : Int32) (v5 : Int32) (v6 : Int32) (v7 : Int32) (o8 : Option Value) (o9 : Option Value) (o10 : Option Value) (s0 : Int32) (s1 : Int32) (M : zM) : zden (L + 1) 55 144 [some (.ref 23), o1, some (.ref 1), some (.int v3), some (.int v4), some (.int v5), some (.int v6), some (.int v7), o8, o9, o10] [.int s0, .int s1] M =
  if s1 = s0 then (zden (L + 1) 55 39 [some (.ref 23), o1, some (.ref 1), some (.int v3), some (.int v4), some (.int v5), some (.int (v6 + 1)), some (.int (v7 + 1)), o8, o9, o10] [] M) else (some (some (.int (-1)), M)) :=
  zd_eq zf_55 rfl ((zd_w zf_55 76 2 rfl).trans
  (zd_goto zf_55 rfl (rfl))) ((zd_w zf_55 74 1 rfl).trans
  (zd_ri zf_55 rfl zr_55 rfl))
theorem e14E_43_0  (M : zM) : zden 0 14 0 [some (.ref 43)] [] M =
  some (none, zput M 43 3 0) :=
  (zd_w zf_14 0 3 rfl).trans
  (zd_rv zf_14 rfl)
theorem e15_43_0 (L : Nat)  (M : zM) : zden (L + 1) 15 0 [some (.ref 43), none] [] M =
  zden (L + 1) 15 5 [some (.ref 43), some (.int (M 43 1))] [] M :=
  (zd_w zf_15 0 3 rfl)
theorem e15_43_5 (L : Nat) (v1 : Int32) (M : zM) : zden (L + 1) 15 5 [some (.ref 43), some (.int v1)] [] M =
  if v1 < ((M 43 3) * (M 43 1)) then (zbI (zden (L + 1) 4 0 [some (.ref 44), some (.int v1)] [] M) (fun r1 M1 => zbV (zden (L + 1) 5 0 [some (.ref 44), some (.int (v1 - (M 43 1))), some (.int r1)] [] M1) (fun M2 => zden (L + 1) 15 5 [some (.ref 43), some (.int (v1 + 1))] [] M2))) else (some (none, zput M 43 3 ((M 43 3) - 1))) :=
  (zd_w zf_15 3 6 rfl).trans
  (zd_ge zf_15 rfl ((zd_w zf_15 23 6 rfl).trans
  (zd_rv zf_15 rfl)) ((zd_w zf_15 10 9 rfl).trans
  (zd_ci zf_15 rfl rfl rfl rfl (fun r1 M1 => zd_cv zf_15 rfl rfl rfl rfl (fun M2 => (zd_w zf_15 21 1 rfl).trans
  (zd_goto zf_15 rfl (rfl)))))))
theorem e5_44_0 (L : Nat) (v1 : Int32) (v2 : Int32) (M : zM) : zden (L + 1) 5 0 [some (.ref 44), some (.int v1), some (.int v2)] [] M =
  if v1 < 0 then (zden (L + 1) 5 14 [some (.ref 44), some (.int v1), some (.int v2)] [] M) else (if v1 < 48 then (if zinb v1 48 = true then (zden (L + 1) 5 14 [some (.ref 44), some (.int v1), some (.int v2)] [] (zput M 44 v1.toNatClampNeg v2)) else none) else (zden (L + 1) 5 14 [some (.ref 44), some (.int v1), some (.int v2)] [] M)) :=
  (zd_w zf_5 0 1 rfl).trans
  (zd_lt0 zf_5 rfl (rfl) ((zd_w zf_5 2 3 rfl).trans
  (zd_ge zf_5 rfl (rfl) ((zd_w zf_5 6 3 rfl).trans
  (zd_st zf_5 rfl rfl rfl (rfl))))))
theorem e5_44_14 (L : Nat) (o0 : Option Value) (o1 : Option Value) (o2 : Option Value) (M : zM) : zden (L + 1) 5 14 [o0, o1, o2] [] M =
  some (none, M) :=
  zd_rv zf_5 rfl
theorem e4_41_0 (L : Nat) (v1 : Int32) (M : zM) : zden (L + 1) 4 0 [some (.ref 41), some (.int v1)] [] M =
  if v1 < 0 then (zden (L + 1) 4 16 [some (.ref 41), some (.int v1)] [] M) else (if v1 < 6 then (if zinb v1 6 = true then (zden (L + 1) 4 17 [some (.ref 41), some (.int v1)] [.int (M 41 v1.toNatClampNeg)] M) else none) else (zden (L + 1) 4 16 [some (.ref 41), some (.int v1)] [] M)) :=
  (zd_w zf_4 0 1 rfl).trans
  (zd_lt0 zf_4 rfl (rfl) ((zd_w zf_4 2 3 rfl).trans
  (zd_ge zf_4 rfl (rfl) ((zd_w zf_4 6 2 rfl).trans
  (zd_ld zf_4 rfl rfl (zd_goto zf_4 rfl (rfl)))))))
theorem e4_41_16 (L : Nat) (o0 : Option Value) (o1 : Option Value) (M : zM) : zden (L + 1) 4 16 [o0, o1] [] M =
  zden (L + 1) 4 17 [o0, o1] [.int 0] M :=
  (zd_w zf_4 10 1 rfl)
theorem e4_41_17 (L : Nat) (o0 : Option Value) (o1 : Option Value) (s0 : Int32) (M : zM) : zden (L + 1) 4 17 [o0, o1] [.int s0] M =
  some (some (.int s0), M) :=
  zd_ri zf_4 rfl zr_4 rfl
theorem e5_41_0 (L : Nat) (v1 : Int32) (v2 : Int32) (M : zM) : zden (L + 1) 5 0 [some (.ref 41), some (.int v1), some (.int v2)] [] M =
  if v1 < 0 then (zden (L + 1) 5 14 [some (.ref 41), some (.int v1), some (.int v2)] [] M) else (if v1 < 6 then (if zinb v1 6 = true then (zden (L + 1) 5 14 [some (.ref 41), some (.int v1), some (.int v2)] [] (zput M 41 v1.toNatClampNeg v2)) else none) else (zden (L + 1) 5 14 [some (.ref 41), some (.int v1), some (.int v2)] [] M)) :=
  (zd_w zf_5 0 1 rfl).trans
  (zd_lt0 zf_5 rfl (rfl) ((zd_w zf_5 2 3 rfl).trans
  (zd_ge zf_5 rfl (rfl) ((zd_w zf_5 6 3 rfl).trans
  (zd_st zf_5 rfl rfl rfl (rfl))))))
theorem e5_41_14 (L : Nat) (o0 : Option Value) (o1 : Option Value) (o2 : Option Value) (M : zM) : zden (L + 1) 5 14 [o0, o1, o2] [] M =
  some (none, M) :=
  zd_rv zf_5 rfl
theorem e67_0 (L : Nat) (v0 : Int32) (M : zM) : zden (L + 1) 67 0 [some (.int v0)] [] M =
  zbI (zden (L + 1) 59 0 [some (.int v0), some (.int 8)] [] M) (fun r1 M1 => some (some (.int r1), M1)) :=
  (zd_w zf_67 0 2 rfl).trans
  (zd_ci zf_67 rfl rfl rfl rfl (fun r1 M1 => zd_ri zf_67 rfl zr_67 rfl))
theorem e75_26_41_0 (L : Nat) (v2 : Int32) (M : zM) : zden (L + 1) 75 0 [some (.ref 26), some (.ref 41), some (.int v2), none] [] M =
  zbI (zden (L + 1) 4 0 [some (.ref 41), some (.int 4)] [] M) (fun r1 M1 => zbV (zden (L + 1) 5 0 [some (.ref 41), some (.int 4), some (.int (r1 + v2))] [] M1) (fun M2 => zbI (zden (L + 1) 0 0 [some (.ref 1), some (.int 5)] [] M2) (fun r3 M3 => if r3 < v2 then (zden (L + 1) 75 42 [some (.ref 26), some (.ref 41), some (.int v2), some (.int (r1 + v2))] [] M3) else (zbI (zden (L + 1) 0 0 [some (.ref 1), some (.int 6)] [] M3) (fun r4 M4 => if (10 * r4) < (r1 + v2) then (zden (L + 1) 75 42 [some (.ref 26), some (.ref 41), some (.int v2), some (.int (r1 + v2))] [] M4) else (zden (L + 1) 75 48 [some (.ref 26), some (.ref 41), some (.int v2), some (.int (r1 + v2))] [] M4)))))) :=
  (zd_w zf_75 0 2 rfl).trans
  (zd_ci zf_75 rfl rfl rfl rfl (fun r1 M1 => (zd_w zf_75 3 6 rfl).trans
  (zd_cv zf_75 rfl rfl rfl rfl (fun M2 => (zd_w zf_75 10 4 rfl).trans
  (zd_ci zf_75 rfl rfl rfl rfl (fun r3 M3 => zd_gt zf_75 rfl (rfl) ((zd_w zf_75 16 5 rfl).trans
  (zd_ci zf_75 rfl rfl rfl rfl (fun r4 M4 => (zd_w zf_75 22 1 rfl).trans
  (zd_le zf_75 rfl (rfl) (rfl)))))))))))
theorem e75_26_41_42 (L : Nat) (o0 : Option Value) (o2 : Option Value) (o3 : Option Value) (M : zM) : zden (L + 1) 75 42 [o0, some (.ref 41), o2, o3] [] M =
  zbV (zden (L + 1) 5 0 [some (.ref 41), some (.int 5), some (.int 1)] [] M) (fun M1 => zden (L + 1) 75 48 [o0, some (.ref 41), o2, o3] [] M1) :=
  (zd_w zf_75 24 3 rfl).trans
  (zd_cv zf_75 rfl rfl rfl rfl (fun M1 => rfl))
theorem e75_26_41_48 (L : Nat) (o0 : Option Value) (o1 : Option Value) (o2 : Option Value) (o3 : Option Value) (M : zM) : zden (L + 1) 75 48 [o0, o1, o2, o3] [] M =
  some (none, M) :=
  zd_rv zf_75 rfl
theorem e5_32_0 (L : Nat) (v1 : Int32) (v2 : Int32) (M : zM) : zden (L + 1) 5 0 [some (.ref 32), some (.int v1), some (.int v2)] [] M =
  if v1 < 0 then (zden (L + 1) 5 14 [some (.ref 32), some (.int v1), some (.int v2)] [] M) else (if v1 < 3 then (if zinb v1 3 = true then (zden (L + 1) 5 14 [some (.ref 32), some (.int v1), some (.int v2)] [] (zput M 32 v1.toNatClampNeg v2)) else none) else (zden (L + 1) 5 14 [some (.ref 32), some (.int v1), some (.int v2)] [] M)) :=
  (zd_w zf_5 0 1 rfl).trans
  (zd_lt0 zf_5 rfl (rfl) ((zd_w zf_5 2 3 rfl).trans
  (zd_ge zf_5 rfl (rfl) ((zd_w zf_5 6 3 rfl).trans
  (zd_st zf_5 rfl rfl rfl (rfl))))))
theorem e5_32_14 (L : Nat) (o0 : Option Value) (o1 : Option Value) (o2 : Option Value) (M : zM) : zden (L + 1) 5 14 [o0, o1, o2] [] M =
  some (none, M) :=
  zd_rv zf_5 rfl
theorem e86_0 (L : Nat) (v1 : Int32) (v2 : Int32) (M : zM) : zden (L + 1) 86 0 [some (.ref 29), some (.int v1), some (.int v2)] [] M =
  if v1 = 0 then zden (L + 1) 86 32 [some (.ref 29), some (.int v1), some (.int v2)] [] M else (if v1 = 1 then zden (L + 1) 86 37 [some (.ref 29), some (.int v1), some (.int v2)] [] M else (if v1 = 2 then zden (L + 1) 86 49 [some (.ref 29), some (.int v1), some (.int v2)] [] M else (if v1 = 3 then zden (L + 1) 86 37 [some (.ref 29), some (.int v1), some (.int v2)] [] M else (zden (L + 1) 86 49 [some (.ref 29), some (.int v1), some (.int v2)] [] M)))) :=
  (zd_w zf_86 0 1 rfl).trans
  ((zsw_86_1 (lc := [some (.ref 29), some (.int v1), some (.int v2)]) (st := [])))
theorem e86_49 (L : Nat) (o0 : Option Value) (o1 : Option Value) (o2 : Option Value) (M : zM) : zden (L + 1) 86 49 [o0, o1, o2] [] M =
  some (some (.int 0), M) :=
  (zd_w zf_86 11 1 rfl).trans
  (zd_ri zf_86 rfl zr_86 rfl)
theorem e86_37 (L : Nat) (o1 : Option Value) (v2 : Int32) (M : zM) : zden (L + 1) 86 37 [some (.ref 29), o1, some (.int v2)] [] M =
  zbI (zden (L + 1) 4 0 [some (.ref 28), some (.int v2)] [] M) (fun r1 M1 => some (some (.int r1), M1)) :=
  (zd_w zf_86 5 4 rfl).trans
  (zd_ci zf_86 rfl rfl rfl rfl (fun r1 M1 => zd_ri zf_86 rfl zr_86 rfl))
theorem e86_32 (L : Nat) (o0 : Option Value) (o1 : Option Value) (v2 : Int32) (M : zM) : zden (L + 1) 86 32 [o0, o1, some (.int v2)] [] M =
  zbI (zden (L + 1) 68 0 [some (.int v2)] [] M) (fun r1 M1 => some (some (.int r1), M1)) :=
  (zd_w zf_86 2 1 rfl).trans
  (zd_ci zf_86 rfl rfl rfl rfl (fun r1 M1 => zd_ri zf_86 rfl zr_86 rfl))
theorem e4_27_0 (L : Nat) (v1 : Int32) (M : zM) : zden (L + 1) 4 0 [some (.ref 27), some (.int v1)] [] M =
  if v1 < 0 then (zden (L + 1) 4 16 [some (.ref 27), some (.int v1)] [] M) else (if v1 < 3 then (if zinb v1 3 = true then (zden (L + 1) 4 17 [some (.ref 27), some (.int v1)] [.int (M 27 v1.toNatClampNeg)] M) else none) else (zden (L + 1) 4 16 [some (.ref 27), some (.int v1)] [] M)) :=
  (zd_w zf_4 0 1 rfl).trans
  (zd_lt0 zf_4 rfl (rfl) ((zd_w zf_4 2 3 rfl).trans
  (zd_ge zf_4 rfl (rfl) ((zd_w zf_4 6 2 rfl).trans
  (zd_ld zf_4 rfl rfl (zd_goto zf_4 rfl (rfl)))))))
theorem e4_27_16 (L : Nat) (o0 : Option Value) (o1 : Option Value) (M : zM) : zden (L + 1) 4 16 [o0, o1] [] M =
  zden (L + 1) 4 17 [o0, o1] [.int 0] M :=
  (zd_w zf_4 10 1 rfl)
theorem e4_27_17 (L : Nat) (o0 : Option Value) (o1 : Option Value) (s0 : Int32) (M : zM) : zden (L + 1) 4 17 [o0, o1] [.int s0] M =
  some (some (.int s0), M) :=
  zd_ri zf_4 rfl zr_4 rfl
theorem e4_30_0 (L : Nat) (v1 : Int32) (M : zM) : zden (L + 1) 4 0 [some (.ref 30), some (.int v1)] [] M =
  if v1 < 0 then (zden (L + 1) 4 16 [some (.ref 30), some (.int v1)] [] M) else (if v1 < 100 then (if zinb v1 100 = true then (zden (L + 1) 4 17 [some (.ref 30), some (.int v1)] [.int (M 30 v1.toNatClampNeg)] M) else none) else (zden (L + 1) 4 16 [some (.ref 30), some (.int v1)] [] M)) :=
  (zd_w zf_4 0 1 rfl).trans
  (zd_lt0 zf_4 rfl (rfl) ((zd_w zf_4 2 3 rfl).trans
  (zd_ge zf_4 rfl (rfl) ((zd_w zf_4 6 2 rfl).trans
  (zd_ld zf_4 rfl rfl (zd_goto zf_4 rfl (rfl)))))))
theorem e4_30_16 (L : Nat) (o0 : Option Value) (o1 : Option Value) (M : zM) : zden (L + 1) 4 16 [o0, o1] [] M =
  zden (L + 1) 4 17 [o0, o1] [.int 0] M :=
  (zd_w zf_4 10 1 rfl)
theorem e4_30_17 (L : Nat) (o0 : Option Value) (o1 : Option Value) (s0 : Int32) (M : zM) : zden (L + 1) 4 17 [o0, o1] [.int s0] M =
  some (some (.int s0), M) :=
  zd_ri zf_4 rfl zr_4 rfl
theorem e4_32_0 (L : Nat) (v1 : Int32) (M : zM) : zden (L + 1) 4 0 [some (.ref 32), some (.int v1)] [] M =
  if v1 < 0 then (zden (L + 1) 4 16 [some (.ref 32), some (.int v1)] [] M) else (if v1 < 3 then (if zinb v1 3 = true then (zden (L + 1) 4 17 [some (.ref 32), some (.int v1)] [.int (M 32 v1.toNatClampNeg)] M) else none) else (zden (L + 1) 4 16 [some (.ref 32), some (.int v1)] [] M)) :=
  (zd_w zf_4 0 1 rfl).trans
  (zd_lt0 zf_4 rfl (rfl) ((zd_w zf_4 2 3 rfl).trans
  (zd_ge zf_4 rfl (rfl) ((zd_w zf_4 6 2 rfl).trans
  (zd_ld zf_4 rfl rfl (zd_goto zf_4 rfl (rfl)))))))
theorem e4_32_16 (L : Nat) (o0 : Option Value) (o1 : Option Value) (M : zM) : zden (L + 1) 4 16 [o0, o1] [] M =
  zden (L + 1) 4 17 [o0, o1] [.int 0] M :=
  (zd_w zf_4 10 1 rfl)
theorem e4_32_17 (L : Nat) (o0 : Option Value) (o1 : Option Value) (s0 : Int32) (M : zM) : zden (L + 1) 4 17 [o0, o1] [.int s0] M =
  some (some (.int s0), M) :=
  zd_ri zf_4 rfl zr_4 rfl
theorem e5_27_0 (L : Nat) (v1 : Int32) (v2 : Int32) (M : zM) : zden (L + 1) 5 0 [some (.ref 27), some (.int v1), some (.int v2)] [] M =
  if v1 < 0 then (zden (L + 1) 5 14 [some (.ref 27), some (.int v1), some (.int v2)] [] M) else (if v1 < 3 then (if zinb v1 3 = true then (zden (L + 1) 5 14 [some (.ref 27), some (.int v1), some (.int v2)] [] (zput M 27 v1.toNatClampNeg v2)) else none) else (zden (L + 1) 5 14 [some (.ref 27), some (.int v1), some (.int v2)] [] M)) :=
  (zd_w zf_5 0 1 rfl).trans
  (zd_lt0 zf_5 rfl (rfl) ((zd_w zf_5 2 3 rfl).trans
  (zd_ge zf_5 rfl (rfl) ((zd_w zf_5 6 3 rfl).trans
  (zd_st zf_5 rfl rfl rfl (rfl))))))
theorem e5_27_14 (L : Nat) (o0 : Option Value) (o1 : Option Value) (o2 : Option Value) (M : zM) : zden (L + 1) 5 14 [o0, o1, o2] [] M =
  some (none, M) :=
  zd_rv zf_5 rfl
theorem e5_28_0 (L : Nat) (v1 : Int32) (v2 : Int32) (M : zM) : zden (L + 1) 5 0 [some (.ref 28), some (.int v1), some (.int v2)] [] M =
  if v1 < 0 then (zden (L + 1) 5 14 [some (.ref 28), some (.int v1), some (.int v2)] [] M) else (if v1 < 3 then (if zinb v1 3 = true then (zden (L + 1) 5 14 [some (.ref 28), some (.int v1), some (.int v2)] [] (zput M 28 v1.toNatClampNeg v2)) else none) else (zden (L + 1) 5 14 [some (.ref 28), some (.int v1), some (.int v2)] [] M)) :=
  (zd_w zf_5 0 1 rfl).trans
  (zd_lt0 zf_5 rfl (rfl) ((zd_w zf_5 2 3 rfl).trans
  (zd_ge zf_5 rfl (rfl) ((zd_w zf_5 6 3 rfl).trans
  (zd_st zf_5 rfl rfl rfl (rfl))))))
theorem e5_28_14 (L : Nat) (o0 : Option Value) (o1 : Option Value) (o2 : Option Value) (M : zM) : zden (L + 1) 5 14 [o0, o1, o2] [] M =
  some (none, M) :=
  zd_rv zf_5 rfl
theorem e4_28_0 (L : Nat) (v1 : Int32) (M : zM) : zden (L + 1) 4 0 [some (.ref 28), some (.int v1)] [] M =
  if v1 < 0 then (zden (L + 1) 4 16 [some (.ref 28), some (.int v1)] [] M) else (if v1 < 3 then (if zinb v1 3 = true then (zden (L + 1) 4 17 [some (.ref 28), some (.int v1)] [.int (M 28 v1.toNatClampNeg)] M) else none) else (zden (L + 1) 4 16 [some (.ref 28), some (.int v1)] [] M)) :=
  (zd_w zf_4 0 1 rfl).trans
  (zd_lt0 zf_4 rfl (rfl) ((zd_w zf_4 2 3 rfl).trans
  (zd_ge zf_4 rfl (rfl) ((zd_w zf_4 6 2 rfl).trans
  (zd_ld zf_4 rfl rfl (zd_goto zf_4 rfl (rfl)))))))
theorem e4_28_16 (L : Nat) (o0 : Option Value) (o1 : Option Value) (M : zM) : zden (L + 1) 4 16 [o0, o1] [] M =
  zden (L + 1) 4 17 [o0, o1] [.int 0] M :=
  (zd_w zf_4 10 1 rfl)
theorem e4_28_17 (L : Nat) (o0 : Option Value) (o1 : Option Value) (s0 : Int32) (M : zM) : zden (L + 1) 4 17 [o0, o1] [.int s0] M =
  some (some (.int s0), M) :=
  zd_ri zf_4 rfl zr_4 rfl
theorem e64_0 (L : Nat) (v1 : Int32) (M : zM) : zden (L + 1) 64 0 [some (.ref 33), some (.int v1)] [] M =
  zbI (zden (L + 1) 4 0 [some (.ref 27), some (.int v1)] [] M) (fun r1 M1 => if r1 < 1000000 then (zbI (zden (L + 1) 4 0 [some (.ref 28), some (.int v1)] [] M1) (fun r2 M2 => zbI (zden (L + 1) 0 0 [some (.ref 1), some (.int 5)] [] M2) (fun r3 M3 => if r3 < r2 then (zden (L + 1) 64 42 [some (.ref 33), some (.int v1)] [] M3) else (zden (L + 1) 64 43 [some (.ref 33), some (.int v1)] [.int 1] M3)))) else (zden (L + 1) 64 42 [some (.ref 33), some (.int v1)] [] M1)) :=
  (zd_w zf_64 0 4 rfl).trans
  (zd_ci zf_64 rfl rfl rfl rfl (fun r1 M1 => (zd_w zf_64 5 1 rfl).trans
  (zd_ge zf_64 rfl (rfl) ((zd_w zf_64 7 4 rfl).trans
  (zd_ci zf_64 rfl rfl rfl rfl (fun r2 M2 => (zd_w zf_64 12 3 rfl).trans
  (zd_ci zf_64 rfl rfl rfl rfl (fun r3 M3 => zd_gt zf_64 rfl (rfl) ((zd_w zf_64 17 1 rfl).trans
  (zd_goto zf_64 rfl (rfl)))))))))))
theorem e64_42 (L : Nat) (o0 : Option Value) (o1 : Option Value) (M : zM) : zden (L + 1) 64 42 [o0, o1] [] M =
  zden (L + 1) 64 43 [o0, o1] [.int 0] M :=
  (zd_w zf_64 19 1 rfl)
theorem e64_43 (L : Nat) (o0 : Option Value) (o1 : Option Value) (s0 : Int32) (M : zM) : zden (L + 1) 64 43 [o0, o1] [.int s0] M =
  if zfit (some .boolean) s0 = true then some (some (.int s0), M) else none :=
  zd_rf zf_64 rfl zr_64
theorem e66_0 (L : Nat) (v1 : Int32) (M : zM) : zden (L + 1) 66 0 [some (.ref 33), some (.int v1), none, none] [] M =
  zden (L + 1) 66 5 [some (.ref 33), some (.int v1), some (.int 1000000), some (.int 0)] [] M :=
  (zd_w zf_66 0 4 rfl)
theorem e66_5 (L : Nat) (v1 : Int32) (v2 : Int32) (v3 : Int32) (M : zM) : zden (L + 1) 66 5 [some (.ref 33), some (.int v1), some (.int v2), some (.int v3)] [] M =
  if v3 < 100 then (zbI (zden (L + 1) 4 0 [some (.ref 34), some (.int ((v1 * 100) + v3))] [] M) (fun r1 M1 => zbI (zden (L + 1) 38 0 [some (.int v2), some (.int r1)] [] M1) (fun r2 M2 => zden (L + 1) 66 5 [some (.ref 33), some (.int v1), some (.int r2), some (.int (v3 + 1))] [] M2))) else (some (some (.int v2), M)) :=
  (zd_w zf_66 4 2 rfl).trans
  (zd_ge zf_66 rfl ((zd_w zf_66 20 1 rfl).trans
  (zd_ri zf_66 rfl zr_66 rfl)) ((zd_w zf_66 7 8 rfl).trans
  (zd_ci zf_66 rfl rfl rfl rfl (fun r1 M1 => zd_ci zf_66 rfl rfl rfl rfl (fun r2 M2 => (zd_w zf_66 17 2 rfl).trans
  (zd_goto zf_66 rfl (rfl)))))))
theorem e69_0 (L : Nat) (v1 : Int32) (v2 : Int32) (v3 : Int32) (v4 : Int32) (M : zM) : zden (L + 1) 69 0 [some (.ref 33), some (.int v1), some (.int v2), some (.int v3), some (.int v4), none, none, none, none, none, none] [] M =
  zbI (zden (L + 1) 4 0 [some (.ref 34), some (.int ((v1 * 100) + v2))] [] M) (fun r1 M1 => if r1 < 1000000 then (zbV (zden (L + 1) 5 0 [some (.ref 34), some (.int ((v1 * 100) + v2)), some (.int 1000000)] [] M1) (fun M2 => zden (L + 1) 69 41 [some (.ref 33), some (.int v1), some (.int v2), some (.int v3), some (.int v4), some (.int ((v1 * 100) + v2)), some (.int r1), some (.int 0), none, none, none] [] M2)) else (some (none, M1))) :=
  (zd_w zf_69 0 9 rfl).trans
  (zd_ci zf_69 rfl rfl rfl rfl (fun r1 M1 => (zd_w zf_69 10 3 rfl).trans
  (zd_lt zf_69 rfl ((zd_w zf_69 15 4 rfl).trans
  (zd_cv zf_69 rfl rfl rfl rfl (fun M2 => (zd_w zf_69 20 2 rfl)))) (zd_rv zf_69 rfl))))
theorem e69_41 (L : Nat) (v1 : Int32) (v2 : Int32) (v3 : Int32) (v4 : Int32) (o5 : Option Value) (v6 : Int32) (v7 : Int32) (o8 : Option Value) (o9 : Option Value) (o10 : Option Value) (M : zM) : zden (L + 1) 69 41 [some (.ref 33), some (.int v1), some (.int v2), some (.int v3), some (.int v4), o5, some (.int v6), some (.int v7), o8, o9, o10] [] M =
  if v7 < 3 then (zbI (zden (L + 1) 4 0 [some (.ref 27), some (.int v7)] [] M) (fun r1 M1 => zbI (zden (L + 1) 4 0 [some (.ref 28), some (.int v7)] [] M1) (fun r2 M2 => if v2 < r1 then (zden (L + 1) 69 145 [some (.ref 33), some (.int v1), some (.int v2), some (.int v3), some (.int v4), o5, some (.int v6), some (.int v7), some (.int r1), some (.int ((v1 + r2) - v3)), o10] [] M2) else (if v4 < ((v1 + r2) - v3) then (zden (L + 1) 69 145 [some (.ref 33), some (.int v1), some (.int v2), some (.int v3), some (.int v4), o5, some (.int v6), some (.int v7), some (.int r1), some (.int ((v1 + r2) - v3)), o10] [] M2) else (zbI (zden (L + 1) 64 0 [some (.ref 33), some (.int v7)] [] M2) (fun r3 M3 => if r3 = 0 then (zden (L + 1) 69 145 [some (.ref 33), some (.int v1), some (.int v2), some (.int v3), some (.int v4), o5, some (.int v6), some (.int v7), some (.int r1), some (.int ((v1 + r2) - v3)), o10] [] M3) else (zbI (zden (L + 1) 67 0 [some (.int r1)] [] M3) (fun r4 M4 => zbI (zden (L + 1) 4 0 [some (.ref 34), some (.int (((((v1 + r2) - v3) * 100) + v2) - r4))] [] M4) (fun r5 M5 => zbI (zden (L + 1) 68 0 [some (.int v7)] [] M5) (fun r6 M6 => zbI (zden (L + 1) 38 0 [some (.int r5), some (.int (v6 + r6))] [] M6) (fun r7 M7 => zbV (zden (L + 1) 5 0 [some (.ref 34), some (.int (((((v1 + r2) - v3) * 100) + v2) - r4)), some (.int r7)] [] M7) (fun M8 => zden (L + 1) 69 145 [some (.ref 33), some (.int v1), some (.int v2), some (.int v3), some (.int v4), o5, some (.int v6), some (.int v7), some (.int r1), some (.int ((v1 + r2) - v3)), some (.int (((((v1 + r2) - v3) * 100) + v2) - r4))] [] M8)))))))))))) else (some (none, M)) :=
  (zd_w zf_69 22 2 rfl).trans
  (zd_ge zf_69 rfl (zd_rv zf_69 rfl) ((zd_w zf_69 25 4 rfl).trans
  (zd_ci zf_69 rfl rfl rfl rfl (fun r1 M1 => (zd_w zf_69 30 6 rfl).trans
  (zd_ci zf_69 rfl rfl rfl rfl (fun r2 M2 => (zd_w zf_69 37 6 rfl).trans
  (zd_gt zf_69 rfl (rfl) ((zd_w zf_69 44 2 rfl).trans
  (zd_gt zf_69 rfl (rfl) ((zd_w zf_69 47 2 rfl).trans
  (zd_ci zf_69 rfl rfl rfl rfl (fun r3 M3 => zd_eq0 zf_69 rfl (rfl) ((zd_w zf_69 51 6 rfl).trans
  (zd_ci zf_69 rfl rfl rfl rfl (fun r4 M4 => (zd_w zf_69 58 8 rfl).trans
  (zd_ci zf_69 rfl rfl rfl rfl (fun r5 M5 => (zd_w zf_69 67 2 rfl).trans
  (zd_ci zf_69 rfl rfl rfl rfl (fun r6 M6 => (zd_w zf_69 70 1 rfl).trans
  (zd_ci zf_69 rfl rfl rfl rfl (fun r7 M7 => zd_cv zf_69 rfl rfl rfl rfl (fun M8 => rfl))))))))))))))))))))))
theorem e69_145 (L : Nat) (v1 : Int32) (v2 : Int32) (v3 : Int32) (v4 : Int32) (o5 : Option Value) (v6 : Int32) (v7 : Int32) (o8 : Option Value) (o9 : Option Value) (o10 : Option Value) (M : zM) : zden (L + 1) 69 145 [some (.ref 33), some (.int v1), some (.int v2), some (.int v3), some (.int v4), o5, some (.int v6), some (.int v7), o8, o9, o10] [] M =
  zden (L + 1) 69 41 [some (.ref 33), some (.int v1), some (.int v2), some (.int v3), some (.int v4), o5, some (.int v6), some (.int (v7 + 1)), o8, o9, o10] [] M :=
  (zd_w zf_69 73 1 rfl).trans
  (zd_goto zf_69 rfl (rfl))
