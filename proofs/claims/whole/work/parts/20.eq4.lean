theorem e79_0 (L : Nat) (v1 : Int32) (v2 : Int32) (M : zM) : zden (L + 1) 79 0 [some (.ref 35), some (.int v1), some (.int v2), none] [] M =
  zbI (zden (L + 1) 4 0 [some (.ref 3), some (.int v1)] [] M) (fun r1 M1 => zbI (zden (L + 1) 4 0 [some (.ref 2), some (.int v1)] [] M1) (fun r2 M2 => zbI (zden (L + 1) 59 0 [some (.int (v2 * (r1 + r2))), some (.int (2 * r1))] [] M2) (fun r3 M3 => zbI (zden (L + 1) 38 0 [some (.int v2), some (.int r3)] [] M3) (fun r4 M4 => some (some (.int r4), M4))))) :=
  (zd_w zf_79 0 4 rfl).trans
  (zd_ci zf_79 rfl rfl rfl rfl (fun r1 M1 => (zd_w zf_79 5 8 rfl).trans
  (zd_ci zf_79 rfl rfl rfl rfl (fun r2 M2 => (zd_w zf_79 14 5 rfl).trans
  (zd_ci zf_79 rfl rfl rfl rfl (fun r3 M3 => zd_ci zf_79 rfl rfl rfl rfl (fun r4 M4 => zd_ri zf_79 rfl zr_79 rfl)))))))
theorem e5_39_0 (L : Nat) (v1 : Int32) (v2 : Int32) (M : zM) : zden (L + 1) 5 0 [some (.ref 39), some (.int v1), some (.int v2)] [] M =
  if v1 < 0 then (zden (L + 1) 5 14 [some (.ref 39), some (.int v1), some (.int v2)] [] M) else (if v1 < 49 then (if zinb v1 49 = true then (zden (L + 1) 5 14 [some (.ref 39), some (.int v1), some (.int v2)] [] (zput M 39 v1.toNatClampNeg v2)) else none) else (zden (L + 1) 5 14 [some (.ref 39), some (.int v1), some (.int v2)] [] M)) :=
  (zd_w zf_5 0 1 rfl).trans
  (zd_lt0 zf_5 rfl (rfl) ((zd_w zf_5 2 3 rfl).trans
  (zd_ge zf_5 rfl (rfl) ((zd_w zf_5 6 3 rfl).trans
  (zd_st zf_5 rfl rfl rfl (rfl))))))
theorem e5_39_14 (L : Nat) (o0 : Option Value) (o1 : Option Value) (o2 : Option Value) (M : zM) : zden (L + 1) 5 14 [o0, o1, o2] [] M =
  some (none, M) :=
  zd_rv zf_5 rfl
theorem e146_0 (L : Nat) (v1 : Int32) (M : zM) : zden (L + 1) 146 0 [some (.ref 48), some (.int v1), none, none, none, none] [] M =
  zden (L + 1) 146 2 [some (.ref 48), some (.int v1), some (.int 0), none, none, none] [] M :=
  (zd_w zf_146 0 2 rfl)
theorem e146_2 (L : Nat) (v1 : Int32) (v2 : Int32) (o3 : Option Value) (o4 : Option Value) (o5 : Option Value) (M : zM) : zden (L + 1) 146 2 [some (.ref 48), some (.int v1), some (.int v2), o3, o4, o5] [] M =
  if v2 < v1 then (zden (L + 1) 146 12 [some (.ref 48), some (.int v1), some (.int v2), some (.int 0), some (.int 0), o5] [] M) else (some (some (.int 1), M)) :=
  (zd_w zf_146 2 2 rfl).trans
  (zd_ge zf_146 rfl ((zd_w zf_146 95 1 rfl).trans
  (zd_ri zf_146 rfl zr_146 rfl)) ((zd_w zf_146 5 4 rfl)))
theorem e146_12 (L : Nat) (v1 : Int32) (v2 : Int32) (v3 : Int32) (v4 : Int32) (o5 : Option Value) (M : zM) : zden (L + 1) 146 12 [some (.ref 48), some (.int v1), some (.int v2), some (.int v3), some (.int v4), o5] [] M =
  if (M 48 11) < (M 48 3) then (if zinb (M 48 11) 200 = true then (zbI (zden (L + 1) 143 0 [some (.long ((M 51 (M 48 11).toNatClampNeg).toInt64)), none, some (.long 48), none, some (.long 57), none] [] M) (fun r1 M1 => if r1 = 0 then (zden (L + 1) 146 89 [some (.ref 48), some (.int v1), some (.int v2), some (.int v3), some (.int v4), o5] [] M1) else (if v4 < 2 then (if zinb (M1 48 11) 200 = true then (zden (L + 1) 146 72 [some (.ref 48), some (.int v1), some (.int v2), some (.int v3), some (.int v4), o5] [.int (((10 * v3) + (M1 51 (M1 48 11).toNatClampNeg)) - 48)] M1) else none) else (zden (L + 1) 146 72 [some (.ref 48), some (.int v1), some (.int v2), some (.int v3), some (.int v4), o5] [.int v3] M1)))) else none) else (zden (L + 1) 146 89 [some (.ref 48), some (.int v1), some (.int v2), some (.int v3), some (.int v4), o5] [] M) :=
  (zd_w zf_146 9 4 rfl).trans
  (zd_ge zf_146 rfl (rfl) ((zd_w zf_146 14 4 rfl).trans
  (zd_ld zf_146 rfl rfl ((zd_w zf_146 19 3 rfl).trans
  (zd_ci zf_146 rfl rfl rfl rfl (fun r1 M1 => zd_eq0 zf_146 rfl (rfl) ((zd_w zf_146 24 2 rfl).trans
  (zd_ge zf_146 rfl ((zd_w zf_146 39 1 rfl)) ((zd_w zf_146 27 7 rfl).trans
  (zd_ld zf_146 rfl rfl ((zd_w zf_146 35 3 rfl).trans
  (zd_goto zf_146 rfl (rfl)))))))))))))
theorem e146_89 (L : Nat) (v1 : Int32) (v2 : Int32) (v3 : Int32) (v4 : Int32) (o5 : Option Value) (M : zM) : zden (L + 1) 146 89 [some (.ref 48), some (.int v1), some (.int v2), some (.int v3), some (.int v4), o5] [] M =
  if (M 48 11) < (M 48 3) then (if zinb (M 48 11) 200 = true then (if v2 < (v1 - 1) then (zden (L + 1) 146 123 [some (.ref 48), some (.int v1), some (.int v2), some (.int v3), some (.int v4), o5] [.int 44, .int (M 51 (M 48 11).toNatClampNeg)] M) else (zden (L + 1) 146 123 [some (.ref 48), some (.int v1), some (.int v2), some (.int v3), some (.int v4), o5] [.int 59, .int (M 51 (M 48 11).toNatClampNeg)] M)) else none) else (zden (L + 1) 146 130 [some (.ref 48), some (.int v1), some (.int v2), some (.int v3), some (.int v4), o5] [] M) :=
  (zd_w zf_146 49 4 rfl).trans
  (zd_ge zf_146 rfl (rfl) ((zd_w zf_146 54 4 rfl).trans
  (zd_ld zf_146 rfl rfl ((zd_w zf_146 59 4 rfl).trans
  (zd_ge zf_146 rfl ((zd_w zf_146 66 1 rfl)) ((zd_w zf_146 64 1 rfl).trans
  (zd_goto zf_146 rfl (rfl))))))))
theorem e146_72 (L : Nat) (v1 : Int32) (v2 : Int32) (o3 : Option Value) (v4 : Int32) (o5 : Option Value) (s0 : Int32) (M : zM) : zden (L + 1) 146 72 [some (.ref 48), some (.int v1), some (.int v2), o3, some (.int v4), o5] [.int s0] M =
  zden (L + 1) 146 12 [some (.ref 48), some (.int v1), some (.int v2), some (.int s0), some (.int (v4 + 1)), o5] [] (zput M 48 11 ((M 48 11) + 1)) :=
  (zd_w zf_146 40 8 rfl).trans
  (zd_goto zf_146 rfl (rfl))
theorem e146_130 (L : Nat) (v1 : Int32) (v2 : Int32) (v3 : Int32) (v4 : Int32) (o5 : Option Value) (M : zM) : zden (L + 1) 146 130 [some (.ref 48), some (.int v1), some (.int v2), some (.int v3), some (.int v4), o5] [] M =
  zden (L + 1) 146 131 [some (.ref 48), some (.int v1), some (.int v2), some (.int v3), some (.int v4), o5] [.int 0] M :=
  (zd_w zf_146 70 1 rfl)
theorem e146_123 (L : Nat) (v1 : Int32) (v2 : Int32) (v3 : Int32) (v4 : Int32) (o5 : Option Value) (s0 : Int32) (s1 : Int32) (M : zM) : zden (L + 1) 146 123 [some (.ref 48), some (.int v1), some (.int v2), some (.int v3), some (.int v4), o5] [.int s0, .int s1] M =
  if s1 = s0 then (zden (L + 1) 146 131 [some (.ref 48), some (.int v1), some (.int v2), some (.int v3), some (.int v4), o5] [.int 1] M) else (zden (L + 1) 146 130 [some (.ref 48), some (.int v1), some (.int v2), some (.int v3), some (.int v4), o5] [] M) :=
  zd_ne zf_146 rfl (rfl) ((zd_w zf_146 68 1 rfl).trans
  (zd_goto zf_146 rfl (rfl)))
theorem e146_131 (L : Nat) (v1 : Int32) (v2 : Int32) (v3 : Int32) (v4 : Int32) (o5 : Option Value) (s0 : Int32) (M : zM) : zden (L + 1) 146 131 [some (.ref 48), some (.int v1), some (.int v2), some (.int v3), some (.int v4), o5] [.int s0] M =
  zbI (zden (L + 1) 143 0 [some (.long v4.toInt64), none, some (.long 1), none, some (.long 2), none] [] M) (fun r1 M1 => if r1 = 0 then (zden (L + 1) 146 151 [some (.ref 48), some (.int v1), some (.int v2), some (.int v3), some (.int v4), some (.int s0)] [] M1) else (if s0 = 0 then (zden (L + 1) 146 151 [some (.ref 48), some (.int v1), some (.int v2), some (.int v3), some (.int v4), some (.int s0)] [] M1) else (if zinb v2 3 = true then (zden (L + 1) 146 2 [some (.ref 48), some (.int v1), some (.int (v2 + 1)), some (.int v3), some (.int v4), some (.int s0)] [] (zput (zput M1 56 v2.toNatClampNeg v3) 48 11 (((zput M1 56 v2.toNatClampNeg v3) 48 11) + 1))) else none))) :=
  (zd_w zf_146 71 5 rfl).trans
  (zd_ci zf_146 rfl rfl rfl rfl (fun r1 M1 => zd_eq0 zf_146 rfl (rfl) ((zd_w zf_146 78 1 rfl).trans
  (zd_ne0 zf_146 rfl ((zd_w zf_146 82 4 rfl).trans
  (zd_st zf_146 rfl rfl rfl ((zd_w zf_146 87 7 rfl).trans
  (zd_goto zf_146 rfl (rfl))))) (rfl)))))
theorem e146_151 (L : Nat) (o0 : Option Value) (o1 : Option Value) (o2 : Option Value) (o3 : Option Value) (o4 : Option Value) (o5 : Option Value) (M : zM) : zden (L + 1) 146 151 [o0, o1, o2, o3, o4, o5] [] M =
  some (some (.int 0), M) :=
  (zd_w zf_146 80 1 rfl).trans
  (zd_ri zf_146 rfl zr_146 rfl)
theorem e147_0 (L : Nat) (v1 : Int32) (v2 : Int32) (v3 : Int32) (M : zM) : zden (L + 1) 147 0 [some (.ref 48), some (.int v1), some (.int v2), some (.int v3)] [] M =
  if zinb v1 3 = true then (zbI (zden (L + 1) 143 0 [some (.long ((M 56 v1.toNatClampNeg).toInt64)), none, some (.long v2.toInt64), none, some (.long v3.toInt64), none] [] M) (fun r1 M1 => if zfit (some .boolean) r1 = true then some (some (.int r1), M1) else none)) else none :=
  (zd_w zf_147 0 3 rfl).trans
  (zd_ld zf_147 rfl rfl ((zd_w zf_147 4 5 rfl).trans
  (zd_ci zf_147 rfl rfl rfl rfl (fun r1 M1 => zd_rf zf_147 rfl zr_147))))
theorem e149_0 (L : Nat)  (M : zM) : zden (L + 1) 149 0 [some (.ref 48), none] [] M =
  zbI (zden (L + 1) 146 0 [some (.ref 48), some (.int 2), none, none, none, none] [] M) (fun r1 M1 => if r1 = 0 then (zden (L + 1) 149 42 [some (.ref 48), none] [] M1) else (zbI (zden (L + 1) 147 0 [some (.ref 48), some (.int 0), some (.int 1), some (.int 30)] [] M1) (fun r2 M2 => if r2 = 0 then (zden (L + 1) 149 42 [some (.ref 48), none] [] M2) else (zbI (zden (L + 1) 147 0 [some (.ref 48), some (.int 1), some (.int 10), some (.int 60)] [] M2) (fun r3 M3 => if r3 = 0 then (zden (L + 1) 149 42 [some (.ref 48), none] [] M3) else (if (M3 50 0) = 12 then (zden (L + 1) 149 42 [some (.ref 48), none] [] M3) else (zbI (zden (L + 1) 148 0 [some (.ref 48), some (.int 0)] [] M3) (fun r4 M4 => if zinb (16 + r4) 116 = true then (if zinb (28 + r4) 116 = true then (some (some (.int 1), zput (zput M4 50 (16 + r4).toNatClampNeg (M4 56 0)) 50 (28 + r4).toNatClampNeg ((zput M4 50 (16 + r4).toNatClampNeg (M4 56 0)) 56 1))) else none) else none)))))))) :=
  (zd_w zf_149 0 2 rfl).trans
  (zd_ci zf_149 rfl rfl rfl rfl (fun r1 M1 => zd_eq0 zf_149 rfl (rfl) ((zd_w zf_149 4 4 rfl).trans
  (zd_ci zf_149 rfl rfl rfl rfl (fun r2 M2 => zd_eq0 zf_149 rfl (rfl) ((zd_w zf_149 10 4 rfl).trans
  (zd_ci zf_149 rfl rfl rfl rfl (fun r3 M3 => zd_eq0 zf_149 rfl (rfl) ((zd_w zf_149 16 5 rfl).trans
  (zd_ne zf_149 rfl ((zd_w zf_149 24 2 rfl).trans
  (zd_ci zf_149 rfl rfl rfl rfl (fun r4 M4 => (zd_w zf_149 27 10 rfl).trans
  (zd_st zf_149 rfl rfl rfl ((zd_w zf_149 38 9 rfl).trans
  (zd_st zf_149 rfl rfl rfl ((zd_w zf_149 48 1 rfl).trans
  (zd_ri zf_149 rfl zr_149 rfl)))))))) (rfl)))))))))))
theorem e149_42 (L : Nat) (o0 : Option Value) (o1 : Option Value) (M : zM) : zden (L + 1) 149 42 [o0, o1] [] M =
  some (some (.int 0), M) :=
  (zd_w zf_149 22 1 rfl).trans
  (zd_ri zf_149 rfl zr_149 rfl)
theorem e150_0 (L : Nat) (v1 : Int32) (v2 : Int32) (M : zM) : zden (L + 1) 150 0 [some (.ref 48), some (.int v1), some (.int v2), none] [] M =
  zden (L + 1) 150 2 [some (.ref 48), some (.int v1), some (.int v2), some (.int 0)] [] M :=
  (zd_w zf_150 0 2 rfl)
theorem e150_2 (L : Nat) (v1 : Int32) (v2 : Int32) (v3 : Int32) (M : zM) : zden (L + 1) 150 2 [some (.ref 48), some (.int v1), some (.int v2), some (.int v3)] [] M =
  if v3 < v2 then (if zinb v3 3 = true then (if zinb (v1 + v3) 116 = true then (zden (L + 1) 150 2 [some (.ref 48), some (.int v1), some (.int v2), some (.int (v3 + 1))] [] (zput M 50 (v1 + v3).toNatClampNeg (M 56 v3.toNatClampNeg))) else none) else none) else (some (some (.int 1), M)) :=
  (zd_w zf_150 2 2 rfl).trans
  (zd_ge zf_150 rfl ((zd_w zf_150 17 1 rfl).trans
  (zd_ri zf_150 rfl zr_150 rfl)) ((zd_w zf_150 5 8 rfl).trans
  (zd_ld zf_150 rfl rfl (zd_st zf_150 rfl rfl rfl ((zd_w zf_150 15 1 rfl).trans
  (zd_goto zf_150 rfl (rfl)))))))
theorem e151_0 (L : Nat)  (M : zM) : zden (L + 1) 151 0 [some (.ref 48), none] [] M =
  zbI (zden (L + 1) 146 0 [some (.ref 48), some (.int 2), none, none, none, none] [] M) (fun r1 M1 => if r1 = 0 then (zden (L + 1) 151 40 [some (.ref 48), none] [] M1) else (zbI (zden (L + 1) 147 0 [some (.ref 48), some (.int 0), some (.int 1), some (.int 99)] [] M1) (fun r2 M2 => if r2 = 0 then (zden (L + 1) 151 40 [some (.ref 48), none] [] M2) else (zbI (zden (L + 1) 147 0 [some (.ref 48), some (.int 1), some (.int 0), some (.int 10)] [] M2) (fun r3 M3 => if r3 = 0 then (zden (L + 1) 151 40 [some (.ref 48), none] [] M3) else (if (M3 50 1) = 4 then (zden (L + 1) 151 40 [some (.ref 48), none] [] M3) else (zbI (zden (L + 1) 148 0 [some (.ref 48), some (.int 1)] [] M3) (fun r4 M4 => if zinb (40 + r4) 116 = true then (if zinb (44 + r4) 116 = true then (some (some (.int 1), zput (zput M4 50 (40 + r4).toNatClampNeg (M4 56 0)) 50 (44 + r4).toNatClampNeg ((zput M4 50 (40 + r4).toNatClampNeg (M4 56 0)) 56 1))) else none) else none)))))))) :=
  (zd_w zf_151 0 2 rfl).trans
  (zd_ci zf_151 rfl rfl rfl rfl (fun r1 M1 => zd_eq0 zf_151 rfl (rfl) ((zd_w zf_151 4 4 rfl).trans
  (zd_ci zf_151 rfl rfl rfl rfl (fun r2 M2 => zd_eq0 zf_151 rfl (rfl) ((zd_w zf_151 10 4 rfl).trans
  (zd_ci zf_151 rfl rfl rfl rfl (fun r3 M3 => zd_eq0 zf_151 rfl (rfl) ((zd_w zf_151 16 5 rfl).trans
  (zd_ne zf_151 rfl ((zd_w zf_151 24 2 rfl).trans
  (zd_ci zf_151 rfl rfl rfl rfl (fun r4 M4 => (zd_w zf_151 27 10 rfl).trans
  (zd_st zf_151 rfl rfl rfl ((zd_w zf_151 38 9 rfl).trans
  (zd_st zf_151 rfl rfl rfl ((zd_w zf_151 48 1 rfl).trans
  (zd_ri zf_151 rfl zr_151 rfl)))))))) (rfl)))))))))))
theorem e151_40 (L : Nat) (o0 : Option Value) (o1 : Option Value) (M : zM) : zden (L + 1) 151 40 [o0, o1] [] M =
  some (some (.int 0), M) :=
  (zd_w zf_151 22 1 rfl).trans
  (zd_ri zf_151 rfl zr_151 rfl)
theorem e152_0 (L : Nat)  (M : zM) : zden (L + 1) 152 0 [some (.ref 48)] [] M =
  zbI (zden (L + 1) 146 0 [some (.ref 48), some (.int 2), none, none, none, none] [] M) (fun r1 M1 => if r1 = 0 then (zden (L + 1) 152 30 [some (.ref 48)] [] M1) else (zbI (zden (L + 1) 147 0 [some (.ref 48), some (.int 0), some (.int 0), some (.int 23)] [] M1) (fun r2 M2 => if r2 = 0 then (zden (L + 1) 152 30 [some (.ref 48)] [] M2) else (zbI (zden (L + 1) 147 0 [some (.ref 48), some (.int 1), some (.int 0), some (.int 9)] [] M2) (fun r3 M3 => if r3 = 0 then (zden (L + 1) 152 30 [some (.ref 48)] [] M3) else (if zinb (48 + (M3 56 0)) 116 = true then (some (some (.int 1), zput M3 50 (48 + (M3 56 0)).toNatClampNeg (M3 56 1))) else none)))))) :=
  (zd_w zf_152 0 2 rfl).trans
  (zd_ci zf_152 rfl rfl rfl rfl (fun r1 M1 => zd_eq0 zf_152 rfl (rfl) ((zd_w zf_152 4 4 rfl).trans
  (zd_ci zf_152 rfl rfl rfl rfl (fun r2 M2 => zd_eq0 zf_152 rfl (rfl) ((zd_w zf_152 10 4 rfl).trans
  (zd_ci zf_152 rfl rfl rfl rfl (fun r3 M3 => zd_ne0 zf_152 rfl ((zd_w zf_152 18 12 rfl).trans
  (zd_st zf_152 rfl rfl rfl ((zd_w zf_152 31 1 rfl).trans
  (zd_ri zf_152 rfl zr_152 rfl)))) (rfl)))))))))
theorem e152_30 (L : Nat) (o0 : Option Value) (M : zM) : zden (L + 1) 152 30 [o0] [] M =
  some (some (.int 0), M) :=
  (zd_w zf_152 16 1 rfl).trans
  (zd_ri zf_152 rfl zr_152 rfl)
theorem e153_0 (L : Nat)  (M : zM) : zden (L + 1) 153 0 [some (.ref 48)] [] M =
  zbI (zden (L + 1) 146 0 [some (.ref 48), some (.int 1), none, none, none, none] [] M) (fun r1 M1 => if r1 = 0 then (zden (L + 1) 153 30 [some (.ref 48)] [] M1) else (zbI (zden (L + 1) 147 0 [some (.ref 48), some (.int 0), some (.int 0), some (.int 60)] [] M1) (fun r2 M2 => if r2 = 0 then (zden (L + 1) 153 30 [some (.ref 48)] [] M2) else (if (M2 50 2) = 7 then (zden (L + 1) 153 30 [some (.ref 48)] [] M2) else (zbI (zden (L + 1) 148 0 [some (.ref 48), some (.int 2)] [] M2) (fun r3 M3 => zbI (zden (L + 1) 150 0 [some (.ref 48), some (.int (72 + r3)), some (.int 1), none] [] M3) (fun r4 M4 => if zfit (some .boolean) r4 = true then some (some (.int r4), M4) else none))))))) :=
  (zd_w zf_153 0 2 rfl).trans
  (zd_ci zf_153 rfl rfl rfl rfl (fun r1 M1 => zd_eq0 zf_153 rfl (rfl) ((zd_w zf_153 4 4 rfl).trans
  (zd_ci zf_153 rfl rfl rfl rfl (fun r2 M2 => zd_eq0 zf_153 rfl (rfl) ((zd_w zf_153 10 5 rfl).trans
  (zd_ne zf_153 rfl ((zd_w zf_153 18 4 rfl).trans
  (zd_ci zf_153 rfl rfl rfl rfl (fun r3 M3 => (zd_w zf_153 23 2 rfl).trans
  (zd_ci zf_153 rfl rfl rfl rfl (fun r4 M4 => zd_rf zf_153 rfl zr_153))))) (rfl))))))))
theorem e153_30 (L : Nat) (o0 : Option Value) (M : zM) : zden (L + 1) 153 30 [o0] [] M =
  some (some (.int 0), M) :=
  (zd_w zf_153 16 1 rfl).trans
  (zd_ri zf_153 rfl zr_153 rfl)
theorem e154_0 (L : Nat)  (M : zM) : zden (L + 1) 154 0 [some (.ref 48), none, none] [] M =
  zbI (zden (L + 1) 146 0 [some (.ref 48), some (.int 3), none, none, none, none] [] M) (fun r1 M1 => if r1 = 0 then (zden (L + 1) 154 74 [some (.ref 48), some (.int ((M 50 2) - 1)), none] [] M1) else (zbI (zden (L + 1) 147 0 [some (.ref 48), some (.int 0), some (.int 0), some (.int ((M 50 2) - 1))] [] M1) (fun r2 M2 => if r2 = 0 then (zden (L + 1) 154 74 [some (.ref 48), some (.int ((M 50 2) - 1)), none] [] M2) else (zbI (zden (L + 1) 147 0 [some (.ref 48), some (.int 1), some (.int 0), some (.int ((M 50 2) - 1))] [] M2) (fun r3 M3 => if r3 = 0 then (zden (L + 1) 154 74 [some (.ref 48), some (.int ((M 50 2) - 1)), none] [] M3) else (if (M3 56 0) = (M3 56 1) then (zden (L + 1) 154 74 [some (.ref 48), some (.int ((M 50 2) - 1)), none] [] M3) else (zbI (zden (L + 1) 147 0 [some (.ref 48), some (.int 2), some (.int 1), some (.int 60)] [] M3) (fun r4 M4 => if r4 = 0 then (zden (L + 1) 154 74 [some (.ref 48), some (.int ((M 50 2) - 1)), none] [] M4) else (if (M4 50 3) = 10 then (zden (L + 1) 154 74 [some (.ref 48), some (.int ((M 50 2) - 1)), none] [] M4) else (zbI (zden (L + 1) 148 0 [some (.ref 48), some (.int 3)] [] M4) (fun r5 M5 => if zinb (86 + r5) 116 = true then (if zinb (96 + r5) 116 = true then (if zinb (106 + r5) 116 = true then (some (some (.int 1), zput (zput (zput M5 50 (86 + r5).toNatClampNeg (M5 56 0)) 50 (96 + r5).toNatClampNeg ((zput M5 50 (86 + r5).toNatClampNeg (M5 56 0)) 56 1)) 50 (106 + r5).toNatClampNeg ((zput (zput M5 50 (86 + r5).toNatClampNeg (M5 56 0)) 50 (96 + r5).toNatClampNeg ((zput M5 50 (86 + r5).toNatClampNeg (M5 56 0)) 56 1)) 56 2))) else none) else none) else none))))))))))) :=
  (zd_w zf_154 0 9 rfl).trans
  (zd_ci zf_154 rfl rfl rfl rfl (fun r1 M1 => zd_eq0 zf_154 rfl (rfl) ((zd_w zf_154 11 4 rfl).trans
  (zd_ci zf_154 rfl rfl rfl rfl (fun r2 M2 => zd_eq0 zf_154 rfl (rfl) ((zd_w zf_154 17 4 rfl).trans
  (zd_ci zf_154 rfl rfl rfl rfl (fun r3 M3 => zd_eq0 zf_154 rfl (rfl) ((zd_w zf_154 23 8 rfl).trans
  (zd_eq zf_154 rfl (rfl) ((zd_w zf_154 32 4 rfl).trans
  (zd_ci zf_154 rfl rfl rfl rfl (fun r4 M4 => zd_eq0 zf_154 rfl (rfl) ((zd_w zf_154 38 5 rfl).trans
  (zd_ne zf_154 rfl ((zd_w zf_154 46 2 rfl).trans
  (zd_ci zf_154 rfl rfl rfl rfl (fun r5 M5 => (zd_w zf_154 49 10 rfl).trans
  (zd_st zf_154 rfl rfl rfl ((zd_w zf_154 60 9 rfl).trans
  (zd_st zf_154 rfl rfl rfl ((zd_w zf_154 70 9 rfl).trans
  (zd_st zf_154 rfl rfl rfl ((zd_w zf_154 80 1 rfl).trans
  (zd_ri zf_154 rfl zr_154 rfl)))))))))) (rfl))))))))))))))))
theorem e154_74 (L : Nat) (o0 : Option Value) (o1 : Option Value) (o2 : Option Value) (M : zM) : zden (L + 1) 154 74 [o0, o1, o2] [] M =
  some (some (.int 0), M) :=
  (zd_w zf_154 44 1 rfl).trans
  (zd_ri zf_154 rfl zr_154 rfl)
theorem e155_0 (L : Nat)  (M : zM) : zden (L + 1) 155 0 [some (.ref 48)] [] M =
  zbI (zden (L + 1) 146 0 [some (.ref 48), some (.int 1), none, none, none, none] [] M) (fun r1 M1 => if r1 = 0 then (zden (L + 1) 155 25 [some (.ref 48)] [] M1) else (zbI (zden (L + 1) 147 0 [some (.ref 48), some (.int 0), some (.int 0), some (.int ((M1 50 2) - 1))] [] M1) (fun r2 M2 => if r2 = 0 then (zden (L + 1) 155 25 [some (.ref 48)] [] M2) else (if zinb (79 + (M2 56 0)) 116 = true then (some (some (.int 1), zput M2 50 (79 + (M2 56 0)).toNatClampNeg 1)) else none)))) :=
  (zd_w zf_155 0 2 rfl).trans
  (zd_ci zf_155 rfl rfl rfl rfl (fun r1 M1 => zd_eq0 zf_155 rfl (rfl) ((zd_w zf_155 4 9 rfl).trans
  (zd_ci zf_155 rfl rfl rfl rfl (fun r2 M2 => zd_ne0 zf_155 rfl ((zd_w zf_155 17 9 rfl).trans
  (zd_st zf_155 rfl rfl rfl ((zd_w zf_155 27 1 rfl).trans
  (zd_ri zf_155 rfl zr_155 rfl)))) (rfl))))))
theorem e155_25 (L : Nat) (o0 : Option Value) (M : zM) : zden (L + 1) 155 25 [o0] [] M =
  some (some (.int 0), M) :=
  (zd_w zf_155 15 1 rfl).trans
  (zd_ri zf_155 rfl zr_155 rfl)
theorem e19_18_0 (L : Nat) (v1 : Int32) (M : zM) : zden (L + 1) 19 0 [some (.ref 18), some (.int v1), none, none] [] M =
  zden (L + 1) 19 5 [some (.ref 18), some (.int v1), some (.int 0), some (.int 24)] [] M :=
  (zd_w zf_19 0 5 rfl)
theorem e19_18_5 (L : Nat) (v1 : Int32) (v2 : Int32) (v3 : Int32) (M : zM) : zden (L + 1) 19 5 [some (.ref 18), some (.int v1), some (.int v2), some (.int v3)] [] M =
  if v2 < v3 then (if zinb v2 24 = true then (zden (L + 1) 19 5 [some (.ref 18), some (.int v1), some (.int (v2 + 1)), some (.int v3)] [] (zput M 18 v2.toNatClampNeg v1)) else none) else (some (none, M)) :=
  (zd_w zf_19 5 2 rfl).trans
  (zd_ge zf_19 rfl (zd_rv zf_19 rfl) ((zd_w zf_19 8 3 rfl).trans
  (zd_st zf_19 rfl rfl rfl ((zd_w zf_19 12 1 rfl).trans
  (zd_goto zf_19 rfl (rfl))))))
theorem e31_63_15_0 (L : Nat)  (M : zM) : zden (L + 1) 31 0 [some (.ref 63), some (.ref 15), none] [] M =
  zden (L + 1) 31 2 [some (.ref 63), some (.ref 15), some (.int 0)] [] M :=
  (zd_w zf_31 0 2 rfl)
theorem e31_63_15_2 (L : Nat) (v2 : Int32) (M : zM) : zden (L + 1) 31 2 [some (.ref 63), some (.ref 15), some (.int v2)] [] M =
  if v2 < 12 then (if v2 < 12 then (if zinb v2 12 = true then (if zinb v2 12 = true then (zden (L + 1) 31 2 [some (.ref 63), some (.ref 15), some (.int (v2 + 1))] [] (zput M 15 v2.toNatClampNeg (M 63 v2.toNatClampNeg))) else none) else none) else (zden (L + 1) 31 26 [some (.ref 63), some (.ref 15), some (.int v2)] [] M)) else (zden (L + 1) 31 26 [some (.ref 63), some (.ref 15), some (.int v2)] [] M) :=
  (zd_w zf_31 2 3 rfl).trans
  (zd_ge zf_31 rfl (rfl) ((zd_w zf_31 6 3 rfl).trans
  (zd_ge zf_31 rfl (rfl) ((zd_w zf_31 10 4 rfl).trans
  (zd_ld zf_31 rfl rfl (zd_st zf_31 rfl rfl rfl ((zd_w zf_31 16 1 rfl).trans
  (zd_goto zf_31 rfl (rfl)))))))))
theorem e31_63_15_26 (L : Nat) (o0 : Option Value) (o1 : Option Value) (o2 : Option Value) (M : zM) : zden (L + 1) 31 26 [o0, o1, o2] [] M =
  some (none, M) :=
  zd_rv zf_31 rfl
theorem e33_0 (L : Nat) (v1 : Int32) (M : zM) : zden (L + 1) 33 0 [some (.ref 23), some (.int v1)] [] M =
  if v1 < 0 then (zden (L + 1) 33 30 [some (.ref 23), some (.int v1)] [] M) else (if v1 < (M 23 1) then (if v1 < 200 then (if zinb v1 200 = true then (zden (L + 1) 33 31 [some (.ref 23), some (.int v1)] [.int (M 24 v1.toNatClampNeg)] M) else none) else (zden (L + 1) 33 30 [some (.ref 23), some (.int v1)] [] M)) else (zden (L + 1) 33 30 [some (.ref 23), some (.int v1)] [] M)) :=
  (zd_w zf_33 0 1 rfl).trans
  (zd_lt0 zf_33 rfl (rfl) ((zd_w zf_33 2 3 rfl).trans
  (zd_ge zf_33 rfl (rfl) ((zd_w zf_33 6 4 rfl).trans
  (zd_ge zf_33 rfl (rfl) ((zd_w zf_33 11 3 rfl).trans
  (zd_ldc zf_33 rfl rfl (zd_goto zf_33 rfl (rfl)))))))))
theorem e33_30 (L : Nat) (o0 : Option Value) (o1 : Option Value) (M : zM) : zden (L + 1) 33 30 [o0, o1] [] M =
  zden (L + 1) 33 31 [o0, o1] [.int 0] M :=
  (zd_w zf_33 16 1 rfl)
theorem e33_31 (L : Nat) (o0 : Option Value) (o1 : Option Value) (s0 : Int32) (M : zM) : zden (L + 1) 33 31 [o0, o1] [.int s0] M =
  if zfit (some .char) s0 = true then some (some (.int s0), M) else none :=
  zd_rf zf_33 rfl zr_33
theorem e4_64_0 (L : Nat) (v1 : Int32) (M : zM) : zden (L + 1) 4 0 [some (.ref 64), some (.int v1)] [] M =
  if v1 < 0 then (zden (L + 1) 4 16 [some (.ref 64), some (.int v1)] [] M) else (if v1 < 12 then (if zinb v1 12 = true then (zden (L + 1) 4 17 [some (.ref 64), some (.int v1)] [.int (M 64 v1.toNatClampNeg)] M) else none) else (zden (L + 1) 4 16 [some (.ref 64), some (.int v1)] [] M)) :=
  (zd_w zf_4 0 1 rfl).trans
  (zd_lt0 zf_4 rfl (rfl) ((zd_w zf_4 2 3 rfl).trans
  (zd_ge zf_4 rfl (rfl) ((zd_w zf_4 6 2 rfl).trans
  (zd_ld zf_4 rfl rfl (zd_goto zf_4 rfl (rfl)))))))
theorem e4_64_16 (L : Nat) (o0 : Option Value) (o1 : Option Value) (M : zM) : zden (L + 1) 4 16 [o0, o1] [] M =
  zden (L + 1) 4 17 [o0, o1] [.int 0] M :=
  (zd_w zf_4 10 1 rfl)
theorem e4_64_17 (L : Nat) (o0 : Option Value) (o1 : Option Value) (s0 : Int32) (M : zM) : zden (L + 1) 4 17 [o0, o1] [.int s0] M =
  some (some (.int s0), M) :=
  zd_ri zf_4 rfl zr_4 rfl
theorem e4_65_0 (L : Nat) (v1 : Int32) (M : zM) : zden (L + 1) 4 0 [some (.ref 65), some (.int v1)] [] M =
  if v1 < 0 then (zden (L + 1) 4 16 [some (.ref 65), some (.int v1)] [] M) else (if v1 < 36 then (if zinb v1 36 = true then (zden (L + 1) 4 17 [some (.ref 65), some (.int v1)] [.int (M 65 v1.toNatClampNeg)] M) else none) else (zden (L + 1) 4 16 [some (.ref 65), some (.int v1)] [] M)) :=
  (zd_w zf_4 0 1 rfl).trans
  (zd_lt0 zf_4 rfl (rfl) ((zd_w zf_4 2 3 rfl).trans
  (zd_ge zf_4 rfl (rfl) ((zd_w zf_4 6 2 rfl).trans
  (zd_ld zf_4 rfl rfl (zd_goto zf_4 rfl (rfl)))))))
theorem e4_65_16 (L : Nat) (o0 : Option Value) (o1 : Option Value) (M : zM) : zden (L + 1) 4 16 [o0, o1] [] M =
  zden (L + 1) 4 17 [o0, o1] [.int 0] M :=
  (zd_w zf_4 10 1 rfl)
theorem e4_65_17 (L : Nat) (o0 : Option Value) (o1 : Option Value) (s0 : Int32) (M : zM) : zden (L + 1) 4 17 [o0, o1] [.int s0] M =
  some (some (.int s0), M) :=
  zd_ri zf_4 rfl zr_4 rfl
theorem e4_66_0 (L : Nat) (v1 : Int32) (M : zM) : zden (L + 1) 4 0 [some (.ref 66), some (.int v1)] [] M =
  if v1 < 0 then (zden (L + 1) 4 16 [some (.ref 66), some (.int v1)] [] M) else (if v1 < 36 then (if zinb v1 36 = true then (zden (L + 1) 4 17 [some (.ref 66), some (.int v1)] [.int (M 66 v1.toNatClampNeg)] M) else none) else (zden (L + 1) 4 16 [some (.ref 66), some (.int v1)] [] M)) :=
  (zd_w zf_4 0 1 rfl).trans
  (zd_lt0 zf_4 rfl (rfl) ((zd_w zf_4 2 3 rfl).trans
  (zd_ge zf_4 rfl (rfl) ((zd_w zf_4 6 2 rfl).trans
  (zd_ld zf_4 rfl rfl (zd_goto zf_4 rfl (rfl)))))))
theorem e4_66_16 (L : Nat) (o0 : Option Value) (o1 : Option Value) (M : zM) : zden (L + 1) 4 16 [o0, o1] [] M =
  zden (L + 1) 4 17 [o0, o1] [.int 0] M :=
  (zd_w zf_4 10 1 rfl)
theorem e4_66_17 (L : Nat) (o0 : Option Value) (o1 : Option Value) (s0 : Int32) (M : zM) : zden (L + 1) 4 17 [o0, o1] [.int s0] M =
  some (some (.int s0), M) :=
  zd_ri zf_4 rfl zr_4 rfl
theorem e42_0 (L : Nat) (v1 : Int32) (M : zM) : zden (L + 1) 42 0 [some (.ref 69), some (.int v1)] [] M =
  zbI (zden (L + 1) 41 0 [some (.ref 69), some (.int v1), some (.int 0)] [] M) (fun r1 M1 => some (some (.int r1), M1)) :=
  (zd_w zf_42 0 3 rfl).trans
  (zd_ci zf_42 rfl rfl rfl rfl (fun r1 M1 => zd_ri zf_42 rfl zr_42 rfl))
theorem e44_0 (L : Nat) (v1 : Int32) (M : zM) : zden (L + 1) 44 0 [some (.ref 23), some (.int v1)] [] M =
  zbI (zden (L + 1) 33 0 [some (.ref 23), some (.int v1)] [] M) (fun r1 M1 => zbI (zden (L + 1) 43 0 [some (.int r1)] [] M1) (fun r2 M2 => if r2 = 0 then (some (some (.int 0), M2)) else (zbI (zden (L + 1) 33 0 [some (.ref 23), some (.int (v1 + 1))] [] M2) (fun r3 M3 => zbI (zden (L + 1) 43 0 [some (.int r3)] [] M3) (fun r4 M4 => if r4 = 0 then (zden (L + 1) 44 31 [some (.ref 23), some (.int v1)] [.int 1] M4) else (zden (L + 1) 44 31 [some (.ref 23), some (.int v1)] [.int 2] M4)))))) :=
  (zd_w zf_44 0 2 rfl).trans
  (zd_ci zf_44 rfl rfl rfl rfl (fun r1 M1 => zd_ci zf_44 rfl rfl rfl rfl (fun r2 M2 => zd_ne0 zf_44 rfl ((zd_w zf_44 7 4 rfl).trans
  (zd_ci zf_44 rfl rfl rfl rfl (fun r3 M3 => zd_ci zf_44 rfl rfl rfl rfl (fun r4 M4 => zd_eq0 zf_44 rfl ((zd_w zf_44 16 1 rfl)) ((zd_w zf_44 14 1 rfl).trans
  (zd_goto zf_44 rfl (rfl))))))) ((zd_w zf_44 5 1 rfl).trans
  (zd_ri zf_44 rfl zr_44 rfl)))))
theorem e44_31 (L : Nat) (o0 : Option Value) (o1 : Option Value) (s0 : Int32) (M : zM) : zden (L + 1) 44 31 [o0, o1] [.int s0] M =
  some (some (.int s0), M) :=
  zd_ri zf_44 rfl zr_44 rfl
theorem e45_0 (L : Nat) (v1 : Int32) (v2 : Int32) (M : zM) : zden (L + 1) 45 0 [some (.ref 23), some (.int v1), some (.int v2), none, none] [] M =
  zden (L + 1) 45 5 [some (.ref 23), some (.int v1), some (.int v2), some (.int 0), some (.int 0)] [] M :=
  (zd_w zf_45 0 4 rfl)
theorem e45_5 (L : Nat) (v1 : Int32) (v2 : Int32) (v3 : Int32) (v4 : Int32) (M : zM) : zden (L + 1) 45 5 [some (.ref 23), some (.int v1), some (.int v2), some (.int v3), some (.int v4)] [] M =
  if v4 < v2 then (zbI (zden (L + 1) 33 0 [some (.ref 23), some (.int (v1 + v4))] [] M) (fun r1 M1 => zden (L + 1) 45 5 [some (.ref 23), some (.int v1), some (.int v2), some (.int (((10 * v3) + r1) - 48)), some (.int (v4 + 1))] [] M1)) else (some (some (.int v3), M)) :=
  (zd_w zf_45 4 2 rfl).trans
  (zd_ge zf_45 rfl ((zd_w zf_45 21 1 rfl).trans
  (zd_ri zf_45 rfl zr_45 rfl)) ((zd_w zf_45 7 7 rfl).trans
  (zd_ci zf_45 rfl rfl rfl rfl (fun r1 M1 => (zd_w zf_45 15 5 rfl).trans
  (zd_goto zf_45 rfl (rfl))))))
theorem e5_25_0 (L : Nat) (v1 : Int32) (v2 : Int32) (M : zM) : zden (L + 1) 5 0 [some (.ref 25), some (.int v1), some (.int v2)] [] M =
  if v1 < 0 then (zden (L + 1) 5 14 [some (.ref 25), some (.int v1), some (.int v2)] [] M) else (if v1 < 3 then (if zinb v1 3 = true then (zden (L + 1) 5 14 [some (.ref 25), some (.int v1), some (.int v2)] [] (zput M 25 v1.toNatClampNeg v2)) else none) else (zden (L + 1) 5 14 [some (.ref 25), some (.int v1), some (.int v2)] [] M)) :=
  (zd_w zf_5 0 1 rfl).trans
  (zd_lt0 zf_5 rfl (rfl) ((zd_w zf_5 2 3 rfl).trans
  (zd_ge zf_5 rfl (rfl) ((zd_w zf_5 6 3 rfl).trans
  (zd_st zf_5 rfl rfl rfl (rfl))))))
theorem e5_25_14 (L : Nat) (o0 : Option Value) (o1 : Option Value) (o2 : Option Value) (M : zM) : zden (L + 1) 5 14 [o0, o1, o2] [] M =
  some (none, M) :=
  zd_rv zf_5 rfl
theorem e54_12_25_0 (L : Nat) (v1 : Int32) (M : zM) : zden (L + 1) 54 0 [some (.ref 12), some (.int v1), some (.ref 25), none, none] [] M =
  zbI (zden (L + 1) 4 0 [some (.ref 25), some (.int 0)] [] M) (fun r1 M1 => zbI (zden (L + 1) 4 0 [some (.ref 25), some (.int 1)] [] M1) (fun r2 M2 => if v1 = 97 then zden (L + 1) 54 140 [some (.ref 12), some (.int v1), some (.ref 25), some (.int r1), some (.int r2)] [] M2 else (if v1 = 98 then zden (L + 1) 54 124 [some (.ref 12), some (.int v1), some (.ref 25), some (.int r1), some (.int r2)] [] M2 else (if v1 = 99 then zden (L + 1) 54 208 [some (.ref 12), some (.int v1), some (.ref 25), some (.int r1), some (.int r2)] [] M2 else (if v1 = 100 then zden (L + 1) 54 208 [some (.ref 12), some (.int v1), some (.ref 25), some (.int r1), some (.int r2)] [] M2 else (if v1 = 101 then zden (L + 1) 54 189 [some (.ref 12), some (.int v1), some (.ref 25), some (.int r1), some (.int r2)] [] M2 else (if v1 = 102 then zden (L + 1) 54 208 [some (.ref 12), some (.int v1), some (.ref 25), some (.int r1), some (.int r2)] [] M2 else (if v1 = 103 then zden (L + 1) 54 208 [some (.ref 12), some (.int v1), some (.ref 25), some (.int r1), some (.int r2)] [] M2 else (if v1 = 104 then zden (L + 1) 54 149 [some (.ref 12), some (.int v1), some (.ref 25), some (.int r1), some (.int r2)] [] M2 else (if v1 = 105 then zden (L + 1) 54 202 [some (.ref 12), some (.int v1), some (.ref 25), some (.int r1), some (.int r2)] [] M2 else (if v1 = 106 then zden (L + 1) 54 208 [some (.ref 12), some (.int v1), some (.ref 25), some (.int r1), some (.int r2)] [] M2 else (if v1 = 107 then zden (L + 1) 54 132 [some (.ref 12), some (.int v1), some (.ref 25), some (.int r1), some (.int r2)] [] M2 else (if v1 = 108 then zden (L + 1) 54 208 [some (.ref 12), some (.int v1), some (.ref 25), some (.int r1), some (.int r2)] [] M2 else (if v1 = 109 then zden (L + 1) 54 174 [some (.ref 12), some (.int v1), some (.ref 25), some (.int r1), some (.int r2)] [] M2 else (if v1 = 110 then zden (L + 1) 54 157 [some (.ref 12), some (.int v1), some (.ref 25), some (.int r1), some (.int r2)] [] M2 else (if v1 = 111 then zden (L + 1) 54 208 [some (.ref 12), some (.int v1), some (.ref 25), some (.int r1), some (.int r2)] [] M2 else (if v1 = 112 then zden (L + 1) 54 116 [some (.ref 12), some (.int v1), some (.ref 25), some (.int r1), some (.int r2)] [] M2 else (if v1 = 113 then zden (L + 1) 54 165 [some (.ref 12), some (.int v1), some (.ref 25), some (.int r1), some (.int r2)] [] M2 else (if v1 = 114 then zden (L + 1) 54 208 [some (.ref 12), some (.int v1), some (.ref 25), some (.int r1), some (.int r2)] [] M2 else (if v1 = 115 then zden (L + 1) 54 108 [some (.ref 12), some (.int v1), some (.ref 25), some (.int r1), some (.int r2)] [] M2 else (if v1 = 116 then zden (L + 1) 54 183 [some (.ref 12), some (.int v1), some (.ref 25), some (.int r1), some (.int r2)] [] M2 else (zden (L + 1) 54 208 [some (.ref 12), some (.int v1), some (.ref 25), some (.int r1), some (.int r2)] [] M2)))))))))))))))))))))) :=
  (zd_w zf_54 0 2 rfl).trans
  (zd_ci zf_54 rfl rfl rfl rfl (fun r1 M1 => (zd_w zf_54 3 3 rfl).trans
  (zd_ci zf_54 rfl rfl rfl rfl (fun r2 M2 => (zd_w zf_54 7 2 rfl).trans
  ((zsw_54_14 (lc := [some (.ref 12), some (.int v1), some (.ref 25), some (.int r1), some (.int r2)]) (st := [])))))))
theorem e54_12_25_208 (L : Nat) (o0 : Option Value) (o1 : Option Value) (o2 : Option Value) (o3 : Option Value) (o4 : Option Value) (M : zM) : zden (L + 1) 54 208 [o0, o1, o2, o3, o4] [] M =
  some (some (.int 0), M) :=
  (zd_w zf_54 77 1 rfl).trans
  (zd_ri zf_54 rfl zr_54 rfl)
theorem e54_12_25_183 (L : Nat) (o1 : Option Value) (o2 : Option Value) (v3 : Int32) (o4 : Option Value) (M : zM) : zden (L + 1) 54 183 [some (.ref 12), o1, o2, some (.int v3), o4] [] M =
  zbI (zden (L + 1) 51 0 [some (.ref 12), some (.int v3)] [] M) (fun r1 M1 => if zfit (some .boolean) r1 = true then some (some (.int r1), M1) else none) :=
  (zd_w zf_54 61 2 rfl).trans
  (zd_ci zf_54 rfl rfl rfl rfl (fun r1 M1 => zd_rf zf_54 rfl zr_54))
theorem e54_12_25_108 (L : Nat) (o1 : Option Value) (o2 : Option Value) (v3 : Int32) (v4 : Int32) (M : zM) : zden (L + 1) 54 108 [some (.ref 12), o1, o2, some (.int v3), some (.int v4)] [] M =
  zbI (zden (L + 1) 47 0 [some (.ref 12), some (.int v3), some (.int v4)] [] M) (fun r1 M1 => if zfit (some .boolean) r1 = true then some (some (.int r1), M1) else none) :=
  (zd_w zf_54 10 3 rfl).trans
  (zd_ci zf_54 rfl rfl rfl rfl (fun r1 M1 => zd_rf zf_54 rfl zr_54))
theorem e54_12_25_165 (L : Nat) (o1 : Option Value) (o3 : Option Value) (o4 : Option Value) (M : zM) : zden (L + 1) 54 165 [some (.ref 12), o1, some (.ref 25), o3, o4] [] M =
  zbI (zden (L + 1) 48 0 [some (.ref 12), some (.int 9), some (.ref 25), some (.int 2), none] [] M) (fun r1 M1 => if zfit (some .boolean) r1 = true then some (some (.int r1), M1) else none) :=
  (zd_w zf_54 49 4 rfl).trans
  (zd_ci zf_54 rfl rfl rfl rfl (fun r1 M1 => zd_rf zf_54 rfl zr_54))
theorem e54_12_25_116 (L : Nat) (o1 : Option Value) (o3 : Option Value) (o4 : Option Value) (M : zM) : zden (L + 1) 54 116 [some (.ref 12), o1, some (.ref 25), o3, o4] [] M =
  zbI (zden (L + 1) 48 0 [some (.ref 12), some (.int 0), some (.ref 25), some (.int 3), none] [] M) (fun r1 M1 => if zfit (some .boolean) r1 = true then some (some (.int r1), M1) else none) :=
  (zd_w zf_54 15 4 rfl).trans
  (zd_ci zf_54 rfl rfl rfl rfl (fun r1 M1 => zd_rf zf_54 rfl zr_54))
theorem e54_12_25_157 (L : Nat) (o1 : Option Value) (o2 : Option Value) (v3 : Int32) (v4 : Int32) (M : zM) : zden (L + 1) 54 157 [some (.ref 12), o1, o2, some (.int v3), some (.int v4)] [] M =
  zbI (zden (L + 1) 50 0 [some (.ref 12), some (.int v3), some (.int v4)] [] M) (fun r1 M1 => if zfit (some .boolean) r1 = true then some (some (.int r1), M1) else none) :=
  (zd_w zf_54 44 3 rfl).trans
  (zd_ci zf_54 rfl rfl rfl rfl (fun r1 M1 => zd_rf zf_54 rfl zr_54))
theorem e54_12_25_174 (L : Nat) (o1 : Option Value) (o3 : Option Value) (o4 : Option Value) (M : zM) : zden (L + 1) 54 174 [some (.ref 12), o1, some (.ref 25), o3, o4] [] M =
  zbI (zden (L + 1) 48 0 [some (.ref 12), some (.int 11), some (.ref 25), some (.int 1), none] [] M) (fun r1 M1 => if zfit (some .boolean) r1 = true then some (some (.int r1), M1) else none) :=
  (zd_w zf_54 55 4 rfl).trans
  (zd_ci zf_54 rfl rfl rfl rfl (fun r1 M1 => zd_rf zf_54 rfl zr_54))
theorem e54_12_25_132 (L : Nat) (o1 : Option Value) (o3 : Option Value) (o4 : Option Value) (M : zM) : zden (L + 1) 54 132 [some (.ref 12), o1, some (.ref 25), o3, o4] [] M =
  zbI (zden (L + 1) 48 0 [some (.ref 12), some (.int 4), some (.ref 25), some (.int 3), none] [] M) (fun r1 M1 => if zfit (some .boolean) r1 = true then some (some (.int r1), M1) else none) :=
  (zd_w zf_54 27 4 rfl).trans
  (zd_ci zf_54 rfl rfl rfl rfl (fun r1 M1 => zd_rf zf_54 rfl zr_54))
theorem e54_12_25_202 (L : Nat) (o1 : Option Value) (o2 : Option Value) (v3 : Int32) (o4 : Option Value) (M : zM) : zden (L + 1) 54 202 [some (.ref 12), o1, o2, some (.int v3), o4] [] M =
  zbI (zden (L + 1) 53 0 [some (.ref 12), some (.int v3)] [] M) (fun r1 M1 => if zfit (some .boolean) r1 = true then some (some (.int r1), M1) else none) :=
  (zd_w zf_54 73 2 rfl).trans
  (zd_ci zf_54 rfl rfl rfl rfl (fun r1 M1 => zd_rf zf_54 rfl zr_54))
theorem e54_12_25_149 (L : Nat) (o1 : Option Value) (o2 : Option Value) (v3 : Int32) (v4 : Int32) (M : zM) : zden (L + 1) 54 149 [some (.ref 12), o1, o2, some (.int v3), some (.int v4)] [] M =
  zbI (zden (L + 1) 49 0 [some (.ref 12), some (.int v3), some (.int v4)] [] M) (fun r1 M1 => if zfit (some .boolean) r1 = true then some (some (.int r1), M1) else none) :=
  (zd_w zf_54 39 3 rfl).trans
  (zd_ci zf_54 rfl rfl rfl rfl (fun r1 M1 => zd_rf zf_54 rfl zr_54))
theorem e54_12_25_189 (L : Nat) (o1 : Option Value) (v3 : Int32) (v4 : Int32) (M : zM) : zden (L + 1) 54 189 [some (.ref 12), o1, some (.ref 25), some (.int v3), some (.int v4)] [] M =
  zbI (zden (L + 1) 4 0 [some (.ref 25), some (.int 2)] [] M) (fun r1 M1 => zbI (zden (L + 1) 52 0 [some (.ref 12), some (.int v3), some (.int v4), some (.int r1)] [] M1) (fun r2 M2 => if zfit (some .boolean) r2 = true then some (some (.int r2), M2) else none)) :=
  (zd_w zf_54 65 5 rfl).trans
  (zd_ci zf_54 rfl rfl rfl rfl (fun r1 M1 => zd_ci zf_54 rfl rfl rfl rfl (fun r2 M2 => zd_rf zf_54 rfl zr_54)))
theorem e54_12_25_124 (L : Nat) (o1 : Option Value) (o3 : Option Value) (o4 : Option Value) (M : zM) : zden (L + 1) 54 124 [some (.ref 12), o1, some (.ref 25), o3, o4] [] M =
  zbI (zden (L + 1) 48 0 [some (.ref 12), some (.int 3), some (.ref 25), some (.int 1), none] [] M) (fun r1 M1 => if zfit (some .boolean) r1 = true then some (some (.int r1), M1) else none) :=
  (zd_w zf_54 21 4 rfl).trans
  (zd_ci zf_54 rfl rfl rfl rfl (fun r1 M1 => zd_rf zf_54 rfl zr_54))
theorem e54_12_25_140 (L : Nat) (o1 : Option Value) (o3 : Option Value) (o4 : Option Value) (M : zM) : zden (L + 1) 54 140 [some (.ref 12), o1, some (.ref 25), o3, o4] [] M =
  zbI (zden (L + 1) 48 0 [some (.ref 12), some (.int 7), some (.ref 25), some (.int 2), none] [] M) (fun r1 M1 => if zfit (some .boolean) r1 = true then some (some (.int r1), M1) else none) :=
  (zd_w zf_54 33 4 rfl).trans
  (zd_ci zf_54 rfl rfl rfl rfl (fun r1 M1 => zd_rf zf_54 rfl zr_54))
theorem e19_7_0 (L : Nat) (v1 : Int32) (M : zM) : zden (L + 1) 19 0 [some (.ref 7), some (.int v1), none, none] [] M =
  zden (L + 1) 19 5 [some (.ref 7), some (.int v1), some (.int 0), some (.int 24)] [] M :=
  (zd_w zf_19 0 5 rfl)
theorem e19_7_5 (L : Nat) (v1 : Int32) (v2 : Int32) (v3 : Int32) (M : zM) : zden (L + 1) 19 5 [some (.ref 7), some (.int v1), some (.int v2), some (.int v3)] [] M =
  if v2 < v3 then (if zinb v2 24 = true then (zden (L + 1) 19 5 [some (.ref 7), some (.int v1), some (.int (v2 + 1)), some (.int v3)] [] (zput M 7 v2.toNatClampNeg v1)) else none) else (some (none, M)) :=
  (zd_w zf_19 5 2 rfl).trans
  (zd_ge zf_19 rfl (zd_rv zf_19 rfl) ((zd_w zf_19 8 3 rfl).trans
  (zd_st zf_19 rfl rfl rfl ((zd_w zf_19 12 1 rfl).trans
  (zd_goto zf_19 rfl (rfl))))))
theorem e31_63_4_0 (L : Nat)  (M : zM) : zden (L + 1) 31 0 [some (.ref 63), some (.ref 4), none] [] M =
  zden (L + 1) 31 2 [some (.ref 63), some (.ref 4), some (.int 0)] [] M :=
  (zd_w zf_31 0 2 rfl)
theorem e31_63_4_2 (L : Nat) (v2 : Int32) (M : zM) : zden (L + 1) 31 2 [some (.ref 63), some (.ref 4), some (.int v2)] [] M =
  if v2 < 12 then (if v2 < 12 then (if zinb v2 12 = true then (if zinb v2 12 = true then (zden (L + 1) 31 2 [some (.ref 63), some (.ref 4), some (.int (v2 + 1))] [] (zput M 4 v2.toNatClampNeg (M 63 v2.toNatClampNeg))) else none) else none) else (zden (L + 1) 31 26 [some (.ref 63), some (.ref 4), some (.int v2)] [] M)) else (zden (L + 1) 31 26 [some (.ref 63), some (.ref 4), some (.int v2)] [] M) :=
  (zd_w zf_31 2 3 rfl).trans
  (zd_ge zf_31 rfl (rfl) ((zd_w zf_31 6 3 rfl).trans
  (zd_ge zf_31 rfl (rfl) ((zd_w zf_31 10 4 rfl).trans
  (zd_ld zf_31 rfl rfl (zd_st zf_31 rfl rfl rfl ((zd_w zf_31 16 1 rfl).trans
  (zd_goto zf_31 rfl (rfl)))))))))
theorem e31_63_4_26 (L : Nat) (o0 : Option Value) (o1 : Option Value) (o2 : Option Value) (M : zM) : zden (L + 1) 31 26 [o0, o1, o2] [] M =
  some (none, M) :=
  zd_rv zf_31 rfl
theorem e54_1_25_0 (L : Nat) (v1 : Int32) (M : zM) : zden (L + 1) 54 0 [some (.ref 1), some (.int v1), some (.ref 25), none, none] [] M =
  zbI (zden (L + 1) 4 0 [some (.ref 25), some (.int 0)] [] M) (fun r1 M1 => zbI (zden (L + 1) 4 0 [some (.ref 25), some (.int 1)] [] M1) (fun r2 M2 => if v1 = 97 then zden (L + 1) 54 140 [some (.ref 1), some (.int v1), some (.ref 25), some (.int r1), some (.int r2)] [] M2 else (if v1 = 98 then zden (L + 1) 54 124 [some (.ref 1), some (.int v1), some (.ref 25), some (.int r1), some (.int r2)] [] M2 else (if v1 = 99 then zden (L + 1) 54 208 [some (.ref 1), some (.int v1), some (.ref 25), some (.int r1), some (.int r2)] [] M2 else (if v1 = 100 then zden (L + 1) 54 208 [some (.ref 1), some (.int v1), some (.ref 25), some (.int r1), some (.int r2)] [] M2 else (if v1 = 101 then zden (L + 1) 54 189 [some (.ref 1), some (.int v1), some (.ref 25), some (.int r1), some (.int r2)] [] M2 else (if v1 = 102 then zden (L + 1) 54 208 [some (.ref 1), some (.int v1), some (.ref 25), some (.int r1), some (.int r2)] [] M2 else (if v1 = 103 then zden (L + 1) 54 208 [some (.ref 1), some (.int v1), some (.ref 25), some (.int r1), some (.int r2)] [] M2 else (if v1 = 104 then zden (L + 1) 54 149 [some (.ref 1), some (.int v1), some (.ref 25), some (.int r1), some (.int r2)] [] M2 else (if v1 = 105 then zden (L + 1) 54 202 [some (.ref 1), some (.int v1), some (.ref 25), some (.int r1), some (.int r2)] [] M2 else (if v1 = 106 then zden (L + 1) 54 208 [some (.ref 1), some (.int v1), some (.ref 25), some (.int r1), some (.int r2)] [] M2 else (if v1 = 107 then zden (L + 1) 54 132 [some (.ref 1), some (.int v1), some (.ref 25), some (.int r1), some (.int r2)] [] M2 else (if v1 = 108 then zden (L + 1) 54 208 [some (.ref 1), some (.int v1), some (.ref 25), some (.int r1), some (.int r2)] [] M2 else (if v1 = 109 then zden (L + 1) 54 174 [some (.ref 1), some (.int v1), some (.ref 25), some (.int r1), some (.int r2)] [] M2 else (if v1 = 110 then zden (L + 1) 54 157 [some (.ref 1), some (.int v1), some (.ref 25), some (.int r1), some (.int r2)] [] M2 else (if v1 = 111 then zden (L + 1) 54 208 [some (.ref 1), some (.int v1), some (.ref 25), some (.int r1), some (.int r2)] [] M2 else (if v1 = 112 then zden (L + 1) 54 116 [some (.ref 1), some (.int v1), some (.ref 25), some (.int r1), some (.int r2)] [] M2 else (if v1 = 113 then zden (L + 1) 54 165 [some (.ref 1), some (.int v1), some (.ref 25), some (.int r1), some (.int r2)] [] M2 else (if v1 = 114 then zden (L + 1) 54 208 [some (.ref 1), some (.int v1), some (.ref 25), some (.int r1), some (.int r2)] [] M2 else (if v1 = 115 then zden (L + 1) 54 108 [some (.ref 1), some (.int v1), some (.ref 25), some (.int r1), some (.int r2)] [] M2 else (if v1 = 116 then zden (L + 1) 54 183 [some (.ref 1), some (.int v1), some (.ref 25), some (.int r1), some (.int r2)] [] M2 else (zden (L + 1) 54 208 [some (.ref 1), some (.int v1), some (.ref 25), some (.int r1), some (.int r2)] [] M2)))))))))))))))))))))) :=
  (zd_w zf_54 0 2 rfl).trans
  (zd_ci zf_54 rfl rfl rfl rfl (fun r1 M1 => (zd_w zf_54 3 3 rfl).trans
  (zd_ci zf_54 rfl rfl rfl rfl (fun r2 M2 => (zd_w zf_54 7 2 rfl).trans
  ((zsw_54_14 (lc := [some (.ref 1), some (.int v1), some (.ref 25), some (.int r1), some (.int r2)]) (st := [])))))))
theorem e54_1_25_208 (L : Nat) (o0 : Option Value) (o1 : Option Value) (o2 : Option Value) (o3 : Option Value) (o4 : Option Value) (M : zM) : zden (L + 1) 54 208 [o0, o1, o2, o3, o4] [] M =
  some (some (.int 0), M) :=
  (zd_w zf_54 77 1 rfl).trans
  (zd_ri zf_54 rfl zr_54 rfl)
theorem e54_1_25_183 (L : Nat) (o1 : Option Value) (o2 : Option Value) (v3 : Int32) (o4 : Option Value) (M : zM) : zden (L + 1) 54 183 [some (.ref 1), o1, o2, some (.int v3), o4] [] M =
  zbI (zden (L + 1) 51 0 [some (.ref 1), some (.int v3)] [] M) (fun r1 M1 => if zfit (some .boolean) r1 = true then some (some (.int r1), M1) else none) :=
  (zd_w zf_54 61 2 rfl).trans
  (zd_ci zf_54 rfl rfl rfl rfl (fun r1 M1 => zd_rf zf_54 rfl zr_54))
theorem e54_1_25_108 (L : Nat) (o1 : Option Value) (o2 : Option Value) (v3 : Int32) (v4 : Int32) (M : zM) : zden (L + 1) 54 108 [some (.ref 1), o1, o2, some (.int v3), some (.int v4)] [] M =
  zbI (zden (L + 1) 47 0 [some (.ref 1), some (.int v3), some (.int v4)] [] M) (fun r1 M1 => if zfit (some .boolean) r1 = true then some (some (.int r1), M1) else none) :=
  (zd_w zf_54 10 3 rfl).trans
  (zd_ci zf_54 rfl rfl rfl rfl (fun r1 M1 => zd_rf zf_54 rfl zr_54))
theorem e54_1_25_165 (L : Nat) (o1 : Option Value) (o3 : Option Value) (o4 : Option Value) (M : zM) : zden (L + 1) 54 165 [some (.ref 1), o1, some (.ref 25), o3, o4] [] M =
  zbI (zden (L + 1) 48 0 [some (.ref 1), some (.int 9), some (.ref 25), some (.int 2), none] [] M) (fun r1 M1 => if zfit (some .boolean) r1 = true then some (some (.int r1), M1) else none) :=
  (zd_w zf_54 49 4 rfl).trans
  (zd_ci zf_54 rfl rfl rfl rfl (fun r1 M1 => zd_rf zf_54 rfl zr_54))
theorem e54_1_25_116 (L : Nat) (o1 : Option Value) (o3 : Option Value) (o4 : Option Value) (M : zM) : zden (L + 1) 54 116 [some (.ref 1), o1, some (.ref 25), o3, o4] [] M =
  zbI (zden (L + 1) 48 0 [some (.ref 1), some (.int 0), some (.ref 25), some (.int 3), none] [] M) (fun r1 M1 => if zfit (some .boolean) r1 = true then some (some (.int r1), M1) else none) :=
  (zd_w zf_54 15 4 rfl).trans
  (zd_ci zf_54 rfl rfl rfl rfl (fun r1 M1 => zd_rf zf_54 rfl zr_54))
theorem e54_1_25_157 (L : Nat) (o1 : Option Value) (o2 : Option Value) (v3 : Int32) (v4 : Int32) (M : zM) : zden (L + 1) 54 157 [some (.ref 1), o1, o2, some (.int v3), some (.int v4)] [] M =
  zbI (zden (L + 1) 50 0 [some (.ref 1), some (.int v3), some (.int v4)] [] M) (fun r1 M1 => if zfit (some .boolean) r1 = true then some (some (.int r1), M1) else none) :=
  (zd_w zf_54 44 3 rfl).trans
  (zd_ci zf_54 rfl rfl rfl rfl (fun r1 M1 => zd_rf zf_54 rfl zr_54))
theorem e54_1_25_174 (L : Nat) (o1 : Option Value) (o3 : Option Value) (o4 : Option Value) (M : zM) : zden (L + 1) 54 174 [some (.ref 1), o1, some (.ref 25), o3, o4] [] M =
  zbI (zden (L + 1) 48 0 [some (.ref 1), some (.int 11), some (.ref 25), some (.int 1), none] [] M) (fun r1 M1 => if zfit (some .boolean) r1 = true then some (some (.int r1), M1) else none) :=
  (zd_w zf_54 55 4 rfl).trans
  (zd_ci zf_54 rfl rfl rfl rfl (fun r1 M1 => zd_rf zf_54 rfl zr_54))
theorem e54_1_25_132 (L : Nat) (o1 : Option Value) (o3 : Option Value) (o4 : Option Value) (M : zM) : zden (L + 1) 54 132 [some (.ref 1), o1, some (.ref 25), o3, o4] [] M =
  zbI (zden (L + 1) 48 0 [some (.ref 1), some (.int 4), some (.ref 25), some (.int 3), none] [] M) (fun r1 M1 => if zfit (some .boolean) r1 = true then some (some (.int r1), M1) else none) :=
  (zd_w zf_54 27 4 rfl).trans
  (zd_ci zf_54 rfl rfl rfl rfl (fun r1 M1 => zd_rf zf_54 rfl zr_54))
theorem e54_1_25_202 (L : Nat) (o1 : Option Value) (o2 : Option Value) (v3 : Int32) (o4 : Option Value) (M : zM) : zden (L + 1) 54 202 [some (.ref 1), o1, o2, some (.int v3), o4] [] M =
  zbI (zden (L + 1) 53 0 [some (.ref 1), some (.int v3)] [] M) (fun r1 M1 => if zfit (some .boolean) r1 = true then some (some (.int r1), M1) else none) :=
  (zd_w zf_54 73 2 rfl).trans
  (zd_ci zf_54 rfl rfl rfl rfl (fun r1 M1 => zd_rf zf_54 rfl zr_54))
theorem e54_1_25_149 (L : Nat) (o1 : Option Value) (o2 : Option Value) (v3 : Int32) (v4 : Int32) (M : zM) : zden (L + 1) 54 149 [some (.ref 1), o1, o2, some (.int v3), some (.int v4)] [] M =
  zbI (zden (L + 1) 49 0 [some (.ref 1), some (.int v3), some (.int v4)] [] M) (fun r1 M1 => if zfit (some .boolean) r1 = true then some (some (.int r1), M1) else none) :=
  (zd_w zf_54 39 3 rfl).trans
  (zd_ci zf_54 rfl rfl rfl rfl (fun r1 M1 => zd_rf zf_54 rfl zr_54))
theorem e54_1_25_189 (L : Nat) (o1 : Option Value) (v3 : Int32) (v4 : Int32) (M : zM) : zden (L + 1) 54 189 [some (.ref 1), o1, some (.ref 25), some (.int v3), some (.int v4)] [] M =
  zbI (zden (L + 1) 4 0 [some (.ref 25), some (.int 2)] [] M) (fun r1 M1 => zbI (zden (L + 1) 52 0 [some (.ref 1), some (.int v3), some (.int v4), some (.int r1)] [] M1) (fun r2 M2 => if zfit (some .boolean) r2 = true then some (some (.int r2), M2) else none)) :=
  (zd_w zf_54 65 5 rfl).trans
  (zd_ci zf_54 rfl rfl rfl rfl (fun r1 M1 => zd_ci zf_54 rfl rfl rfl rfl (fun r2 M2 => zd_rf zf_54 rfl zr_54)))
theorem e54_1_25_124 (L : Nat) (o1 : Option Value) (o3 : Option Value) (o4 : Option Value) (M : zM) : zden (L + 1) 54 124 [some (.ref 1), o1, some (.ref 25), o3, o4] [] M =
  zbI (zden (L + 1) 48 0 [some (.ref 1), some (.int 3), some (.ref 25), some (.int 1), none] [] M) (fun r1 M1 => if zfit (some .boolean) r1 = true then some (some (.int r1), M1) else none) :=
  (zd_w zf_54 21 4 rfl).trans
  (zd_ci zf_54 rfl rfl rfl rfl (fun r1 M1 => zd_rf zf_54 rfl zr_54))
theorem e54_1_25_140 (L : Nat) (o1 : Option Value) (o3 : Option Value) (o4 : Option Value) (M : zM) : zden (L + 1) 54 140 [some (.ref 1), o1, some (.ref 25), o3, o4] [] M =
  zbI (zden (L + 1) 48 0 [some (.ref 1), some (.int 7), some (.ref 25), some (.int 2), none] [] M) (fun r1 M1 => if zfit (some .boolean) r1 = true then some (some (.int r1), M1) else none) :=
  (zd_w zf_54 33 4 rfl).trans
  (zd_ci zf_54 rfl rfl rfl rfl (fun r1 M1 => zd_rf zf_54 rfl zr_54))
theorem e4_34_0 (L : Nat) (v1 : Int32) (M : zM) : zden (L + 1) 4 0 [some (.ref 34), some (.int v1)] [] M =
  if v1 < 0 then (zden (L + 1) 4 16 [some (.ref 34), some (.int v1)] [] M) else (if v1 < 24100 then (if zinb v1 24100 = true then (zden (L + 1) 4 17 [some (.ref 34), some (.int v1)] [.int (M 34 v1.toNatClampNeg)] M) else none) else (zden (L + 1) 4 16 [some (.ref 34), some (.int v1)] [] M)) :=
  (zd_w zf_4 0 1 rfl).trans
  (zd_lt0 zf_4 rfl (rfl) ((zd_w zf_4 2 3 rfl).trans
  (zd_ge zf_4 rfl (rfl) ((zd_w zf_4 6 2 rfl).trans
  (zd_ld zf_4 rfl rfl (zd_goto zf_4 rfl (rfl)))))))
theorem e4_34_16 (L : Nat) (o0 : Option Value) (o1 : Option Value) (M : zM) : zden (L + 1) 4 16 [o0, o1] [] M =
  zden (L + 1) 4 17 [o0, o1] [.int 0] M :=
  (zd_w zf_4 10 1 rfl)
theorem e4_34_17 (L : Nat) (o0 : Option Value) (o1 : Option Value) (s0 : Int32) (M : zM) : zden (L + 1) 4 17 [o0, o1] [.int s0] M =
  some (some (.int s0), M) :=
  zd_ri zf_4 rfl zr_4 rfl
theorem e148_0 (L : Nat) (v1 : Int32) (M : zM) : zden (L + 1) 148 0 [some (.ref 48), some (.int v1)] [] M =
  if zinb v1 116 = true then (if zinb v1 116 = true then (if zinb v1 116 = true then (some (some (.int (((zput M 50 v1.toNatClampNeg ((M 50 v1.toNatClampNeg) + 1)) 50 v1.toNatClampNeg) - 1)), zput M 50 v1.toNatClampNeg ((M 50 v1.toNatClampNeg) + 1))) else none) else none) else none :=
  (zd_w zf_148 0 4 rfl).trans
  (zd_ld zf_148 rfl rfl ((zd_w zf_148 5 2 rfl).trans
  (zd_st zf_148 rfl rfl rfl ((zd_w zf_148 8 3 rfl).trans
  (zd_ld zf_148 rfl rfl ((zd_w zf_148 12 2 rfl).trans
  (zd_ri zf_148 rfl zr_148 rfl)))))))
theorem e41_0 (L : Nat) (v1 : Int32) (v2 : Int32) (M : zM) : zden (L + 1) 41 0 [some (.ref 69), some (.int v1), some (.int v2)] [] M =
  zbI (zden (L + 1) 34 0 [some (.ref 69)] [] M) (fun r1 M1 => if r1 = 0 then (zbI (zden (L + 1) 36 0 [some (.ref 69)] [] M1) (fun r2 M2 => none)) else (zbI (zden (L + 1) 36 0 [some (.ref 69)] [] M1) (fun r3 M3 => zbI (zden (L + 1) 40 0 [some (.ref 70), some (.int v1), some (.int v2), some (.int r3)] [] M3) (fun r4 M4 => some (some (.int r4), M4))))) :=
  (zd_w zf_41 0 1 rfl).trans
  (zd_ci zf_41 rfl rfl rfl rfl (fun r1 M1 => zd_eq0 zf_41 rfl ((zd_w zf_41 11 5 rfl).trans
  (zd_ci zf_41 rfl rfl rfl rfl (fun r2 M2 => zd_no zf_41 rfl))) ((zd_w zf_41 3 5 rfl).trans
  (zd_ci zf_41 rfl rfl rfl rfl (fun r3 M3 => zd_ci zf_41 rfl rfl rfl rfl (fun r4 M4 => zd_goto zf_41 rfl (zd_ri zf_41 rfl zr_41 rfl)))))))
theorem e43_0 (L : Nat) (v0 : Int32) (M : zM) : zden (L + 1) 43 0 [some (.int v0)] [] M =
  if v0 < 48 then (zden (L + 1) 43 16 [some (.int v0)] [] M) else (if 57 < v0 then (zden (L + 1) 43 16 [some (.int v0)] [] M) else (zden (L + 1) 43 17 [some (.int v0)] [.int 1] M)) :=
  (zd_w zf_43 0 2 rfl).trans
  (zd_lt zf_43 rfl (rfl) ((zd_w zf_43 3 2 rfl).trans
  (zd_gt zf_43 rfl (rfl) ((zd_w zf_43 6 1 rfl).trans
  (zd_goto zf_43 rfl (rfl))))))
theorem e43_16 (L : Nat) (o0 : Option Value) (M : zM) : zden (L + 1) 43 16 [o0] [] M =
  zden (L + 1) 43 17 [o0] [.int 0] M :=
  (zd_w zf_43 8 1 rfl)
theorem e43_17 (L : Nat) (o0 : Option Value) (s0 : Int32) (M : zM) : zden (L + 1) 43 17 [o0] [.int s0] M =
  if zfit (some .boolean) s0 = true then some (some (.int s0), M) else none :=
  zd_rf zf_43 rfl zr_43
theorem e4_25_0 (L : Nat) (v1 : Int32) (M : zM) : zden (L + 1) 4 0 [some (.ref 25), some (.int v1)] [] M =
  if v1 < 0 then (zden (L + 1) 4 16 [some (.ref 25), some (.int v1)] [] M) else (if v1 < 3 then (if zinb v1 3 = true then (zden (L + 1) 4 17 [some (.ref 25), some (.int v1)] [.int (M 25 v1.toNatClampNeg)] M) else none) else (zden (L + 1) 4 16 [some (.ref 25), some (.int v1)] [] M)) :=
  (zd_w zf_4 0 1 rfl).trans
  (zd_lt0 zf_4 rfl (rfl) ((zd_w zf_4 2 3 rfl).trans
  (zd_ge zf_4 rfl (rfl) ((zd_w zf_4 6 2 rfl).trans
  (zd_ld zf_4 rfl rfl (zd_goto zf_4 rfl (rfl)))))))
theorem e4_25_16 (L : Nat) (o0 : Option Value) (o1 : Option Value) (M : zM) : zden (L + 1) 4 16 [o0, o1] [] M =
  zden (L + 1) 4 17 [o0, o1] [.int 0] M :=
  (zd_w zf_4 10 1 rfl)
theorem e4_25_17 (L : Nat) (o0 : Option Value) (o1 : Option Value) (s0 : Int32) (M : zM) : zden (L + 1) 4 17 [o0, o1] [.int s0] M =
  some (some (.int s0), M) :=
  zd_ri zf_4 rfl zr_4 rfl
theorem e47_12_0 (L : Nat) (v1 : Int32) (v2 : Int32) (M : zM) : zden (L + 1) 47 0 [some (.ref 12), some (.int v1), some (.int v2)] [] M =
  if (M 12 2) < 12 then (zbV (zden (L + 1) 5 0 [some (.ref 13), some (.int (M 12 2)), some (.int v1)] [] M) (fun M1 => zbV (zden (L + 1) 5 0 [some (.ref 14), some (.int (M1 12 2)), some (.int v2)] [] M1) (fun M2 => some (some (.int 1), zput M2 12 2 ((M2 12 2) + 1))))) else (some (some (.int 0), M)) :=
  (zd_w zf_47 0 3 rfl).trans
  (zd_lt zf_47 rfl ((zd_w zf_47 6 5 rfl).trans
  (zd_cv zf_47 rfl rfl rfl rfl (fun M1 => (zd_w zf_47 12 5 rfl).trans
  (zd_cv zf_47 rfl rfl rfl rfl (fun M2 => (zd_w zf_47 18 7 rfl).trans
  (zd_ri zf_47 rfl zr_47 rfl)))))) ((zd_w zf_47 4 1 rfl).trans
  (zd_ri zf_47 rfl zr_47 rfl)))
theorem e48_12_25_0 (L : Nat) (v1 : Int32) (v3 : Int32) (M : zM) : zden (L + 1) 48 0 [some (.ref 12), some (.int v1), some (.ref 25), some (.int v3), none] [] M =
  zden (L + 1) 48 3 [some (.ref 12), some (.int v1), some (.ref 25), some (.int v3), some (.int 0)] [] M :=
  (zd_w zf_48 0 2 rfl)
theorem e48_12_25_3 (L : Nat) (v1 : Int32) (v3 : Int32) (v4 : Int32) (M : zM) : zden (L + 1) 48 3 [some (.ref 12), some (.int v1), some (.ref 25), some (.int v3), some (.int v4)] [] M =
  if v4 < v3 then (zbI (zden (L + 1) 4 0 [some (.ref 25), some (.int v4)] [] M) (fun r1 M1 => zbV (zden (L + 1) 5 0 [some (.ref 15), some (.int (v1 + v4)), some (.int r1)] [] M1) (fun M2 => zden (L + 1) 48 3 [some (.ref 12), some (.int v1), some (.ref 25), some (.int v3), some (.int (v4 + 1))] [] M2))) else (some (some (.int 1), M)) :=
  (zd_w zf_48 2 2 rfl).trans
  (zd_ge zf_48 rfl ((zd_w zf_48 16 1 rfl).trans
  (zd_ri zf_48 rfl zr_48 rfl)) ((zd_w zf_48 5 7 rfl).trans
  (zd_ci zf_48 rfl rfl rfl rfl (fun r1 M1 => zd_cv zf_48 rfl rfl rfl rfl (fun M2 => (zd_w zf_48 14 1 rfl).trans
  (zd_goto zf_48 rfl (rfl)))))))
theorem e49_12_0 (L : Nat) (v1 : Int32) (v2 : Int32) (M : zM) : zden (L + 1) 49 0 [some (.ref 12), some (.int v1), some (.int v2)] [] M =
  if (M 12 6) < 4 then (zbV (zden (L + 1) 5 0 [some (.ref 16), some (.int (M 12 6)), some (.int v1)] [] M) (fun M1 => zbV (zden (L + 1) 5 0 [some (.ref 17), some (.int (M1 12 6)), some (.int v2)] [] M1) (fun M2 => some (some (.int 1), zput M2 12 6 ((M2 12 6) + 1))))) else (some (some (.int 0), M)) :=
  (zd_w zf_49 0 3 rfl).trans
  (zd_lt zf_49 rfl ((zd_w zf_49 6 5 rfl).trans
  (zd_cv zf_49 rfl rfl rfl rfl (fun M1 => (zd_w zf_49 12 5 rfl).trans
  (zd_cv zf_49 rfl rfl rfl rfl (fun M2 => (zd_w zf_49 18 7 rfl).trans
  (zd_ri zf_49 rfl zr_49 rfl)))))) ((zd_w zf_49 4 1 rfl).trans
  (zd_ri zf_49 rfl zr_49 rfl)))
theorem e50_12_0 (L : Nat) (v1 : Int32) (v2 : Int32) (M : zM) : zden (L + 1) 50 0 [some (.ref 12), some (.int v1), some (.int v2)] [] M =
  zbV (zden (L + 1) 5 0 [some (.ref 18), some (.int v1), some (.int v2)] [] M) (fun M1 => some (some (.int 1), M1)) :=
  (zd_w zf_50 0 4 rfl).trans
  (zd_cv zf_50 rfl rfl rfl rfl (fun M1 => (zd_w zf_50 5 1 rfl).trans
  (zd_ri zf_50 rfl zr_50 rfl)))
theorem e51_12_0 (L : Nat) (v1 : Int32) (M : zM) : zden (L + 1) 51 0 [some (.ref 12), some (.int v1)] [] M =
  if (M 12 9) < 7 then (zbV (zden (L + 1) 5 0 [some (.ref 19), some (.int (M 12 9)), some (.int v1)] [] M) (fun M1 => some (some (.int 1), zput M1 12 9 ((M1 12 9) + 1)))) else (some (some (.int 0), M)) :=
  (zd_w zf_51 0 3 rfl).trans
  (zd_lt zf_51 rfl ((zd_w zf_51 6 5 rfl).trans
  (zd_cv zf_51 rfl rfl rfl rfl (fun M1 => (zd_w zf_51 12 7 rfl).trans
  (zd_ri zf_51 rfl zr_51 rfl)))) ((zd_w zf_51 4 1 rfl).trans
  (zd_ri zf_51 rfl zr_51 rfl)))
theorem e52_12_0 (L : Nat) (v1 : Int32) (v2 : Int32) (v3 : Int32) (M : zM) : zden (L + 1) 52 0 [some (.ref 12), some (.int v1), some (.int v2), some (.int v3)] [] M =
  if (M 12 13) < 10 then (if v1 < (M 12 9) then (if v2 < (M 12 9) then (if v1 = v2 then (zden (L + 1) 52 30 [some (.ref 12), some (.int v1), some (.int v2), some (.int v3)] [] M) else (zbV (zden (L + 1) 5 0 [some (.ref 20), some (.int (M 12 13)), some (.int v1)] [] M) (fun M1 => zbV (zden (L + 1) 5 0 [some (.ref 21), some (.int (M1 12 13)), some (.int v2)] [] M1) (fun M2 => zbV (zden (L + 1) 5 0 [some (.ref 22), some (.int (M2 12 13)), some (.int v3)] [] M2) (fun M3 => some (some (.int 1), zput M3 12 13 ((M3 12 13) + 1))))))) else (zden (L + 1) 52 30 [some (.ref 12), some (.int v1), some (.int v2), some (.int v3)] [] M)) else (zden (L + 1) 52 30 [some (.ref 12), some (.int v1), some (.int v2), some (.int v3)] [] M)) else (zden (L + 1) 52 30 [some (.ref 12), some (.int v1), some (.int v2), some (.int v3)] [] M) :=
  (zd_w zf_52 0 3 rfl).trans
  (zd_ge zf_52 rfl (rfl) ((zd_w zf_52 4 3 rfl).trans
  (zd_ge zf_52 rfl (rfl) ((zd_w zf_52 8 3 rfl).trans
  (zd_ge zf_52 rfl (rfl) ((zd_w zf_52 12 2 rfl).trans
  (zd_ne zf_52 rfl ((zd_w zf_52 17 5 rfl).trans
  (zd_cv zf_52 rfl rfl rfl rfl (fun M1 => (zd_w zf_52 23 5 rfl).trans
  (zd_cv zf_52 rfl rfl rfl rfl (fun M2 => (zd_w zf_52 29 5 rfl).trans
  (zd_cv zf_52 rfl rfl rfl rfl (fun M3 => (zd_w zf_52 35 7 rfl).trans
  (zd_ri zf_52 rfl zr_52 rfl)))))))) (rfl))))))))
theorem e52_12_30 (L : Nat) (o0 : Option Value) (o1 : Option Value) (o2 : Option Value) (o3 : Option Value) (M : zM) : zden (L + 1) 52 30 [o0, o1, o2, o3] [] M =
  some (some (.int 0), M) :=
  (zd_w zf_52 15 1 rfl).trans
  (zd_ri zf_52 rfl zr_52 rfl)
theorem e53_12_0 (L : Nat) (v1 : Int32) (M : zM) : zden (L + 1) 53 0 [some (.ref 12), some (.int v1)] [] M =
  if v1 < (M 12 9) then (some (some (.int 1), zput M 12 14 ((M 12 14) ||| (1 <<< (v1 &&& 31))))) else (some (some (.int 0), M)) :=
  (zd_w zf_53 0 3 rfl).trans
  (zd_lt zf_53 rfl ((zd_w zf_53 6 9 rfl).trans
  (zd_ri zf_53 rfl zr_53 rfl)) ((zd_w zf_53 4 1 rfl).trans
  (zd_ri zf_53 rfl zr_53 rfl)))
theorem e47_1_0 (L : Nat) (v1 : Int32) (v2 : Int32) (M : zM) : zden (L + 1) 47 0 [some (.ref 1), some (.int v1), some (.int v2)] [] M =
  if (M 1 2) < 12 then (zbV (zden (L + 1) 5 0 [some (.ref 2), some (.int (M 1 2)), some (.int v1)] [] M) (fun M1 => zbV (zden (L + 1) 5 0 [some (.ref 3), some (.int (M1 1 2)), some (.int v2)] [] M1) (fun M2 => some (some (.int 1), zput M2 1 2 ((M2 1 2) + 1))))) else (some (some (.int 0), M)) :=
  (zd_w zf_47 0 3 rfl).trans
  (zd_lt zf_47 rfl ((zd_w zf_47 6 5 rfl).trans
  (zd_cv zf_47 rfl rfl rfl rfl (fun M1 => (zd_w zf_47 12 5 rfl).trans
  (zd_cv zf_47 rfl rfl rfl rfl (fun M2 => (zd_w zf_47 18 7 rfl).trans
  (zd_ri zf_47 rfl zr_47 rfl)))))) ((zd_w zf_47 4 1 rfl).trans
  (zd_ri zf_47 rfl zr_47 rfl)))
theorem e48_1_25_0 (L : Nat) (v1 : Int32) (v3 : Int32) (M : zM) : zden (L + 1) 48 0 [some (.ref 1), some (.int v1), some (.ref 25), some (.int v3), none] [] M =
  zden (L + 1) 48 3 [some (.ref 1), some (.int v1), some (.ref 25), some (.int v3), some (.int 0)] [] M :=
  (zd_w zf_48 0 2 rfl)
theorem e48_1_25_3 (L : Nat) (v1 : Int32) (v3 : Int32) (v4 : Int32) (M : zM) : zden (L + 1) 48 3 [some (.ref 1), some (.int v1), some (.ref 25), some (.int v3), some (.int v4)] [] M =
  if v4 < v3 then (zbI (zden (L + 1) 4 0 [some (.ref 25), some (.int v4)] [] M) (fun r1 M1 => zbV (zden (L + 1) 5 0 [some (.ref 4), some (.int (v1 + v4)), some (.int r1)] [] M1) (fun M2 => zden (L + 1) 48 3 [some (.ref 1), some (.int v1), some (.ref 25), some (.int v3), some (.int (v4 + 1))] [] M2))) else (some (some (.int 1), M)) :=
  (zd_w zf_48 2 2 rfl).trans
  (zd_ge zf_48 rfl ((zd_w zf_48 16 1 rfl).trans
  (zd_ri zf_48 rfl zr_48 rfl)) ((zd_w zf_48 5 7 rfl).trans
  (zd_ci zf_48 rfl rfl rfl rfl (fun r1 M1 => zd_cv zf_48 rfl rfl rfl rfl (fun M2 => (zd_w zf_48 14 1 rfl).trans
  (zd_goto zf_48 rfl (rfl)))))))
theorem e49_1_0 (L : Nat) (v1 : Int32) (v2 : Int32) (M : zM) : zden (L + 1) 49 0 [some (.ref 1), some (.int v1), some (.int v2)] [] M =
  if (M 1 6) < 4 then (zbV (zden (L + 1) 5 0 [some (.ref 5), some (.int (M 1 6)), some (.int v1)] [] M) (fun M1 => zbV (zden (L + 1) 5 0 [some (.ref 6), some (.int (M1 1 6)), some (.int v2)] [] M1) (fun M2 => some (some (.int 1), zput M2 1 6 ((M2 1 6) + 1))))) else (some (some (.int 0), M)) :=
  (zd_w zf_49 0 3 rfl).trans
  (zd_lt zf_49 rfl ((zd_w zf_49 6 5 rfl).trans
  (zd_cv zf_49 rfl rfl rfl rfl (fun M1 => (zd_w zf_49 12 5 rfl).trans
  (zd_cv zf_49 rfl rfl rfl rfl (fun M2 => (zd_w zf_49 18 7 rfl).trans
  (zd_ri zf_49 rfl zr_49 rfl)))))) ((zd_w zf_49 4 1 rfl).trans
  (zd_ri zf_49 rfl zr_49 rfl)))
theorem e50_1_0 (L : Nat) (v1 : Int32) (v2 : Int32) (M : zM) : zden (L + 1) 50 0 [some (.ref 1), some (.int v1), some (.int v2)] [] M =
  zbV (zden (L + 1) 5 0 [some (.ref 7), some (.int v1), some (.int v2)] [] M) (fun M1 => some (some (.int 1), M1)) :=
  (zd_w zf_50 0 4 rfl).trans
  (zd_cv zf_50 rfl rfl rfl rfl (fun M1 => (zd_w zf_50 5 1 rfl).trans
  (zd_ri zf_50 rfl zr_50 rfl)))
theorem e51_1_0 (L : Nat) (v1 : Int32) (M : zM) : zden (L + 1) 51 0 [some (.ref 1), some (.int v1)] [] M =
  if (M 1 9) < 7 then (zbV (zden (L + 1) 5 0 [some (.ref 8), some (.int (M 1 9)), some (.int v1)] [] M) (fun M1 => some (some (.int 1), zput M1 1 9 ((M1 1 9) + 1)))) else (some (some (.int 0), M)) :=
  (zd_w zf_51 0 3 rfl).trans
  (zd_lt zf_51 rfl ((zd_w zf_51 6 5 rfl).trans
  (zd_cv zf_51 rfl rfl rfl rfl (fun M1 => (zd_w zf_51 12 7 rfl).trans
  (zd_ri zf_51 rfl zr_51 rfl)))) ((zd_w zf_51 4 1 rfl).trans
  (zd_ri zf_51 rfl zr_51 rfl)))
theorem e52_1_0 (L : Nat) (v1 : Int32) (v2 : Int32) (v3 : Int32) (M : zM) : zden (L + 1) 52 0 [some (.ref 1), some (.int v1), some (.int v2), some (.int v3)] [] M =
  if (M 1 13) < 10 then (if v1 < (M 1 9) then (if v2 < (M 1 9) then (if v1 = v2 then (zden (L + 1) 52 30 [some (.ref 1), some (.int v1), some (.int v2), some (.int v3)] [] M) else (zbV (zden (L + 1) 5 0 [some (.ref 9), some (.int (M 1 13)), some (.int v1)] [] M) (fun M1 => zbV (zden (L + 1) 5 0 [some (.ref 10), some (.int (M1 1 13)), some (.int v2)] [] M1) (fun M2 => zbV (zden (L + 1) 5 0 [some (.ref 11), some (.int (M2 1 13)), some (.int v3)] [] M2) (fun M3 => some (some (.int 1), zput M3 1 13 ((M3 1 13) + 1))))))) else (zden (L + 1) 52 30 [some (.ref 1), some (.int v1), some (.int v2), some (.int v3)] [] M)) else (zden (L + 1) 52 30 [some (.ref 1), some (.int v1), some (.int v2), some (.int v3)] [] M)) else (zden (L + 1) 52 30 [some (.ref 1), some (.int v1), some (.int v2), some (.int v3)] [] M) :=
  (zd_w zf_52 0 3 rfl).trans
  (zd_ge zf_52 rfl (rfl) ((zd_w zf_52 4 3 rfl).trans
  (zd_ge zf_52 rfl (rfl) ((zd_w zf_52 8 3 rfl).trans
  (zd_ge zf_52 rfl (rfl) ((zd_w zf_52 12 2 rfl).trans
  (zd_ne zf_52 rfl ((zd_w zf_52 17 5 rfl).trans
  (zd_cv zf_52 rfl rfl rfl rfl (fun M1 => (zd_w zf_52 23 5 rfl).trans
  (zd_cv zf_52 rfl rfl rfl rfl (fun M2 => (zd_w zf_52 29 5 rfl).trans
  (zd_cv zf_52 rfl rfl rfl rfl (fun M3 => (zd_w zf_52 35 7 rfl).trans
  (zd_ri zf_52 rfl zr_52 rfl)))))))) (rfl))))))))
theorem e52_1_30 (L : Nat) (o0 : Option Value) (o1 : Option Value) (o2 : Option Value) (o3 : Option Value) (M : zM) : zden (L + 1) 52 30 [o0, o1, o2, o3] [] M =
  some (some (.int 0), M) :=
  (zd_w zf_52 15 1 rfl).trans
  (zd_ri zf_52 rfl zr_52 rfl)
theorem e53_1_0 (L : Nat) (v1 : Int32) (M : zM) : zden (L + 1) 53 0 [some (.ref 1), some (.int v1)] [] M =
  if v1 < (M 1 9) then (some (some (.int 1), zput M 1 14 ((M 1 14) ||| (1 <<< (v1 &&& 31))))) else (some (some (.int 0), M)) :=
  (zd_w zf_53 0 3 rfl).trans
  (zd_lt zf_53 rfl ((zd_w zf_53 6 9 rfl).trans
  (zd_ri zf_53 rfl zr_53 rfl)) ((zd_w zf_53 4 1 rfl).trans
  (zd_ri zf_53 rfl zr_53 rfl)))
theorem e34_0 (L : Nat)  (M : zM) : zden (L + 1) 34 0 [some (.ref 69)] [] M =
  if (1 : Int32) = 0 then (zden (L + 1) 34 17 [some (.ref 69)] [] M) else (if (M 69 1) = 0 then (zden (L + 1) 34 18 [some (.ref 69)] [.int 1] M) else (zden (L + 1) 34 17 [some (.ref 69)] [] M)) :=
  (zd_w zf_34 0 1 rfl).trans
  (zd_eq0 zf_34 rfl (rfl) ((zd_w zf_34 2 2 rfl).trans
  (zd_ne0 zf_34 rfl (rfl) ((zd_w zf_34 5 1 rfl).trans
  (zd_goto zf_34 rfl (rfl))))))
theorem e34_17 (L : Nat) (o0 : Option Value) (M : zM) : zden (L + 1) 34 17 [o0] [] M =
  zden (L + 1) 34 18 [o0] [.int 0] M :=
  (zd_w zf_34 7 1 rfl)
theorem e34_18 (L : Nat) (o0 : Option Value) (s0 : Int32) (M : zM) : zden (L + 1) 34 18 [o0] [.int s0] M =
  if zfit (some .boolean) s0 = true then some (some (.int s0), M) else none :=
  zd_rf zf_34 rfl zr_34
theorem e36_0 (L : Nat)  (M : zM) : zden (L + 1) 36 0 [some (.ref 69)] [] M =
  zbI (zden (L + 1) 35 0 [some (.ref 69)] [] M) (fun r1 M1 => some (some (.int (12 >>> (r1 &&& 31))), M1)) :=
  (zd_w zf_36 0 4 rfl).trans
  (zd_ci zf_36 rfl rfl rfl rfl (fun r1 M1 => (zd_w zf_36 5 1 rfl).trans
  (zd_ri zf_36 rfl zr_36 rfl)))
theorem e40_70_0 (L : Nat) (v1 : Int32) (v2 : Int32) (v3 : Int32) (M : zM) : zden (L + 1) 40 0 [some (.ref 70), some (.int v1), some (.int v2), some (.int v3)] [] M =
  zbI (zden (L + 1) 37 0 [some (.int v1)] [] M) (fun r1 M1 => if r1 = 0 then (some (some (.int (-1)), M1)) else (zbI (zden (L + 1) 13 0 [some (.int v2), some (.int 0)] [] M1) (fun r2 M2 => zbI (zden (L + 1) 38 0 [some (.int v3), some (.int 12)] [] M2) (fun r3 M3 => if r2 < r3 then (zbI (zden (L + 1) 39 0 [some (.ref 70), some (.int v1), some (.int r2), some (.int r3), none, none] [] M3) (fun r4 M4 => some (some (.int r4), M4))) else (some (some (.int (-1)), M3)))))) :=
  (zd_w zf_40 0 1 rfl).trans
  (zd_ci zf_40 rfl rfl rfl rfl (fun r1 M1 => zd_ne0 zf_40 rfl ((zd_w zf_40 5 2 rfl).trans
  (zd_ci zf_40 rfl rfl rfl rfl (fun r2 M2 => (zd_w zf_40 8 4 rfl).trans
  (zd_ci zf_40 rfl rfl rfl rfl (fun r3 M3 => (zd_w zf_40 13 3 rfl).trans
  (zd_lt zf_40 rfl ((zd_w zf_40 19 4 rfl).trans
  (zd_ci zf_40 rfl rfl rfl rfl (fun r4 M4 => zd_ri zf_40 rfl zr_40 rfl))) ((zd_w zf_40 17 1 rfl).trans
  (zd_ri zf_40 rfl zr_40 rfl)))))))) ((zd_w zf_40 3 1 rfl).trans
  (zd_ri zf_40 rfl zr_40 rfl))))
theorem e5_13_0 (L : Nat) (v1 : Int32) (v2 : Int32) (M : zM) : zden (L + 1) 5 0 [some (.ref 13), some (.int v1), some (.int v2)] [] M =
  if v1 < 0 then (zden (L + 1) 5 14 [some (.ref 13), some (.int v1), some (.int v2)] [] M) else (if v1 < 12 then (if zinb v1 12 = true then (zden (L + 1) 5 14 [some (.ref 13), some (.int v1), some (.int v2)] [] (zput M 13 v1.toNatClampNeg v2)) else none) else (zden (L + 1) 5 14 [some (.ref 13), some (.int v1), some (.int v2)] [] M)) :=
  (zd_w zf_5 0 1 rfl).trans
  (zd_lt0 zf_5 rfl (rfl) ((zd_w zf_5 2 3 rfl).trans
  (zd_ge zf_5 rfl (rfl) ((zd_w zf_5 6 3 rfl).trans
  (zd_st zf_5 rfl rfl rfl (rfl))))))
theorem e5_13_14 (L : Nat) (o0 : Option Value) (o1 : Option Value) (o2 : Option Value) (M : zM) : zden (L + 1) 5 14 [o0, o1, o2] [] M =
  some (none, M) :=
  zd_rv zf_5 rfl
theorem e5_14_0 (L : Nat) (v1 : Int32) (v2 : Int32) (M : zM) : zden (L + 1) 5 0 [some (.ref 14), some (.int v1), some (.int v2)] [] M =
  if v1 < 0 then (zden (L + 1) 5 14 [some (.ref 14), some (.int v1), some (.int v2)] [] M) else (if v1 < 12 then (if zinb v1 12 = true then (zden (L + 1) 5 14 [some (.ref 14), some (.int v1), some (.int v2)] [] (zput M 14 v1.toNatClampNeg v2)) else none) else (zden (L + 1) 5 14 [some (.ref 14), some (.int v1), some (.int v2)] [] M)) :=
  (zd_w zf_5 0 1 rfl).trans
  (zd_lt0 zf_5 rfl (rfl) ((zd_w zf_5 2 3 rfl).trans
  (zd_ge zf_5 rfl (rfl) ((zd_w zf_5 6 3 rfl).trans
  (zd_st zf_5 rfl rfl rfl (rfl))))))
theorem e5_14_14 (L : Nat) (o0 : Option Value) (o1 : Option Value) (o2 : Option Value) (M : zM) : zden (L + 1) 5 14 [o0, o1, o2] [] M =
  some (none, M) :=
  zd_rv zf_5 rfl
theorem e5_15_0 (L : Nat) (v1 : Int32) (v2 : Int32) (M : zM) : zden (L + 1) 5 0 [some (.ref 15), some (.int v1), some (.int v2)] [] M =
  if v1 < 0 then (zden (L + 1) 5 14 [some (.ref 15), some (.int v1), some (.int v2)] [] M) else (if v1 < 12 then (if zinb v1 12 = true then (zden (L + 1) 5 14 [some (.ref 15), some (.int v1), some (.int v2)] [] (zput M 15 v1.toNatClampNeg v2)) else none) else (zden (L + 1) 5 14 [some (.ref 15), some (.int v1), some (.int v2)] [] M)) :=
  (zd_w zf_5 0 1 rfl).trans
  (zd_lt0 zf_5 rfl (rfl) ((zd_w zf_5 2 3 rfl).trans
  (zd_ge zf_5 rfl (rfl) ((zd_w zf_5 6 3 rfl).trans
  (zd_st zf_5 rfl rfl rfl (rfl))))))
theorem e5_15_14 (L : Nat) (o0 : Option Value) (o1 : Option Value) (o2 : Option Value) (M : zM) : zden (L + 1) 5 14 [o0, o1, o2] [] M =
  some (none, M) :=
  zd_rv zf_5 rfl
theorem e5_16_0 (L : Nat) (v1 : Int32) (v2 : Int32) (M : zM) : zden (L + 1) 5 0 [some (.ref 16), some (.int v1), some (.int v2)] [] M =
  if v1 < 0 then (zden (L + 1) 5 14 [some (.ref 16), some (.int v1), some (.int v2)] [] M) else (if v1 < 4 then (if zinb v1 4 = true then (zden (L + 1) 5 14 [some (.ref 16), some (.int v1), some (.int v2)] [] (zput M 16 v1.toNatClampNeg v2)) else none) else (zden (L + 1) 5 14 [some (.ref 16), some (.int v1), some (.int v2)] [] M)) :=
  (zd_w zf_5 0 1 rfl).trans
  (zd_lt0 zf_5 rfl (rfl) ((zd_w zf_5 2 3 rfl).trans
  (zd_ge zf_5 rfl (rfl) ((zd_w zf_5 6 3 rfl).trans
  (zd_st zf_5 rfl rfl rfl (rfl))))))
theorem e5_16_14 (L : Nat) (o0 : Option Value) (o1 : Option Value) (o2 : Option Value) (M : zM) : zden (L + 1) 5 14 [o0, o1, o2] [] M =
  some (none, M) :=
  zd_rv zf_5 rfl
theorem e5_17_0 (L : Nat) (v1 : Int32) (v2 : Int32) (M : zM) : zden (L + 1) 5 0 [some (.ref 17), some (.int v1), some (.int v2)] [] M =
  if v1 < 0 then (zden (L + 1) 5 14 [some (.ref 17), some (.int v1), some (.int v2)] [] M) else (if v1 < 4 then (if zinb v1 4 = true then (zden (L + 1) 5 14 [some (.ref 17), some (.int v1), some (.int v2)] [] (zput M 17 v1.toNatClampNeg v2)) else none) else (zden (L + 1) 5 14 [some (.ref 17), some (.int v1), some (.int v2)] [] M)) :=
  (zd_w zf_5 0 1 rfl).trans
  (zd_lt0 zf_5 rfl (rfl) ((zd_w zf_5 2 3 rfl).trans
  (zd_ge zf_5 rfl (rfl) ((zd_w zf_5 6 3 rfl).trans
  (zd_st zf_5 rfl rfl rfl (rfl))))))
theorem e5_17_14 (L : Nat) (o0 : Option Value) (o1 : Option Value) (o2 : Option Value) (M : zM) : zden (L + 1) 5 14 [o0, o1, o2] [] M =
  some (none, M) :=
  zd_rv zf_5 rfl
theorem e5_18_0 (L : Nat) (v1 : Int32) (v2 : Int32) (M : zM) : zden (L + 1) 5 0 [some (.ref 18), some (.int v1), some (.int v2)] [] M =
  if v1 < 0 then (zden (L + 1) 5 14 [some (.ref 18), some (.int v1), some (.int v2)] [] M) else (if v1 < 24 then (if zinb v1 24 = true then (zden (L + 1) 5 14 [some (.ref 18), some (.int v1), some (.int v2)] [] (zput M 18 v1.toNatClampNeg v2)) else none) else (zden (L + 1) 5 14 [some (.ref 18), some (.int v1), some (.int v2)] [] M)) :=
  (zd_w zf_5 0 1 rfl).trans
  (zd_lt0 zf_5 rfl (rfl) ((zd_w zf_5 2 3 rfl).trans
  (zd_ge zf_5 rfl (rfl) ((zd_w zf_5 6 3 rfl).trans
  (zd_st zf_5 rfl rfl rfl (rfl))))))
theorem e5_18_14 (L : Nat) (o0 : Option Value) (o1 : Option Value) (o2 : Option Value) (M : zM) : zden (L + 1) 5 14 [o0, o1, o2] [] M =
  some (none, M) :=
  zd_rv zf_5 rfl
theorem e5_19_0 (L : Nat) (v1 : Int32) (v2 : Int32) (M : zM) : zden (L + 1) 5 0 [some (.ref 19), some (.int v1), some (.int v2)] [] M =
  if v1 < 0 then (zden (L + 1) 5 14 [some (.ref 19), some (.int v1), some (.int v2)] [] M) else (if v1 < 7 then (if zinb v1 7 = true then (zden (L + 1) 5 14 [some (.ref 19), some (.int v1), some (.int v2)] [] (zput M 19 v1.toNatClampNeg v2)) else none) else (zden (L + 1) 5 14 [some (.ref 19), some (.int v1), some (.int v2)] [] M)) :=
  (zd_w zf_5 0 1 rfl).trans
  (zd_lt0 zf_5 rfl (rfl) ((zd_w zf_5 2 3 rfl).trans
  (zd_ge zf_5 rfl (rfl) ((zd_w zf_5 6 3 rfl).trans
  (zd_st zf_5 rfl rfl rfl (rfl))))))
theorem e5_19_14 (L : Nat) (o0 : Option Value) (o1 : Option Value) (o2 : Option Value) (M : zM) : zden (L + 1) 5 14 [o0, o1, o2] [] M =
  some (none, M) :=
  zd_rv zf_5 rfl
theorem e5_20_0 (L : Nat) (v1 : Int32) (v2 : Int32) (M : zM) : zden (L + 1) 5 0 [some (.ref 20), some (.int v1), some (.int v2)] [] M =
  if v1 < 0 then (zden (L + 1) 5 14 [some (.ref 20), some (.int v1), some (.int v2)] [] M) else (if v1 < 10 then (if zinb v1 10 = true then (zden (L + 1) 5 14 [some (.ref 20), some (.int v1), some (.int v2)] [] (zput M 20 v1.toNatClampNeg v2)) else none) else (zden (L + 1) 5 14 [some (.ref 20), some (.int v1), some (.int v2)] [] M)) :=
  (zd_w zf_5 0 1 rfl).trans
  (zd_lt0 zf_5 rfl (rfl) ((zd_w zf_5 2 3 rfl).trans
  (zd_ge zf_5 rfl (rfl) ((zd_w zf_5 6 3 rfl).trans
  (zd_st zf_5 rfl rfl rfl (rfl))))))
theorem e5_20_14 (L : Nat) (o0 : Option Value) (o1 : Option Value) (o2 : Option Value) (M : zM) : zden (L + 1) 5 14 [o0, o1, o2] [] M =
  some (none, M) :=
  zd_rv zf_5 rfl
theorem e5_21_0 (L : Nat) (v1 : Int32) (v2 : Int32) (M : zM) : zden (L + 1) 5 0 [some (.ref 21), some (.int v1), some (.int v2)] [] M =
  if v1 < 0 then (zden (L + 1) 5 14 [some (.ref 21), some (.int v1), some (.int v2)] [] M) else (if v1 < 10 then (if zinb v1 10 = true then (zden (L + 1) 5 14 [some (.ref 21), some (.int v1), some (.int v2)] [] (zput M 21 v1.toNatClampNeg v2)) else none) else (zden (L + 1) 5 14 [some (.ref 21), some (.int v1), some (.int v2)] [] M)) :=
  (zd_w zf_5 0 1 rfl).trans
  (zd_lt0 zf_5 rfl (rfl) ((zd_w zf_5 2 3 rfl).trans
  (zd_ge zf_5 rfl (rfl) ((zd_w zf_5 6 3 rfl).trans
  (zd_st zf_5 rfl rfl rfl (rfl))))))
theorem e5_21_14 (L : Nat) (o0 : Option Value) (o1 : Option Value) (o2 : Option Value) (M : zM) : zden (L + 1) 5 14 [o0, o1, o2] [] M =
  some (none, M) :=
  zd_rv zf_5 rfl
theorem e5_22_0 (L : Nat) (v1 : Int32) (v2 : Int32) (M : zM) : zden (L + 1) 5 0 [some (.ref 22), some (.int v1), some (.int v2)] [] M =
  if v1 < 0 then (zden (L + 1) 5 14 [some (.ref 22), some (.int v1), some (.int v2)] [] M) else (if v1 < 10 then (if zinb v1 10 = true then (zden (L + 1) 5 14 [some (.ref 22), some (.int v1), some (.int v2)] [] (zput M 22 v1.toNatClampNeg v2)) else none) else (zden (L + 1) 5 14 [some (.ref 22), some (.int v1), some (.int v2)] [] M)) :=
  (zd_w zf_5 0 1 rfl).trans
  (zd_lt0 zf_5 rfl (rfl) ((zd_w zf_5 2 3 rfl).trans
  (zd_ge zf_5 rfl (rfl) ((zd_w zf_5 6 3 rfl).trans
  (zd_st zf_5 rfl rfl rfl (rfl))))))
theorem e5_22_14 (L : Nat) (o0 : Option Value) (o1 : Option Value) (o2 : Option Value) (M : zM) : zden (L + 1) 5 14 [o0, o1, o2] [] M =
  some (none, M) :=
  zd_rv zf_5 rfl
theorem e5_2_0 (L : Nat) (v1 : Int32) (v2 : Int32) (M : zM) : zden (L + 1) 5 0 [some (.ref 2), some (.int v1), some (.int v2)] [] M =
  if v1 < 0 then (zden (L + 1) 5 14 [some (.ref 2), some (.int v1), some (.int v2)] [] M) else (if v1 < 12 then (if zinb v1 12 = true then (zden (L + 1) 5 14 [some (.ref 2), some (.int v1), some (.int v2)] [] (zput M 2 v1.toNatClampNeg v2)) else none) else (zden (L + 1) 5 14 [some (.ref 2), some (.int v1), some (.int v2)] [] M)) :=
  (zd_w zf_5 0 1 rfl).trans
  (zd_lt0 zf_5 rfl (rfl) ((zd_w zf_5 2 3 rfl).trans
  (zd_ge zf_5 rfl (rfl) ((zd_w zf_5 6 3 rfl).trans
  (zd_st zf_5 rfl rfl rfl (rfl))))))
theorem e5_2_14 (L : Nat) (o0 : Option Value) (o1 : Option Value) (o2 : Option Value) (M : zM) : zden (L + 1) 5 14 [o0, o1, o2] [] M =
  some (none, M) :=
  zd_rv zf_5 rfl
theorem e5_3_0 (L : Nat) (v1 : Int32) (v2 : Int32) (M : zM) : zden (L + 1) 5 0 [some (.ref 3), some (.int v1), some (.int v2)] [] M =
  if v1 < 0 then (zden (L + 1) 5 14 [some (.ref 3), some (.int v1), some (.int v2)] [] M) else (if v1 < 12 then (if zinb v1 12 = true then (zden (L + 1) 5 14 [some (.ref 3), some (.int v1), some (.int v2)] [] (zput M 3 v1.toNatClampNeg v2)) else none) else (zden (L + 1) 5 14 [some (.ref 3), some (.int v1), some (.int v2)] [] M)) :=
  (zd_w zf_5 0 1 rfl).trans
  (zd_lt0 zf_5 rfl (rfl) ((zd_w zf_5 2 3 rfl).trans
  (zd_ge zf_5 rfl (rfl) ((zd_w zf_5 6 3 rfl).trans
  (zd_st zf_5 rfl rfl rfl (rfl))))))
theorem e5_3_14 (L : Nat) (o0 : Option Value) (o1 : Option Value) (o2 : Option Value) (M : zM) : zden (L + 1) 5 14 [o0, o1, o2] [] M =
  some (none, M) :=
  zd_rv zf_5 rfl
theorem e5_5_0 (L : Nat) (v1 : Int32) (v2 : Int32) (M : zM) : zden (L + 1) 5 0 [some (.ref 5), some (.int v1), some (.int v2)] [] M =
  if v1 < 0 then (zden (L + 1) 5 14 [some (.ref 5), some (.int v1), some (.int v2)] [] M) else (if v1 < 4 then (if zinb v1 4 = true then (zden (L + 1) 5 14 [some (.ref 5), some (.int v1), some (.int v2)] [] (zput M 5 v1.toNatClampNeg v2)) else none) else (zden (L + 1) 5 14 [some (.ref 5), some (.int v1), some (.int v2)] [] M)) :=
  (zd_w zf_5 0 1 rfl).trans
  (zd_lt0 zf_5 rfl (rfl) ((zd_w zf_5 2 3 rfl).trans
  (zd_ge zf_5 rfl (rfl) ((zd_w zf_5 6 3 rfl).trans
  (zd_st zf_5 rfl rfl rfl (rfl))))))
theorem e5_5_14 (L : Nat) (o0 : Option Value) (o1 : Option Value) (o2 : Option Value) (M : zM) : zden (L + 1) 5 14 [o0, o1, o2] [] M =
  some (none, M) :=
  zd_rv zf_5 rfl
theorem e5_6_0 (L : Nat) (v1 : Int32) (v2 : Int32) (M : zM) : zden (L + 1) 5 0 [some (.ref 6), some (.int v1), some (.int v2)] [] M =
  if v1 < 0 then (zden (L + 1) 5 14 [some (.ref 6), some (.int v1), some (.int v2)] [] M) else (if v1 < 4 then (if zinb v1 4 = true then (zden (L + 1) 5 14 [some (.ref 6), some (.int v1), some (.int v2)] [] (zput M 6 v1.toNatClampNeg v2)) else none) else (zden (L + 1) 5 14 [some (.ref 6), some (.int v1), some (.int v2)] [] M)) :=
  (zd_w zf_5 0 1 rfl).trans
  (zd_lt0 zf_5 rfl (rfl) ((zd_w zf_5 2 3 rfl).trans
  (zd_ge zf_5 rfl (rfl) ((zd_w zf_5 6 3 rfl).trans
  (zd_st zf_5 rfl rfl rfl (rfl))))))
theorem e5_6_14 (L : Nat) (o0 : Option Value) (o1 : Option Value) (o2 : Option Value) (M : zM) : zden (L + 1) 5 14 [o0, o1, o2] [] M =
  some (none, M) :=
  zd_rv zf_5 rfl
theorem e5_7_0 (L : Nat) (v1 : Int32) (v2 : Int32) (M : zM) : zden (L + 1) 5 0 [some (.ref 7), some (.int v1), some (.int v2)] [] M =
  if v1 < 0 then (zden (L + 1) 5 14 [some (.ref 7), some (.int v1), some (.int v2)] [] M) else (if v1 < 24 then (if zinb v1 24 = true then (zden (L + 1) 5 14 [some (.ref 7), some (.int v1), some (.int v2)] [] (zput M 7 v1.toNatClampNeg v2)) else none) else (zden (L + 1) 5 14 [some (.ref 7), some (.int v1), some (.int v2)] [] M)) :=
  (zd_w zf_5 0 1 rfl).trans
  (zd_lt0 zf_5 rfl (rfl) ((zd_w zf_5 2 3 rfl).trans
  (zd_ge zf_5 rfl (rfl) ((zd_w zf_5 6 3 rfl).trans
  (zd_st zf_5 rfl rfl rfl (rfl))))))
theorem e5_7_14 (L : Nat) (o0 : Option Value) (o1 : Option Value) (o2 : Option Value) (M : zM) : zden (L + 1) 5 14 [o0, o1, o2] [] M =
  some (none, M) :=
  zd_rv zf_5 rfl
theorem e5_8_0 (L : Nat) (v1 : Int32) (v2 : Int32) (M : zM) : zden (L + 1) 5 0 [some (.ref 8), some (.int v1), some (.int v2)] [] M =
  if v1 < 0 then (zden (L + 1) 5 14 [some (.ref 8), some (.int v1), some (.int v2)] [] M) else (if v1 < 7 then (if zinb v1 7 = true then (zden (L + 1) 5 14 [some (.ref 8), some (.int v1), some (.int v2)] [] (zput M 8 v1.toNatClampNeg v2)) else none) else (zden (L + 1) 5 14 [some (.ref 8), some (.int v1), some (.int v2)] [] M)) :=
  (zd_w zf_5 0 1 rfl).trans
  (zd_lt0 zf_5 rfl (rfl) ((zd_w zf_5 2 3 rfl).trans
  (zd_ge zf_5 rfl (rfl) ((zd_w zf_5 6 3 rfl).trans
  (zd_st zf_5 rfl rfl rfl (rfl))))))
theorem e5_8_14 (L : Nat) (o0 : Option Value) (o1 : Option Value) (o2 : Option Value) (M : zM) : zden (L + 1) 5 14 [o0, o1, o2] [] M =
  some (none, M) :=
  zd_rv zf_5 rfl
theorem e5_10_0 (L : Nat) (v1 : Int32) (v2 : Int32) (M : zM) : zden (L + 1) 5 0 [some (.ref 10), some (.int v1), some (.int v2)] [] M =
  if v1 < 0 then (zden (L + 1) 5 14 [some (.ref 10), some (.int v1), some (.int v2)] [] M) else (if v1 < 10 then (if zinb v1 10 = true then (zden (L + 1) 5 14 [some (.ref 10), some (.int v1), some (.int v2)] [] (zput M 10 v1.toNatClampNeg v2)) else none) else (zden (L + 1) 5 14 [some (.ref 10), some (.int v1), some (.int v2)] [] M)) :=
  (zd_w zf_5 0 1 rfl).trans
  (zd_lt0 zf_5 rfl (rfl) ((zd_w zf_5 2 3 rfl).trans
  (zd_ge zf_5 rfl (rfl) ((zd_w zf_5 6 3 rfl).trans
  (zd_st zf_5 rfl rfl rfl (rfl))))))
theorem e5_10_14 (L : Nat) (o0 : Option Value) (o1 : Option Value) (o2 : Option Value) (M : zM) : zden (L + 1) 5 14 [o0, o1, o2] [] M =
  some (none, M) :=
  zd_rv zf_5 rfl
theorem e5_11_0 (L : Nat) (v1 : Int32) (v2 : Int32) (M : zM) : zden (L + 1) 5 0 [some (.ref 11), some (.int v1), some (.int v2)] [] M =
  if v1 < 0 then (zden (L + 1) 5 14 [some (.ref 11), some (.int v1), some (.int v2)] [] M) else (if v1 < 10 then (if zinb v1 10 = true then (zden (L + 1) 5 14 [some (.ref 11), some (.int v1), some (.int v2)] [] (zput M 11 v1.toNatClampNeg v2)) else none) else (zden (L + 1) 5 14 [some (.ref 11), some (.int v1), some (.int v2)] [] M)) :=
  (zd_w zf_5 0 1 rfl).trans
  (zd_lt0 zf_5 rfl (rfl) ((zd_w zf_5 2 3 rfl).trans
  (zd_ge zf_5 rfl (rfl) ((zd_w zf_5 6 3 rfl).trans
  (zd_st zf_5 rfl rfl rfl (rfl))))))
theorem e5_11_14 (L : Nat) (o0 : Option Value) (o1 : Option Value) (o2 : Option Value) (M : zM) : zden (L + 1) 5 14 [o0, o1, o2] [] M =
  some (none, M) :=
  zd_rv zf_5 rfl
theorem e5_9_0 (L : Nat) (v1 : Int32) (v2 : Int32) (M : zM) : zden (L + 1) 5 0 [some (.ref 9), some (.int v1), some (.int v2)] [] M =
  if v1 < 0 then (zden (L + 1) 5 14 [some (.ref 9), some (.int v1), some (.int v2)] [] M) else (if v1 < 10 then (if zinb v1 10 = true then (zden (L + 1) 5 14 [some (.ref 9), some (.int v1), some (.int v2)] [] (zput M 9 v1.toNatClampNeg v2)) else none) else (zden (L + 1) 5 14 [some (.ref 9), some (.int v1), some (.int v2)] [] M)) :=
  (zd_w zf_5 0 1 rfl).trans
  (zd_lt0 zf_5 rfl (rfl) ((zd_w zf_5 2 3 rfl).trans
  (zd_ge zf_5 rfl (rfl) ((zd_w zf_5 6 3 rfl).trans
  (zd_st zf_5 rfl rfl rfl (rfl))))))
theorem e5_9_14 (L : Nat) (o0 : Option Value) (o1 : Option Value) (o2 : Option Value) (M : zM) : zden (L + 1) 5 14 [o0, o1, o2] [] M =
  some (none, M) :=
  zd_rv zf_5 rfl
theorem e35_0 (L : Nat)  (M : zM) : zden (L + 1) 35 0 [some (.ref 69)] [] M =
  if (1 : Int32) = 0 then (zden (L + 1) 35 14 [some (.ref 69)] [.int 1] M) else (zden (L + 1) 35 14 [some (.ref 69)] [.int (M 69 1)] M) :=
  (zd_w zf_35 0 1 rfl).trans
  (zd_eq0 zf_35 rfl ((zd_w zf_35 5 1 rfl)) ((zd_w zf_35 2 2 rfl).trans
  (zd_goto zf_35 rfl (rfl))))
theorem e35_14 (L : Nat) (o0 : Option Value) (s0 : Int32) (M : zM) : zden (L + 1) 35 14 [o0] [.int s0] M =
  if zfit (some .byte) s0 = true then some (some (.int s0), M) else none :=
  zd_rf zf_35 rfl zr_35
theorem e37_0 (L : Nat) (v0 : Int32) (M : zM) : zden (L + 1) 37 0 [some (.int v0)] [] M =
  if v0 < 0 then (zden (L + 1) 37 15 [some (.int v0)] [] M) else (if 255 < v0 then (zden (L + 1) 37 15 [some (.int v0)] [] M) else (zden (L + 1) 37 16 [some (.int v0)] [.int 1] M)) :=
  (zd_w zf_37 0 1 rfl).trans
  (zd_lt0 zf_37 rfl (rfl) ((zd_w zf_37 2 2 rfl).trans
  (zd_gt zf_37 rfl (rfl) ((zd_w zf_37 5 1 rfl).trans
  (zd_goto zf_37 rfl (rfl))))))
theorem e37_15 (L : Nat) (o0 : Option Value) (M : zM) : zden (L + 1) 37 15 [o0] [] M =
  zden (L + 1) 37 16 [o0] [.int 0] M :=
  (zd_w zf_37 7 1 rfl)
theorem e37_16 (L : Nat) (o0 : Option Value) (s0 : Int32) (M : zM) : zden (L + 1) 37 16 [o0] [.int s0] M =
  if zfit (some .boolean) s0 = true then some (some (.int s0), M) else none :=
  zd_rf zf_37 rfl zr_37
theorem e39_70_0 (L : Nat) (v1 : Int32) (v2 : Int32) (v3 : Int32) (M : zM) : zden (L + 1) 39 0 [some (.ref 70), some (.int v1), some (.int v2), some (.int v3), none, none] [] M =
  zden (L + 1) 39 7 [some (.ref 70), some (.int v1), some (.int v2), some (.int v3), some (.int v1.toInt8.toInt32), some (.int v2)] [] M :=
  (zd_w zf_39 0 5 rfl)
theorem e39_70_7 (L : Nat) (o1 : Option Value) (o2 : Option Value) (v3 : Int32) (v4 : Int32) (v5 : Int32) (M : zM) : zden (L + 1) 39 7 [some (.ref 70), o1, o2, some (.int v3), some (.int v4), some (.int v5)] [] M =
  if v5 < v3 then (if zinb v5 12 = true then (if (M 70 v5.toNatClampNeg) = v4 then (some (some (.int v5), M)) else (zden (L + 1) 39 7 [some (.ref 70), o1, o2, some (.int v3), some (.int v4), some (.int (v5 + 1))] [] M)) else none) else (some (some (.int (-1)), M)) :=
  (zd_w zf_39 5 2 rfl).trans
  (zd_ge zf_39 rfl ((zd_w zf_39 17 1 rfl).trans
  (zd_ri zf_39 rfl zr_39 rfl)) ((zd_w zf_39 8 2 rfl).trans
  (zd_ldb zf_39 rfl rfl ((zd_w zf_39 11 1 rfl).trans
  (zd_ne zf_39 rfl ((zd_w zf_39 15 1 rfl).trans
  (zd_goto zf_39 rfl (rfl))) ((zd_w zf_39 13 1 rfl).trans
  (zd_ri zf_39 rfl zr_39 rfl)))))))
