set_option maxRecDepth 20000 in
theorem e231_18 (L : Nat) (v3 : Int32) (M : zM) : zden (L + 1) 231 18 [some (.ref 62), some (.ref 0), some (.ref 48), some (.int v3)] [] M =
  if ((Int32.ofNat L) - 6) < v3 then (some (some (.int 1), M)) else (if zinb v3 L = true then (if ((M 62 v3.toNatClampNeg) &&& 63) = 0 then zden (L + 1) 231 212 [some (.ref 62), some (.ref 0), some (.ref 48), some (.int v3)] [] M else (if ((M 62 v3.toNatClampNeg) &&& 63) = 1 then zden (L + 1) 231 235 [some (.ref 62), some (.ref 0), some (.ref 48), some (.int v3)] [] M else (if ((M 62 v3.toNatClampNeg) &&& 63) = 2 then zden (L + 1) 231 248 [some (.ref 62), some (.ref 0), some (.ref 48), some (.int v3)] [] M else (if ((M 62 v3.toNatClampNeg) &&& 63) = 3 then zden (L + 1) 231 261 [some (.ref 62), some (.ref 0), some (.ref 48), some (.int v3)] [] M else (if ((M 62 v3.toNatClampNeg) &&& 63) = 4 then zden (L + 1) 231 274 [some (.ref 62), some (.ref 0), some (.ref 48), some (.int v3)] [] M else (if ((M 62 v3.toNatClampNeg) &&& 63) = 5 then zden (L + 1) 231 307 [some (.ref 62), some (.ref 0), some (.ref 48), some (.int v3)] [] M else (if ((M 62 v3.toNatClampNeg) &&& 63) = 6 then zden (L + 1) 231 330 [some (.ref 62), some (.ref 0), some (.ref 48), some (.int v3)] [] M else (if ((M 62 v3.toNatClampNeg) &&& 63) = 7 then zden (L + 1) 231 363 [some (.ref 62), some (.ref 0), some (.ref 48), some (.int v3)] [] M else (if ((M 62 v3.toNatClampNeg) &&& 63) = 8 then zden (L + 1) 231 386 [some (.ref 62), some (.ref 0), some (.ref 48), some (.int v3)] [] M else (if ((M 62 v3.toNatClampNeg) &&& 63) = 9 then zden (L + 1) 231 419 [some (.ref 62), some (.ref 0), some (.ref 48), some (.int v3)] [] M else (if ((M 62 v3.toNatClampNeg) &&& 63) = 10 then zden (L + 1) 231 458 [some (.ref 62), some (.ref 0), some (.ref 48), some (.int v3)] [] M else (if ((M 62 v3.toNatClampNeg) &&& 63) = 11 then zden (L + 1) 231 527 [some (.ref 62), some (.ref 0), some (.ref 48), some (.int v3)] [] M else (if ((M 62 v3.toNatClampNeg) &&& 63) = 12 then zden (L + 1) 231 550 [some (.ref 62), some (.ref 0), some (.ref 48), some (.int v3)] [] M else (if ((M 62 v3.toNatClampNeg) &&& 63) = 13 then zden (L + 1) 231 563 [some (.ref 62), some (.ref 0), some (.ref 48), some (.int v3)] [] M else (if ((M 62 v3.toNatClampNeg) &&& 63) = 14 then zden (L + 1) 231 576 [some (.ref 62), some (.ref 0), some (.ref 48), some (.int v3)] [] M else (if ((M 62 v3.toNatClampNeg) &&& 63) = 15 then zden (L + 1) 231 599 [some (.ref 62), some (.ref 0), some (.ref 48), some (.int v3)] [] M else (if ((M 62 v3.toNatClampNeg) &&& 63) = 16 then zden (L + 1) 231 622 [some (.ref 62), some (.ref 0), some (.ref 48), some (.int v3)] [] M else (if ((M 62 v3.toNatClampNeg) &&& 63) = 17 then zden (L + 1) 231 635 [some (.ref 62), some (.ref 0), some (.ref 48), some (.int v3)] [] M else (if ((M 62 v3.toNatClampNeg) &&& 63) = 18 then zden (L + 1) 231 648 [some (.ref 62), some (.ref 0), some (.ref 48), some (.int v3)] [] M else (if ((M 62 v3.toNatClampNeg) &&& 63) = 19 then zden (L + 1) 231 707 [some (.ref 62), some (.ref 0), some (.ref 48), some (.int v3)] [] M else (if ((M 62 v3.toNatClampNeg) &&& 63) = 20 then zden (L + 1) 231 746 [some (.ref 62), some (.ref 0), some (.ref 48), some (.int v3)] [] M else (if ((M 62 v3.toNatClampNeg) &&& 63) = 21 then zden (L + 1) 231 779 [some (.ref 62), some (.ref 0), some (.ref 48), some (.int v3)] [] M else (if ((M 62 v3.toNatClampNeg) &&& 63) = 22 then zden (L + 1) 231 792 [some (.ref 62), some (.ref 0), some (.ref 48), some (.int v3)] [] M else (if ((M 62 v3.toNatClampNeg) &&& 63) = 23 then zden (L + 1) 231 826 [some (.ref 62), some (.ref 0), some (.ref 48), some (.int v3)] [] M else (if ((M 62 v3.toNatClampNeg) &&& 63) = 24 then zden (L + 1) 231 875 [some (.ref 62), some (.ref 0), some (.ref 48), some (.int v3)] [] M else (if ((M 62 v3.toNatClampNeg) &&& 63) = 25 then zden (L + 1) 231 888 [some (.ref 62), some (.ref 0), some (.ref 48), some (.int v3)] [] M else (if ((M 62 v3.toNatClampNeg) &&& 63) = 26 then zden (L + 1) 231 947 [some (.ref 62), some (.ref 0), some (.ref 48), some (.int v3)] [] M else (if ((M 62 v3.toNatClampNeg) &&& 63) = 27 then zden (L + 1) 231 986 [some (.ref 62), some (.ref 0), some (.ref 48), some (.int v3)] [] M else (if ((M 62 v3.toNatClampNeg) &&& 63) = 28 then zden (L + 1) 231 1045 [some (.ref 62), some (.ref 0), some (.ref 48), some (.int v3)] [] M else (if ((M 62 v3.toNatClampNeg) &&& 63) = 29 then zden (L + 1) 231 1104 [some (.ref 62), some (.ref 0), some (.ref 48), some (.int v3)] [] M else (if ((M 62 v3.toNatClampNeg) &&& 63) = 30 then zden (L + 1) 231 1147 [some (.ref 62), some (.ref 0), some (.ref 48), some (.int v3)] [] M else (if ((M 62 v3.toNatClampNeg) &&& 63) = 31 then zden (L + 1) 231 1160 [some (.ref 62), some (.ref 0), some (.ref 48), some (.int v3)] [] M else (if ((M 62 v3.toNatClampNeg) &&& 63) = 32 then zden (L + 1) 231 1193 [some (.ref 62), some (.ref 0), some (.ref 48), some (.int v3)] [] M else (if ((M 62 v3.toNatClampNeg) &&& 63) = 33 then zden (L + 1) 231 1206 [some (.ref 62), some (.ref 0), some (.ref 48), some (.int v3)] [] M else (if ((M 62 v3.toNatClampNeg) &&& 63) = 34 then zden (L + 1) 231 1229 [some (.ref 62), some (.ref 0), some (.ref 48), some (.int v3)] [] M else (if ((M 62 v3.toNatClampNeg) &&& 63) = 35 then zden (L + 1) 231 1252 [some (.ref 62), some (.ref 0), some (.ref 48), some (.int v3)] [] M else (if ((M 62 v3.toNatClampNeg) &&& 63) = 36 then zden (L + 1) 231 1301 [some (.ref 62), some (.ref 0), some (.ref 48), some (.int v3)] [] M else (if ((M 62 v3.toNatClampNeg) &&& 63) = 37 then zden (L + 1) 231 1360 [some (.ref 62), some (.ref 0), some (.ref 48), some (.int v3)] [] M else (if ((M 62 v3.toNatClampNeg) &&& 63) = 38 then zden (L + 1) 231 1439 [some (.ref 62), some (.ref 0), some (.ref 48), some (.int v3)] [] M else (if ((M 62 v3.toNatClampNeg) &&& 63) = 39 then zden (L + 1) 231 1452 [some (.ref 62), some (.ref 0), some (.ref 48), some (.int v3)] [] M else (if ((M 62 v3.toNatClampNeg) &&& 63) = 40 then zden (L + 1) 231 1465 [some (.ref 62), some (.ref 0), some (.ref 48), some (.int v3)] [] M else (zden (L + 1) 231 1488 [some (.ref 62), some (.ref 0), some (.ref 48), some (.int v3)] [] M)))))))))))))))))))))))))))))))))))))))))) else none) :=
  (zd_w zf_231 6 5 rfl).trans
  (zd_gt zf_231 rfl ((zd_w zf_231 954 1 rfl).trans
  (zd_ri zf_231 rfl zr_231 rfl)) ((zd_w zf_231 12 2 rfl).trans
  (zd_ld zf_231 rfl rfl ((zd_w zf_231 15 2 rfl).trans
  ((zsw_231_33 (lc := [some (.ref 62), some (.ref 0), some (.ref 48), some (.int v3)]) (st := [])))))))
set_option maxRecDepth 20000 in
theorem e231_1488 (L : Nat) (v3 : Int32) (M : zM) : zden (L + 1) 231 1488 [some (.ref 62), some (.ref 0), some (.ref 48), some (.int v3)] [] M =
  zden (L + 1) 231 18 [some (.ref 62), some (.ref 0), some (.ref 48), some (.int (v3 + 6))] [] M :=
  (zd_w zf_231 952 1 rfl).trans
  (zd_goto zf_231 rfl (rfl))
set_option maxRecDepth 20000 in
theorem e231_1465 (L : Nat) (v3 : Int32) (M : zM) : zden (L + 1) 231 1465 [some (.ref 62), some (.ref 0), some (.ref 48), some (.int v3)] [] M =
  if zinb (v3 + 1) L = true then (zbI (zden (L + 1) 140 0 [some (.ref 0), some (.int (M 62 (v3 + 1).toNatClampNeg))] [] M) (fun r1 M1 => if zinb (v3 + 1) L = true then (zbI (zden (L + 1) 230 0 [some (.ref 48), some (.int (M1 62 (v3 + 1).toNatClampNeg))] [] M1) (fun r2 M2 => if r1 = r2 then (zden (L + 1) 231 1488 [some (.ref 62), some (.ref 0), some (.ref 48), some (.int v3)] [] M2) else (some (some (.int 0), M2)))) else none)) else none :=
  (zd_w zf_231 935 5 rfl).trans
  (zd_ld zf_231 rfl rfl (zd_ci zf_231 rfl rfl rfl rfl (fun r1 M1 => (zd_w zf_231 942 5 rfl).trans
  (zd_ld zf_231 rfl rfl (zd_ci zf_231 rfl rfl rfl rfl (fun r2 M2 => zd_eq zf_231 rfl (rfl) ((zd_w zf_231 950 1 rfl).trans
  (zd_ri zf_231 rfl zr_231 rfl))))))))
set_option maxRecDepth 20000 in
theorem e231_1452 (L : Nat) (v3 : Int32) (M : zM) : zden (L + 1) 231 1452 [some (.ref 62), some (.ref 0), some (.ref 48), some (.int v3)] [] M =
  zbI (zden (L + 1) 139 0 [some (.ref 0)] [] M) (fun r1 M1 => zbI (zden (L + 1) 229 0 [some (.ref 48), none] [] M1) (fun r2 M2 => if r1 = r2 then (zden (L + 1) 231 1488 [some (.ref 62), some (.ref 0), some (.ref 48), some (.int v3)] [] M2) else (some (some (.int 0), M2)))) :=
  (zd_w zf_231 928 1 rfl).trans
  (zd_ci zf_231 rfl rfl rfl rfl (fun r1 M1 => (zd_w zf_231 930 1 rfl).trans
  (zd_ci zf_231 rfl rfl rfl rfl (fun r2 M2 => zd_eq zf_231 rfl (rfl) ((zd_w zf_231 933 1 rfl).trans
  (zd_ri zf_231 rfl zr_231 rfl))))))
set_option maxRecDepth 20000 in
theorem e231_1439 (L : Nat) (v3 : Int32) (M : zM) : zden (L + 1) 231 1439 [some (.ref 62), some (.ref 0), some (.ref 48), some (.int v3)] [] M =
  zbI (zden (L + 1) 138 0 [some (.ref 0)] [] M) (fun r1 M1 => zbI (zden (L + 1) 228 0 [some (.ref 48)] [] M1) (fun r2 M2 => if r1 = r2 then (zden (L + 1) 231 1488 [some (.ref 62), some (.ref 0), some (.ref 48), some (.int v3)] [] M2) else (some (some (.int 0), M2)))) :=
  (zd_w zf_231 921 1 rfl).trans
  (zd_ci zf_231 rfl rfl rfl rfl (fun r1 M1 => (zd_w zf_231 923 1 rfl).trans
  (zd_ci zf_231 rfl rfl rfl rfl (fun r2 M2 => zd_eq zf_231 rfl (rfl) ((zd_w zf_231 926 1 rfl).trans
  (zd_ri zf_231 rfl zr_231 rfl))))))
set_option maxRecDepth 20000 in
theorem e231_1360 (L : Nat) (v3 : Int32) (M : zM) : zden (L + 1) 231 1360 [some (.ref 62), some (.ref 0), some (.ref 48), some (.int v3)] [] M =
  if zinb (v3 + 1) L = true then (if zinb (v3 + 2) L = true then (if zinb (v3 + 3) L = true then (if zinb (v3 + 4) L = true then (if zinb (v3 + 5) L = true then (if (M 62 (v3 + 5).toNatClampNeg) = 0 then (zden (L + 1) 231 1394 [some (.ref 62), some (.ref 0), some (.ref 48), some (.int v3)] [.int 0, .int (M 62 (v3 + 4).toNatClampNeg), .int (M 62 (v3 + 3).toNatClampNeg), .int (M 62 (v3 + 2).toNatClampNeg), .int (M 62 (v3 + 1).toNatClampNeg), .ref 0] M) else (zden (L + 1) 231 1394 [some (.ref 62), some (.ref 0), some (.ref 48), some (.int v3)] [.int 1, .int (M 62 (v3 + 4).toNatClampNeg), .int (M 62 (v3 + 3).toNatClampNeg), .int (M 62 (v3 + 2).toNatClampNeg), .int (M 62 (v3 + 1).toNatClampNeg), .ref 0] M)) else none) else none) else none) else none) else none :=
  (zd_w zf_231 856 5 rfl).trans
  (zd_ld zf_231 rfl rfl ((zd_w zf_231 862 4 rfl).trans
  (zd_ld zf_231 rfl rfl ((zd_w zf_231 867 4 rfl).trans
  (zd_ld zf_231 rfl rfl ((zd_w zf_231 872 4 rfl).trans
  (zd_ld zf_231 rfl rfl ((zd_w zf_231 877 4 rfl).trans
  (zd_ld zf_231 rfl rfl (zd_eq0 zf_231 rfl ((zd_w zf_231 885 1 rfl)) ((zd_w zf_231 883 1 rfl).trans
  (zd_goto zf_231 rfl (rfl)))))))))))))
set_option maxRecDepth 20000 in
theorem e231_1301 (L : Nat) (v3 : Int32) (M : zM) : zden (L + 1) 231 1301 [some (.ref 62), some (.ref 0), some (.ref 48), some (.int v3)] [] M =
  if zinb (v3 + 1) L = true then (if zinb (v3 + 2) L = true then (if zinb (v3 + 3) L = true then (if (M 62 (v3 + 3).toNatClampNeg) = 0 then (zden (L + 1) 231 1325 [some (.ref 62), some (.ref 0), some (.ref 48), some (.int v3)] [.int 0, .int (M 62 (v3 + 2).toNatClampNeg), .int (M 62 (v3 + 1).toNatClampNeg), .ref 0] M) else (zden (L + 1) 231 1325 [some (.ref 62), some (.ref 0), some (.ref 48), some (.int v3)] [.int 1, .int (M 62 (v3 + 2).toNatClampNeg), .int (M 62 (v3 + 1).toNatClampNeg), .ref 0] M)) else none) else none) else none :=
  (zd_w zf_231 811 5 rfl).trans
  (zd_ld zf_231 rfl rfl ((zd_w zf_231 817 4 rfl).trans
  (zd_ld zf_231 rfl rfl ((zd_w zf_231 822 4 rfl).trans
  (zd_ld zf_231 rfl rfl (zd_eq0 zf_231 rfl ((zd_w zf_231 830 1 rfl)) ((zd_w zf_231 828 1 rfl).trans
  (zd_goto zf_231 rfl (rfl)))))))))
set_option maxRecDepth 20000 in
theorem e231_1252 (L : Nat) (v3 : Int32) (M : zM) : zden (L + 1) 231 1252 [some (.ref 62), some (.ref 0), some (.ref 48), some (.int v3)] [] M =
  if zinb (v3 + 1) L = true then (if zinb (v3 + 2) L = true then (if (M 62 (v3 + 2).toNatClampNeg) = 0 then (zden (L + 1) 231 1271 [some (.ref 62), some (.ref 0), some (.ref 48), some (.int v3)] [.int 0, .int (M 62 (v3 + 1).toNatClampNeg), .ref 0] M) else (zden (L + 1) 231 1271 [some (.ref 62), some (.ref 0), some (.ref 48), some (.int v3)] [.int 1, .int (M 62 (v3 + 1).toNatClampNeg), .ref 0] M)) else none) else none :=
  (zd_w zf_231 776 5 rfl).trans
  (zd_ld zf_231 rfl rfl ((zd_w zf_231 782 4 rfl).trans
  (zd_ld zf_231 rfl rfl (zd_eq0 zf_231 rfl ((zd_w zf_231 790 1 rfl)) ((zd_w zf_231 788 1 rfl).trans
  (zd_goto zf_231 rfl (rfl)))))))
set_option maxRecDepth 20000 in
theorem e231_1229 (L : Nat) (v3 : Int32) (M : zM) : zden (L + 1) 231 1229 [some (.ref 62), some (.ref 0), some (.ref 48), some (.int v3)] [] M =
  if zinb (v3 + 1) L = true then (zbI (zden (L + 1) 134 0 [some (.ref 0), some (.int (M 62 (v3 + 1).toNatClampNeg)), none] [] M) (fun r1 M1 => if zinb (v3 + 1) L = true then (zbI (zden (L + 1) 223 0 [some (.ref 48), some (.int (M1 62 (v3 + 1).toNatClampNeg)), none] [] M1) (fun r2 M2 => if r1 = r2 then (zden (L + 1) 231 1488 [some (.ref 62), some (.ref 0), some (.ref 48), some (.int v3)] [] M2) else (some (some (.int 0), M2)))) else none)) else none :=
  (zd_w zf_231 759 5 rfl).trans
  (zd_ld zf_231 rfl rfl (zd_ci zf_231 rfl rfl rfl rfl (fun r1 M1 => (zd_w zf_231 766 5 rfl).trans
  (zd_ld zf_231 rfl rfl (zd_ci zf_231 rfl rfl rfl rfl (fun r2 M2 => zd_eq zf_231 rfl (rfl) ((zd_w zf_231 774 1 rfl).trans
  (zd_ri zf_231 rfl zr_231 rfl))))))))
set_option maxRecDepth 20000 in
theorem e231_1206 (L : Nat) (v3 : Int32) (M : zM) : zden (L + 1) 231 1206 [some (.ref 62), some (.ref 0), some (.ref 48), some (.int v3)] [] M =
  if zinb (v3 + 1) L = true then (zbI (zden (L + 1) 133 0 [some (.ref 0), some (.int (M 62 (v3 + 1).toNatClampNeg))] [] M) (fun r1 M1 => if zinb (v3 + 1) L = true then (zbI (zden (L + 1) 222 0 [some (.ref 48), some (.int (M1 62 (v3 + 1).toNatClampNeg))] [] M1) (fun r2 M2 => if r1 = r2 then (zden (L + 1) 231 1488 [some (.ref 62), some (.ref 0), some (.ref 48), some (.int v3)] [] M2) else (some (some (.int 0), M2)))) else none)) else none :=
  (zd_w zf_231 742 5 rfl).trans
  (zd_ld zf_231 rfl rfl (zd_ci zf_231 rfl rfl rfl rfl (fun r1 M1 => (zd_w zf_231 749 5 rfl).trans
  (zd_ld zf_231 rfl rfl (zd_ci zf_231 rfl rfl rfl rfl (fun r2 M2 => zd_eq zf_231 rfl (rfl) ((zd_w zf_231 757 1 rfl).trans
  (zd_ri zf_231 rfl zr_231 rfl))))))))
set_option maxRecDepth 20000 in
theorem e231_1193 (L : Nat) (v3 : Int32) (M : zM) : zden (L + 1) 231 1193 [some (.ref 62), some (.ref 0), some (.ref 48), some (.int v3)] [] M =
  zbI (zden (L + 1) 131 0 [some (.ref 0)] [] M) (fun r1 M1 => zbI (zden (L + 1) 220 0 [some (.ref 48), none, none, none, none] [] M1) (fun r2 M2 => if r1 = r2 then (zden (L + 1) 231 1488 [some (.ref 62), some (.ref 0), some (.ref 48), some (.int v3)] [] M2) else (some (some (.int 0), M2)))) :=
  (zd_w zf_231 735 1 rfl).trans
  (zd_ci zf_231 rfl rfl rfl rfl (fun r1 M1 => (zd_w zf_231 737 1 rfl).trans
  (zd_ci zf_231 rfl rfl rfl rfl (fun r2 M2 => zd_eq zf_231 rfl (rfl) ((zd_w zf_231 740 1 rfl).trans
  (zd_ri zf_231 rfl zr_231 rfl))))))
set_option maxRecDepth 20000 in
theorem e231_1160 (L : Nat) (v3 : Int32) (M : zM) : zden (L + 1) 231 1160 [some (.ref 62), some (.ref 0), some (.ref 48), some (.int v3)] [] M =
  if zinb (v3 + 1) L = true then (if zinb (v3 + 2) L = true then (zbI (zden (L + 1) 130 0 [some (.ref 0), some (.int (M 62 (v3 + 1).toNatClampNeg)), some (.int (M 62 (v3 + 2).toNatClampNeg)), none] [] M) (fun r1 M1 => if zinb (v3 + 1) L = true then (if zinb (v3 + 2) L = true then (zbI (zden (L + 1) 219 0 [some (.ref 48), some (.int (M1 62 (v3 + 1).toNatClampNeg)), some (.int (M1 62 (v3 + 2).toNatClampNeg)), none, none, none, none] [] M1) (fun r2 M2 => if r1 = r2 then (zden (L + 1) 231 1488 [some (.ref 62), some (.ref 0), some (.ref 48), some (.int v3)] [] M2) else (some (some (.int 0), M2)))) else none) else none)) else none) else none :=
  (zd_w zf_231 708 5 rfl).trans
  (zd_ld zf_231 rfl rfl ((zd_w zf_231 714 4 rfl).trans
  (zd_ld zf_231 rfl rfl (zd_ci zf_231 rfl rfl rfl rfl (fun r1 M1 => (zd_w zf_231 720 5 rfl).trans
  (zd_ld zf_231 rfl rfl ((zd_w zf_231 726 4 rfl).trans
  (zd_ld zf_231 rfl rfl (zd_ci zf_231 rfl rfl rfl rfl (fun r2 M2 => zd_eq zf_231 rfl (rfl) ((zd_w zf_231 733 1 rfl).trans
  (zd_ri zf_231 rfl zr_231 rfl))))))))))))
set_option maxRecDepth 20000 in
theorem e231_1147 (L : Nat) (v3 : Int32) (M : zM) : zden (L + 1) 231 1147 [some (.ref 62), some (.ref 0), some (.ref 48), some (.int v3)] [] M =
  zbI (zden (L + 1) 129 0 [some (.ref 0)] [] M) (fun r1 M1 => zbI (zden (L + 1) 217 0 [some (.ref 48)] [] M1) (fun r2 M2 => if r1 = r2 then (zden (L + 1) 231 1488 [some (.ref 62), some (.ref 0), some (.ref 48), some (.int v3)] [] M2) else (some (some (.int 0), M2)))) :=
  (zd_w zf_231 701 1 rfl).trans
  (zd_ci zf_231 rfl rfl rfl rfl (fun r1 M1 => (zd_w zf_231 703 1 rfl).trans
  (zd_ci zf_231 rfl rfl rfl rfl (fun r2 M2 => zd_eq zf_231 rfl (rfl) ((zd_w zf_231 706 1 rfl).trans
  (zd_ri zf_231 rfl zr_231 rfl))))))
set_option maxRecDepth 20000 in
theorem e231_1104 (L : Nat) (v3 : Int32) (M : zM) : zden (L + 1) 231 1104 [some (.ref 62), some (.ref 0), some (.ref 48), some (.int v3)] [] M =
  if zinb (v3 + 1) L = true then (if zinb (v3 + 2) L = true then (if zinb (v3 + 3) L = true then (zbI (zden (L + 1) 128 0 [some (.ref 0), some (.int (M 62 (v3 + 1).toNatClampNeg)), some (.int (M 62 (v3 + 2).toNatClampNeg)), some (.int (M 62 (v3 + 3).toNatClampNeg)), none] [] M) (fun r1 M1 => if zinb (v3 + 1) L = true then (if zinb (v3 + 2) L = true then (if zinb (v3 + 3) L = true then (zbI (zden (L + 1) 215 0 [some (.ref 48), some (.int (M1 62 (v3 + 1).toNatClampNeg)), some (.int (M1 62 (v3 + 2).toNatClampNeg)), some (.int (M1 62 (v3 + 3).toNatClampNeg)), none] [] M1) (fun r2 M2 => if r1 = r2 then (zden (L + 1) 231 1488 [some (.ref 62), some (.ref 0), some (.ref 48), some (.int v3)] [] M2) else (some (some (.int 0), M2)))) else none) else none) else none)) else none) else none) else none :=
  (zd_w zf_231 664 5 rfl).trans
  (zd_ld zf_231 rfl rfl ((zd_w zf_231 670 4 rfl).trans
  (zd_ld zf_231 rfl rfl ((zd_w zf_231 675 4 rfl).trans
  (zd_ld zf_231 rfl rfl (zd_ci zf_231 rfl rfl rfl rfl (fun r1 M1 => (zd_w zf_231 681 5 rfl).trans
  (zd_ld zf_231 rfl rfl ((zd_w zf_231 687 4 rfl).trans
  (zd_ld zf_231 rfl rfl ((zd_w zf_231 692 4 rfl).trans
  (zd_ld zf_231 rfl rfl (zd_ci zf_231 rfl rfl rfl rfl (fun r2 M2 => zd_eq zf_231 rfl (rfl) ((zd_w zf_231 699 1 rfl).trans
  (zd_ri zf_231 rfl zr_231 rfl))))))))))))))))
set_option maxRecDepth 20000 in
theorem e231_1045 (L : Nat) (v3 : Int32) (M : zM) : zden (L + 1) 231 1045 [some (.ref 62), some (.ref 0), some (.ref 48), some (.int v3)] [] M =
  if zinb (v3 + 1) L = true then (if zinb (v3 + 2) L = true then (if (M 62 (v3 + 2).toNatClampNeg) = 0 then (zden (L + 1) 231 1064 [some (.ref 62), some (.ref 0), some (.ref 48), some (.int v3)] [.int 0, .int (M 62 (v3 + 1).toNatClampNeg), .ref 0] M) else (zden (L + 1) 231 1064 [some (.ref 62), some (.ref 0), some (.ref 48), some (.int v3)] [.int 1, .int (M 62 (v3 + 1).toNatClampNeg), .ref 0] M)) else none) else none :=
  (zd_w zf_231 619 5 rfl).trans
  (zd_ld zf_231 rfl rfl ((zd_w zf_231 625 4 rfl).trans
  (zd_ld zf_231 rfl rfl (zd_eq0 zf_231 rfl ((zd_w zf_231 633 1 rfl)) ((zd_w zf_231 631 1 rfl).trans
  (zd_goto zf_231 rfl (rfl)))))))
set_option maxRecDepth 20000 in
theorem e231_986 (L : Nat) (v3 : Int32) (M : zM) : zden (L + 1) 231 986 [some (.ref 62), some (.ref 0), some (.ref 48), some (.int v3)] [] M =
  if zinb (v3 + 1) L = true then (if zinb (v3 + 2) L = true then (if zinb (v3 + 3) L = true then (if (M 62 (v3 + 3).toNatClampNeg) = 0 then (zden (L + 1) 231 1010 [some (.ref 62), some (.ref 0), some (.ref 48), some (.int v3)] [.int 0, .int (M 62 (v3 + 2).toNatClampNeg), .int (M 62 (v3 + 1).toNatClampNeg), .ref 0] M) else (zden (L + 1) 231 1010 [some (.ref 62), some (.ref 0), some (.ref 48), some (.int v3)] [.int 1, .int (M 62 (v3 + 2).toNatClampNeg), .int (M 62 (v3 + 1).toNatClampNeg), .ref 0] M)) else none) else none) else none :=
  (zd_w zf_231 574 5 rfl).trans
  (zd_ld zf_231 rfl rfl ((zd_w zf_231 580 4 rfl).trans
  (zd_ld zf_231 rfl rfl ((zd_w zf_231 585 4 rfl).trans
  (zd_ld zf_231 rfl rfl (zd_eq0 zf_231 rfl ((zd_w zf_231 593 1 rfl)) ((zd_w zf_231 591 1 rfl).trans
  (zd_goto zf_231 rfl (rfl)))))))))
set_option maxRecDepth 20000 in
theorem e231_947 (L : Nat) (v3 : Int32) (M : zM) : zden (L + 1) 231 947 [some (.ref 62), some (.ref 0), some (.ref 48), some (.int v3)] [] M =
  if zinb (v3 + 1) L = true then (if (M 62 (v3 + 1).toNatClampNeg) = 0 then (zden (L + 1) 231 961 [some (.ref 62), some (.ref 0), some (.ref 48), some (.int v3)] [.int 0, .ref 0] M) else (zden (L + 1) 231 961 [some (.ref 62), some (.ref 0), some (.ref 48), some (.int v3)] [.int 1, .ref 0] M)) else none :=
  (zd_w zf_231 549 5 rfl).trans
  (zd_ld zf_231 rfl rfl (zd_eq0 zf_231 rfl ((zd_w zf_231 558 1 rfl)) ((zd_w zf_231 556 1 rfl).trans
  (zd_goto zf_231 rfl (rfl)))))
set_option maxRecDepth 20000 in
theorem e231_888 (L : Nat) (v3 : Int32) (M : zM) : zden (L + 1) 231 888 [some (.ref 62), some (.ref 0), some (.ref 48), some (.int v3)] [] M =
  if zinb (v3 + 1) L = true then (if zinb (v3 + 2) L = true then (if zinb (v3 + 3) L = true then (if (M 62 (v3 + 3).toNatClampNeg) = 0 then (zden (L + 1) 231 912 [some (.ref 62), some (.ref 0), some (.ref 48), some (.int v3)] [.int 0, .int (M 62 (v3 + 2).toNatClampNeg), .int (M 62 (v3 + 1).toNatClampNeg), .ref 0] M) else (zden (L + 1) 231 912 [some (.ref 62), some (.ref 0), some (.ref 48), some (.int v3)] [.int 1, .int (M 62 (v3 + 2).toNatClampNeg), .int (M 62 (v3 + 1).toNatClampNeg), .ref 0] M)) else none) else none) else none :=
  (zd_w zf_231 504 5 rfl).trans
  (zd_ld zf_231 rfl rfl ((zd_w zf_231 510 4 rfl).trans
  (zd_ld zf_231 rfl rfl ((zd_w zf_231 515 4 rfl).trans
  (zd_ld zf_231 rfl rfl (zd_eq0 zf_231 rfl ((zd_w zf_231 523 1 rfl)) ((zd_w zf_231 521 1 rfl).trans
  (zd_goto zf_231 rfl (rfl)))))))))
set_option maxRecDepth 20000 in
theorem e231_875 (L : Nat) (v3 : Int32) (M : zM) : zden (L + 1) 231 875 [some (.ref 62), some (.ref 0), some (.ref 48), some (.int v3)] [] M =
  zbI (zden (L + 1) 121 0 [some (.ref 0)] [] M) (fun r1 M1 => zbI (zden (L + 1) 204 0 [some (.ref 48), none, none] [] M1) (fun r2 M2 => if r1 = r2 then (zden (L + 1) 231 1488 [some (.ref 62), some (.ref 0), some (.ref 48), some (.int v3)] [] M2) else (some (some (.int 0), M2)))) :=
  (zd_w zf_231 497 1 rfl).trans
  (zd_ci zf_231 rfl rfl rfl rfl (fun r1 M1 => (zd_w zf_231 499 1 rfl).trans
  (zd_ci zf_231 rfl rfl rfl rfl (fun r2 M2 => zd_eq zf_231 rfl (rfl) ((zd_w zf_231 502 1 rfl).trans
  (zd_ri zf_231 rfl zr_231 rfl))))))
set_option maxRecDepth 20000 in
theorem e231_826 (L : Nat) (v3 : Int32) (M : zM) : zden (L + 1) 231 826 [some (.ref 62), some (.ref 0), some (.ref 48), some (.int v3)] [] M =
  if zinb (v3 + 1) L = true then (if zinb (v3 + 2) L = true then (if (M 62 (v3 + 2).toNatClampNeg) = 0 then (zden (L + 1) 231 845 [some (.ref 62), some (.ref 0), some (.ref 48), some (.int v3)] [.int 0, .int (M 62 (v3 + 1).toNatClampNeg), .ref 0] M) else (zden (L + 1) 231 845 [some (.ref 62), some (.ref 0), some (.ref 48), some (.int v3)] [.int 1, .int (M 62 (v3 + 1).toNatClampNeg), .ref 0] M)) else none) else none :=
  (zd_w zf_231 462 5 rfl).trans
  (zd_ld zf_231 rfl rfl ((zd_w zf_231 468 4 rfl).trans
  (zd_ld zf_231 rfl rfl (zd_eq0 zf_231 rfl ((zd_w zf_231 476 1 rfl)) ((zd_w zf_231 474 1 rfl).trans
  (zd_goto zf_231 rfl (rfl)))))))
set_option maxRecDepth 20000 in
theorem e231_792 (L : Nat) (v3 : Int32) (M : zM) : zden (L + 1) 231 792 [some (.ref 62), some (.ref 0), some (.ref 48), some (.int v3)] [] M =
  if zinb (v3 + 1) L = true then (if zinb (v3 + 2) L = true then (zbL (zden (L + 1) 119 0 [some (.ref 0), some (.int (M 62 (v3 + 1).toNatClampNeg)), some (.int (M 62 (v3 + 2).toNatClampNeg))] [] M) (fun r1 M1 => if zinb (v3 + 1) L = true then (if zinb (v3 + 2) L = true then (zbL (zden (L + 1) 200 0 [some (.ref 48), some (.int (M1 62 (v3 + 1).toNatClampNeg)), some (.int (M1 62 (v3 + 2).toNatClampNeg)), none, none, none, none, none, none, none, none, none, none] [] M1) (fun r2 M2 => if (lg_cmp r1 r2) = 0 then (zden (L + 1) 231 1488 [some (.ref 62), some (.ref 0), some (.ref 48), some (.int v3)] [] M2) else (some (some (.int 0), M2)))) else none) else none)) else none) else none :=
  (zd_w zf_231 434 5 rfl).trans
  (zd_ld zf_231 rfl rfl ((zd_w zf_231 440 4 rfl).trans
  (zd_ld zf_231 rfl rfl (zd_cl zf_231 rfl rfl rfl rfl (fun r1 M1 => (zd_w zf_231 446 5 rfl).trans
  (zd_ld zf_231 rfl rfl ((zd_w zf_231 452 4 rfl).trans
  (zd_ld zf_231 rfl rfl (zd_cl zf_231 rfl rfl rfl rfl (fun r2 M2 => (zd_w zf_231 458 1 rfl).trans
  (zd_eq0 zf_231 rfl (rfl) ((zd_w zf_231 460 1 rfl).trans
  (zd_ri zf_231 rfl zr_231 rfl)))))))))))))
set_option maxRecDepth 20000 in
theorem e231_779 (L : Nat) (v3 : Int32) (M : zM) : zden (L + 1) 231 779 [some (.ref 62), some (.ref 0), some (.ref 48), some (.int v3)] [] M =
  zbI (zden (L + 1) 118 0 [some (.ref 0)] [] M) (fun r1 M1 => zbI (zden (L + 1) 199 0 [some (.ref 48), none, none, none, none] [] M1) (fun r2 M2 => if r1 = r2 then (zden (L + 1) 231 1488 [some (.ref 62), some (.ref 0), some (.ref 48), some (.int v3)] [] M2) else (some (some (.int 0), M2)))) :=
  (zd_w zf_231 427 1 rfl).trans
  (zd_ci zf_231 rfl rfl rfl rfl (fun r1 M1 => (zd_w zf_231 429 1 rfl).trans
  (zd_ci zf_231 rfl rfl rfl rfl (fun r2 M2 => zd_eq zf_231 rfl (rfl) ((zd_w zf_231 432 1 rfl).trans
  (zd_ri zf_231 rfl zr_231 rfl))))))
set_option maxRecDepth 20000 in
theorem e231_746 (L : Nat) (v3 : Int32) (M : zM) : zden (L + 1) 231 746 [some (.ref 62), some (.ref 0), some (.ref 48), some (.int v3)] [] M =
  if zinb (v3 + 1) L = true then (if zinb (v3 + 2) L = true then (zbI (zden (L + 1) 117 0 [some (.ref 0), some (.int (M 62 (v3 + 1).toNatClampNeg)), some (.int (M 62 (v3 + 2).toNatClampNeg)), none] [] M) (fun r1 M1 => if zinb (v3 + 1) L = true then (if zinb (v3 + 2) L = true then (zbI (zden (L + 1) 198 0 [some (.ref 48), some (.int (M1 62 (v3 + 1).toNatClampNeg)), some (.int (M1 62 (v3 + 2).toNatClampNeg)), none, none] [] M1) (fun r2 M2 => if r1 = r2 then (zden (L + 1) 231 1488 [some (.ref 62), some (.ref 0), some (.ref 48), some (.int v3)] [] M2) else (some (some (.int 0), M2)))) else none) else none)) else none) else none :=
  (zd_w zf_231 400 5 rfl).trans
  (zd_ld zf_231 rfl rfl ((zd_w zf_231 406 4 rfl).trans
  (zd_ld zf_231 rfl rfl (zd_ci zf_231 rfl rfl rfl rfl (fun r1 M1 => (zd_w zf_231 412 5 rfl).trans
  (zd_ld zf_231 rfl rfl ((zd_w zf_231 418 4 rfl).trans
  (zd_ld zf_231 rfl rfl (zd_ci zf_231 rfl rfl rfl rfl (fun r2 M2 => zd_eq zf_231 rfl (rfl) ((zd_w zf_231 425 1 rfl).trans
  (zd_ri zf_231 rfl zr_231 rfl))))))))))))
set_option maxRecDepth 20000 in
theorem e231_707 (L : Nat) (v3 : Int32) (M : zM) : zden (L + 1) 231 707 [some (.ref 62), some (.ref 0), some (.ref 48), some (.int v3)] [] M =
  if zinb (v3 + 1) L = true then (if (M 62 (v3 + 1).toNatClampNeg) = 0 then (zden (L + 1) 231 721 [some (.ref 62), some (.ref 0), some (.ref 48), some (.int v3)] [.int 0, .ref 0] M) else (zden (L + 1) 231 721 [some (.ref 62), some (.ref 0), some (.ref 48), some (.int v3)] [.int 1, .ref 0] M)) else none :=
  (zd_w zf_231 375 5 rfl).trans
  (zd_ld zf_231 rfl rfl (zd_eq0 zf_231 rfl ((zd_w zf_231 384 1 rfl)) ((zd_w zf_231 382 1 rfl).trans
  (zd_goto zf_231 rfl (rfl)))))
set_option maxRecDepth 20000 in
theorem e231_648 (L : Nat) (v3 : Int32) (M : zM) : zden (L + 1) 231 648 [some (.ref 62), some (.ref 0), some (.ref 48), some (.int v3)] [] M =
  if zinb (v3 + 1) L = true then (if zinb (v3 + 2) L = true then (if (M 62 (v3 + 2).toNatClampNeg) = 0 then (zden (L + 1) 231 667 [some (.ref 62), some (.ref 0), some (.ref 48), some (.int v3)] [.int 0, .int (M 62 (v3 + 1).toNatClampNeg), .ref 0] M) else (zden (L + 1) 231 667 [some (.ref 62), some (.ref 0), some (.ref 48), some (.int v3)] [.int 1, .int (M 62 (v3 + 1).toNatClampNeg), .ref 0] M)) else none) else none :=
  (zd_w zf_231 330 5 rfl).trans
  (zd_ld zf_231 rfl rfl ((zd_w zf_231 336 4 rfl).trans
  (zd_ld zf_231 rfl rfl (zd_eq0 zf_231 rfl ((zd_w zf_231 344 1 rfl)) ((zd_w zf_231 342 1 rfl).trans
  (zd_goto zf_231 rfl (rfl)))))))
set_option maxRecDepth 20000 in
theorem e231_635 (L : Nat) (v3 : Int32) (M : zM) : zden (L + 1) 231 635 [some (.ref 62), some (.ref 0), some (.ref 48), some (.int v3)] [] M =
  zbI (zden (L + 1) 114 0 [some (.ref 0), none] [] M) (fun r1 M1 => zbI (zden (L + 1) 188 0 [some (.ref 48), none, none] [] M1) (fun r2 M2 => if r1 = r2 then (zden (L + 1) 231 1488 [some (.ref 62), some (.ref 0), some (.ref 48), some (.int v3)] [] M2) else (some (some (.int 0), M2)))) :=
  (zd_w zf_231 323 1 rfl).trans
  (zd_ci zf_231 rfl rfl rfl rfl (fun r1 M1 => (zd_w zf_231 325 1 rfl).trans
  (zd_ci zf_231 rfl rfl rfl rfl (fun r2 M2 => zd_eq zf_231 rfl (rfl) ((zd_w zf_231 328 1 rfl).trans
  (zd_ri zf_231 rfl zr_231 rfl))))))
set_option maxRecDepth 20000 in
theorem e231_622 (L : Nat) (v3 : Int32) (M : zM) : zden (L + 1) 231 622 [some (.ref 62), some (.ref 0), some (.ref 48), some (.int v3)] [] M =
  zbI (zden (L + 1) 113 0 [some (.ref 0), none] [] M) (fun r1 M1 => zbI (zden (L + 1) 187 0 [some (.ref 48), none] [] M1) (fun r2 M2 => if r1 = r2 then (zden (L + 1) 231 1488 [some (.ref 62), some (.ref 0), some (.ref 48), some (.int v3)] [] M2) else (some (some (.int 0), M2)))) :=
  (zd_w zf_231 316 1 rfl).trans
  (zd_ci zf_231 rfl rfl rfl rfl (fun r1 M1 => (zd_w zf_231 318 1 rfl).trans
  (zd_ci zf_231 rfl rfl rfl rfl (fun r2 M2 => zd_eq zf_231 rfl (rfl) ((zd_w zf_231 321 1 rfl).trans
  (zd_ri zf_231 rfl zr_231 rfl))))))
set_option maxRecDepth 20000 in
theorem e231_599 (L : Nat) (v3 : Int32) (M : zM) : zden (L + 1) 231 599 [some (.ref 62), some (.ref 0), some (.ref 48), some (.int v3)] [] M =
  if zinb (v3 + 1) L = true then (zbI (zden (L + 1) 112 0 [some (.ref 0), some (.int (M 62 (v3 + 1).toNatClampNeg))] [] M) (fun r1 M1 => if zinb (v3 + 1) L = true then (zbI (zden (L + 1) 186 0 [some (.ref 48), some (.int (M1 62 (v3 + 1).toNatClampNeg))] [] M1) (fun r2 M2 => if r1 = r2 then (zden (L + 1) 231 1488 [some (.ref 62), some (.ref 0), some (.ref 48), some (.int v3)] [] M2) else (some (some (.int 0), M2)))) else none)) else none :=
  (zd_w zf_231 299 5 rfl).trans
  (zd_ld zf_231 rfl rfl (zd_ci zf_231 rfl rfl rfl rfl (fun r1 M1 => (zd_w zf_231 306 5 rfl).trans
  (zd_ld zf_231 rfl rfl (zd_ci zf_231 rfl rfl rfl rfl (fun r2 M2 => zd_eq zf_231 rfl (rfl) ((zd_w zf_231 314 1 rfl).trans
  (zd_ri zf_231 rfl zr_231 rfl))))))))
set_option maxRecDepth 20000 in
theorem e231_576 (L : Nat) (v3 : Int32) (M : zM) : zden (L + 1) 231 576 [some (.ref 62), some (.ref 0), some (.ref 48), some (.int v3)] [] M =
  if zinb (v3 + 1) L = true then (zbI (zden (L + 1) 111 0 [some (.ref 0), some (.int (M 62 (v3 + 1).toNatClampNeg))] [] M) (fun r1 M1 => if zinb (v3 + 1) L = true then (zbI (zden (L + 1) 185 0 [some (.ref 48), some (.int (M1 62 (v3 + 1).toNatClampNeg))] [] M1) (fun r2 M2 => if r1 = r2 then (zden (L + 1) 231 1488 [some (.ref 62), some (.ref 0), some (.ref 48), some (.int v3)] [] M2) else (some (some (.int 0), M2)))) else none)) else none :=
  (zd_w zf_231 282 5 rfl).trans
  (zd_ld zf_231 rfl rfl (zd_ci zf_231 rfl rfl rfl rfl (fun r1 M1 => (zd_w zf_231 289 5 rfl).trans
  (zd_ld zf_231 rfl rfl (zd_ci zf_231 rfl rfl rfl rfl (fun r2 M2 => zd_eq zf_231 rfl (rfl) ((zd_w zf_231 297 1 rfl).trans
  (zd_ri zf_231 rfl zr_231 rfl))))))))
set_option maxRecDepth 20000 in
theorem e231_563 (L : Nat) (v3 : Int32) (M : zM) : zden (L + 1) 231 563 [some (.ref 62), some (.ref 0), some (.ref 48), some (.int v3)] [] M =
  zbI (zden (L + 1) 110 0 [some (.ref 0)] [] M) (fun r1 M1 => zbI (zden (L + 1) 184 0 [some (.ref 48)] [] M1) (fun r2 M2 => if r1 = r2 then (zden (L + 1) 231 1488 [some (.ref 62), some (.ref 0), some (.ref 48), some (.int v3)] [] M2) else (some (some (.int 0), M2)))) :=
  (zd_w zf_231 275 1 rfl).trans
  (zd_ci zf_231 rfl rfl rfl rfl (fun r1 M1 => (zd_w zf_231 277 1 rfl).trans
  (zd_ci zf_231 rfl rfl rfl rfl (fun r2 M2 => zd_eq zf_231 rfl (rfl) ((zd_w zf_231 280 1 rfl).trans
  (zd_ri zf_231 rfl zr_231 rfl))))))
set_option maxRecDepth 20000 in
theorem e231_550 (L : Nat) (v3 : Int32) (M : zM) : zden (L + 1) 231 550 [some (.ref 62), some (.ref 0), some (.ref 48), some (.int v3)] [] M =
  zbI (zden (L + 1) 109 0 [some (.ref 0)] [] M) (fun r1 M1 => zbI (zden (L + 1) 183 0 [some (.ref 48)] [] M1) (fun r2 M2 => if r1 = r2 then (zden (L + 1) 231 1488 [some (.ref 62), some (.ref 0), some (.ref 48), some (.int v3)] [] M2) else (some (some (.int 0), M2)))) :=
  (zd_w zf_231 268 1 rfl).trans
  (zd_ci zf_231 rfl rfl rfl rfl (fun r1 M1 => (zd_w zf_231 270 1 rfl).trans
  (zd_ci zf_231 rfl rfl rfl rfl (fun r2 M2 => zd_eq zf_231 rfl (rfl) ((zd_w zf_231 273 1 rfl).trans
  (zd_ri zf_231 rfl zr_231 rfl))))))
set_option maxRecDepth 20000 in
theorem e231_527 (L : Nat) (v3 : Int32) (M : zM) : zden (L + 1) 231 527 [some (.ref 62), some (.ref 0), some (.ref 48), some (.int v3)] [] M =
  if zinb (v3 + 1) L = true then (zbI (zden (L + 1) 108 0 [some (.ref 0), some (.int (M 62 (v3 + 1).toNatClampNeg))] [] M) (fun r1 M1 => if zinb (v3 + 1) L = true then (zbI (zden (L + 1) 181 0 [some (.ref 48), some (.int (M1 62 (v3 + 1).toNatClampNeg))] [] M1) (fun r2 M2 => if r1 = r2 then (zden (L + 1) 231 1488 [some (.ref 62), some (.ref 0), some (.ref 48), some (.int v3)] [] M2) else (some (some (.int 0), M2)))) else none)) else none :=
  (zd_w zf_231 251 5 rfl).trans
  (zd_ld zf_231 rfl rfl (zd_ci zf_231 rfl rfl rfl rfl (fun r1 M1 => (zd_w zf_231 258 5 rfl).trans
  (zd_ld zf_231 rfl rfl (zd_ci zf_231 rfl rfl rfl rfl (fun r2 M2 => zd_eq zf_231 rfl (rfl) ((zd_w zf_231 266 1 rfl).trans
  (zd_ri zf_231 rfl zr_231 rfl))))))))
set_option maxRecDepth 20000 in
theorem e231_458 (L : Nat) (v3 : Int32) (M : zM) : zden (L + 1) 231 458 [some (.ref 62), some (.ref 0), some (.ref 48), some (.int v3)] [] M =
  if zinb (v3 + 1) L = true then (if zinb (v3 + 2) L = true then (if zinb (v3 + 3) L = true then (if (M 62 (v3 + 3).toNatClampNeg) = 0 then (zden (L + 1) 231 482 [some (.ref 62), some (.ref 0), some (.ref 48), some (.int v3)] [.int 0, .int (M 62 (v3 + 2).toNatClampNeg), .int (M 62 (v3 + 1).toNatClampNeg), .ref 0] M) else (zden (L + 1) 231 482 [some (.ref 62), some (.ref 0), some (.ref 48), some (.int v3)] [.int 1, .int (M 62 (v3 + 2).toNatClampNeg), .int (M 62 (v3 + 1).toNatClampNeg), .ref 0] M)) else none) else none) else none :=
  (zd_w zf_231 196 5 rfl).trans
  (zd_ld zf_231 rfl rfl ((zd_w zf_231 202 4 rfl).trans
  (zd_ld zf_231 rfl rfl ((zd_w zf_231 207 4 rfl).trans
  (zd_ld zf_231 rfl rfl (zd_eq0 zf_231 rfl ((zd_w zf_231 215 1 rfl)) ((zd_w zf_231 213 1 rfl).trans
  (zd_goto zf_231 rfl (rfl)))))))))
set_option maxRecDepth 20000 in
theorem e231_419 (L : Nat) (v3 : Int32) (M : zM) : zden (L + 1) 231 419 [some (.ref 62), some (.ref 0), some (.ref 48), some (.int v3)] [] M =
  if zinb (v3 + 1) L = true then (if (M 62 (v3 + 1).toNatClampNeg) = 0 then (zden (L + 1) 231 433 [some (.ref 62), some (.ref 0), some (.ref 48), some (.int v3)] [.int 0, .ref 0] M) else (zden (L + 1) 231 433 [some (.ref 62), some (.ref 0), some (.ref 48), some (.int v3)] [.int 1, .ref 0] M)) else none :=
  (zd_w zf_231 171 5 rfl).trans
  (zd_ld zf_231 rfl rfl (zd_eq0 zf_231 rfl ((zd_w zf_231 180 1 rfl)) ((zd_w zf_231 178 1 rfl).trans
  (zd_goto zf_231 rfl (rfl)))))
set_option maxRecDepth 20000 in
theorem e231_386 (L : Nat) (v3 : Int32) (M : zM) : zden (L + 1) 231 386 [some (.ref 62), some (.ref 0), some (.ref 48), some (.int v3)] [] M =
  if zinb (v3 + 1) L = true then (if zinb (v3 + 2) L = true then (zbI (zden (L + 1) 104 0 [some (.ref 0), some (.int (M 62 (v3 + 1).toNatClampNeg)), some (.int (M 62 (v3 + 2).toNatClampNeg))] [] M) (fun r1 M1 => if zinb (v3 + 1) L = true then (if zinb (v3 + 2) L = true then (zbI (zden (L + 1) 170 0 [some (.ref 48), some (.int (M1 62 (v3 + 1).toNatClampNeg)), some (.int (M1 62 (v3 + 2).toNatClampNeg))] [] M1) (fun r2 M2 => if r1 = r2 then (zden (L + 1) 231 1488 [some (.ref 62), some (.ref 0), some (.ref 48), some (.int v3)] [] M2) else (some (some (.int 0), M2)))) else none) else none)) else none) else none :=
  (zd_w zf_231 144 5 rfl).trans
  (zd_ld zf_231 rfl rfl ((zd_w zf_231 150 4 rfl).trans
  (zd_ld zf_231 rfl rfl (zd_ci zf_231 rfl rfl rfl rfl (fun r1 M1 => (zd_w zf_231 156 5 rfl).trans
  (zd_ld zf_231 rfl rfl ((zd_w zf_231 162 4 rfl).trans
  (zd_ld zf_231 rfl rfl (zd_ci zf_231 rfl rfl rfl rfl (fun r2 M2 => zd_eq zf_231 rfl (rfl) ((zd_w zf_231 169 1 rfl).trans
  (zd_ri zf_231 rfl zr_231 rfl))))))))))))
set_option maxRecDepth 20000 in
theorem e231_363 (L : Nat) (v3 : Int32) (M : zM) : zden (L + 1) 231 363 [some (.ref 62), some (.ref 0), some (.ref 48), some (.int v3)] [] M =
  if zinb (v3 + 1) L = true then (zbI (zden (L + 1) 103 0 [some (.ref 0), some (.int (M 62 (v3 + 1).toNatClampNeg))] [] M) (fun r1 M1 => if zinb (v3 + 1) L = true then (zbI (zden (L + 1) 168 0 [some (.ref 48), some (.int (M1 62 (v3 + 1).toNatClampNeg))] [] M1) (fun r2 M2 => if r1 = r2 then (zden (L + 1) 231 1488 [some (.ref 62), some (.ref 0), some (.ref 48), some (.int v3)] [] M2) else (some (some (.int 0), M2)))) else none)) else none :=
  (zd_w zf_231 127 5 rfl).trans
  (zd_ld zf_231 rfl rfl (zd_ci zf_231 rfl rfl rfl rfl (fun r1 M1 => (zd_w zf_231 134 5 rfl).trans
  (zd_ld zf_231 rfl rfl (zd_ci zf_231 rfl rfl rfl rfl (fun r2 M2 => zd_eq zf_231 rfl (rfl) ((zd_w zf_231 142 1 rfl).trans
  (zd_ri zf_231 rfl zr_231 rfl))))))))
set_option maxRecDepth 20000 in
theorem e231_330 (L : Nat) (v3 : Int32) (M : zM) : zden (L + 1) 231 330 [some (.ref 62), some (.ref 0), some (.ref 48), some (.int v3)] [] M =
  if zinb (v3 + 1) L = true then (if zinb (v3 + 2) L = true then (zbI (zden (L + 1) 102 0 [some (.ref 0), some (.int (M 62 (v3 + 1).toNatClampNeg)), some (.int (M 62 (v3 + 2).toNatClampNeg))] [] M) (fun r1 M1 => if zinb (v3 + 1) L = true then (if zinb (v3 + 2) L = true then (zbI (zden (L + 1) 166 0 [some (.ref 48), some (.int (M1 62 (v3 + 1).toNatClampNeg)), some (.int (M1 62 (v3 + 2).toNatClampNeg))] [] M1) (fun r2 M2 => if r1 = r2 then (zden (L + 1) 231 1488 [some (.ref 62), some (.ref 0), some (.ref 48), some (.int v3)] [] M2) else (some (some (.int 0), M2)))) else none) else none)) else none) else none :=
  (zd_w zf_231 100 5 rfl).trans
  (zd_ld zf_231 rfl rfl ((zd_w zf_231 106 4 rfl).trans
  (zd_ld zf_231 rfl rfl (zd_ci zf_231 rfl rfl rfl rfl (fun r1 M1 => (zd_w zf_231 112 5 rfl).trans
  (zd_ld zf_231 rfl rfl ((zd_w zf_231 118 4 rfl).trans
  (zd_ld zf_231 rfl rfl (zd_ci zf_231 rfl rfl rfl rfl (fun r2 M2 => zd_eq zf_231 rfl (rfl) ((zd_w zf_231 125 1 rfl).trans
  (zd_ri zf_231 rfl zr_231 rfl))))))))))))
set_option maxRecDepth 20000 in
theorem e231_307 (L : Nat) (v3 : Int32) (M : zM) : zden (L + 1) 231 307 [some (.ref 62), some (.ref 0), some (.ref 48), some (.int v3)] [] M =
  if zinb (v3 + 1) L = true then (zbI (zden (L + 1) 101 0 [some (.ref 0), some (.int (M 62 (v3 + 1).toNatClampNeg))] [] M) (fun r1 M1 => if zinb (v3 + 1) L = true then (zbI (zden (L + 1) 164 0 [some (.ref 48), some (.int (M1 62 (v3 + 1).toNatClampNeg))] [] M1) (fun r2 M2 => if r1 = r2 then (zden (L + 1) 231 1488 [some (.ref 62), some (.ref 0), some (.ref 48), some (.int v3)] [] M2) else (some (some (.int 0), M2)))) else none)) else none :=
  (zd_w zf_231 83 5 rfl).trans
  (zd_ld zf_231 rfl rfl (zd_ci zf_231 rfl rfl rfl rfl (fun r1 M1 => (zd_w zf_231 90 5 rfl).trans
  (zd_ld zf_231 rfl rfl (zd_ci zf_231 rfl rfl rfl rfl (fun r2 M2 => zd_eq zf_231 rfl (rfl) ((zd_w zf_231 98 1 rfl).trans
  (zd_ri zf_231 rfl zr_231 rfl))))))))
set_option maxRecDepth 20000 in
theorem e231_274 (L : Nat) (v3 : Int32) (M : zM) : zden (L + 1) 231 274 [some (.ref 62), some (.ref 0), some (.ref 48), some (.int v3)] [] M =
  if zinb (v3 + 1) L = true then (if zinb (v3 + 2) L = true then (zbI (zden (L + 1) 100 0 [some (.ref 0), some (.int (M 62 (v3 + 1).toNatClampNeg)), some (.int (M 62 (v3 + 2).toNatClampNeg))] [] M) (fun r1 M1 => if zinb (v3 + 1) L = true then (if zinb (v3 + 2) L = true then (zbI (zden (L + 1) 162 0 [some (.ref 48), some (.int (M1 62 (v3 + 1).toNatClampNeg)), some (.int (M1 62 (v3 + 2).toNatClampNeg))] [] M1) (fun r2 M2 => if r1 = r2 then (zden (L + 1) 231 1488 [some (.ref 62), some (.ref 0), some (.ref 48), some (.int v3)] [] M2) else (some (some (.int 0), M2)))) else none) else none)) else none) else none :=
  (zd_w zf_231 56 5 rfl).trans
  (zd_ld zf_231 rfl rfl ((zd_w zf_231 62 4 rfl).trans
  (zd_ld zf_231 rfl rfl (zd_ci zf_231 rfl rfl rfl rfl (fun r1 M1 => (zd_w zf_231 68 5 rfl).trans
  (zd_ld zf_231 rfl rfl ((zd_w zf_231 74 4 rfl).trans
  (zd_ld zf_231 rfl rfl (zd_ci zf_231 rfl rfl rfl rfl (fun r2 M2 => zd_eq zf_231 rfl (rfl) ((zd_w zf_231 81 1 rfl).trans
  (zd_ri zf_231 rfl zr_231 rfl))))))))))))
set_option maxRecDepth 20000 in
theorem e231_261 (L : Nat) (v3 : Int32) (M : zM) : zden (L + 1) 231 261 [some (.ref 62), some (.ref 0), some (.ref 48), some (.int v3)] [] M =
  zbI (zden (L + 1) 99 0 [some (.ref 0)] [] M) (fun r1 M1 => zbI (zden (L + 1) 159 0 [some (.ref 48), none] [] M1) (fun r2 M2 => if r1 = r2 then (zden (L + 1) 231 1488 [some (.ref 62), some (.ref 0), some (.ref 48), some (.int v3)] [] M2) else (some (some (.int 0), M2)))) :=
  (zd_w zf_231 49 1 rfl).trans
  (zd_ci zf_231 rfl rfl rfl rfl (fun r1 M1 => (zd_w zf_231 51 1 rfl).trans
  (zd_ci zf_231 rfl rfl rfl rfl (fun r2 M2 => zd_eq zf_231 rfl (rfl) ((zd_w zf_231 54 1 rfl).trans
  (zd_ri zf_231 rfl zr_231 rfl))))))
set_option maxRecDepth 20000 in
theorem e231_248 (L : Nat) (v3 : Int32) (M : zM) : zden (L + 1) 231 248 [some (.ref 62), some (.ref 0), some (.ref 48), some (.int v3)] [] M =
  zbI (zden (L + 1) 98 0 [some (.ref 0)] [] M) (fun r1 M1 => zbI (zden (L + 1) 158 0 [some (.ref 48)] [] M1) (fun r2 M2 => if r1 = r2 then (zden (L + 1) 231 1488 [some (.ref 62), some (.ref 0), some (.ref 48), some (.int v3)] [] M2) else (some (some (.int 0), M2)))) :=
  (zd_w zf_231 42 1 rfl).trans
  (zd_ci zf_231 rfl rfl rfl rfl (fun r1 M1 => (zd_w zf_231 44 1 rfl).trans
  (zd_ci zf_231 rfl rfl rfl rfl (fun r2 M2 => zd_eq zf_231 rfl (rfl) ((zd_w zf_231 47 1 rfl).trans
  (zd_ri zf_231 rfl zr_231 rfl))))))
set_option maxRecDepth 20000 in
theorem e231_235 (L : Nat) (v3 : Int32) (M : zM) : zden (L + 1) 231 235 [some (.ref 62), some (.ref 0), some (.ref 48), some (.int v3)] [] M =
  zbI (zden (L + 1) 97 0 [some (.ref 0)] [] M) (fun r1 M1 => zbI (zden (L + 1) 145 0 [some (.ref 48), none] [] M1) (fun r2 M2 => if r1 = r2 then (zden (L + 1) 231 1488 [some (.ref 62), some (.ref 0), some (.ref 48), some (.int v3)] [] M2) else (some (some (.int 0), M2)))) :=
  (zd_w zf_231 35 1 rfl).trans
  (zd_ci zf_231 rfl rfl rfl rfl (fun r1 M1 => (zd_w zf_231 37 1 rfl).trans
  (zd_ci zf_231 rfl rfl rfl rfl (fun r2 M2 => zd_eq zf_231 rfl (rfl) ((zd_w zf_231 40 1 rfl).trans
  (zd_ri zf_231 rfl zr_231 rfl))))))
set_option maxRecDepth 20000 in
theorem e231_212 (L : Nat) (v3 : Int32) (M : zM) : zden (L + 1) 231 212 [some (.ref 62), some (.ref 0), some (.ref 48), some (.int v3)] [] M =
  if zinb (v3 + 1) L = true then (zbI (zden (L + 1) 96 0 [some (.ref 0), some (.int (M 62 (v3 + 1).toNatClampNeg))] [] M) (fun r1 M1 => if zinb (v3 + 1) L = true then (zbI (zden (L + 1) 144 0 [some (.ref 48), some (.int (M1 62 (v3 + 1).toNatClampNeg))] [] M1) (fun r2 M2 => if r1 = r2 then (zden (L + 1) 231 1488 [some (.ref 62), some (.ref 0), some (.ref 48), some (.int v3)] [] M2) else (some (some (.int 0), M2)))) else none)) else none :=
  (zd_w zf_231 18 5 rfl).trans
  (zd_ld zf_231 rfl rfl (zd_ci zf_231 rfl rfl rfl rfl (fun r1 M1 => (zd_w zf_231 25 5 rfl).trans
  (zd_ld zf_231 rfl rfl (zd_ci zf_231 rfl rfl rfl rfl (fun r2 M2 => zd_eq zf_231 rfl (rfl) ((zd_w zf_231 33 1 rfl).trans
  (zd_ri zf_231 rfl zr_231 rfl))))))))
set_option maxRecDepth 20000 in
theorem e231_1394 (L : Nat) (v3 : Int32) (s0 : Int32) (s1 : Int32) (s2 : Int32) (s3 : Int32) (s4 : Int32) (M : zM) : zden (L + 1) 231 1394 [some (.ref 62), some (.ref 0), some (.ref 48), some (.int v3)] [.int s0, .int s1, .int s2, .int s3, .int s4, .ref 0] M =
  zbI (zden (L + 1) 137 0 [some (.ref 0), some (.int s4), some (.int s3), some (.int s2), some (.int s1), some (.int s0), none, none] [] M) (fun r1 M1 => if zinb (v3 + 1) L = true then (if zinb (v3 + 2) L = true then (if zinb (v3 + 3) L = true then (if zinb (v3 + 4) L = true then (if zinb (v3 + 5) L = true then (if (M1 62 (v3 + 5).toNatClampNeg) = 0 then (zden (L + 1) 231 1431 [some (.ref 62), some (.ref 0), some (.ref 48), some (.int v3)] [.int 0, .int (M1 62 (v3 + 4).toNatClampNeg), .int (M1 62 (v3 + 3).toNatClampNeg), .int (M1 62 (v3 + 2).toNatClampNeg), .int (M1 62 (v3 + 1).toNatClampNeg), .ref 48, .int r1] M1) else (zden (L + 1) 231 1431 [some (.ref 62), some (.ref 0), some (.ref 48), some (.int v3)] [.int 1, .int (M1 62 (v3 + 4).toNatClampNeg), .int (M1 62 (v3 + 3).toNatClampNeg), .int (M1 62 (v3 + 2).toNatClampNeg), .int (M1 62 (v3 + 1).toNatClampNeg), .ref 48, .int r1] M1)) else none) else none) else none) else none) else none) :=
  zd_ci zf_231 rfl rfl rfl rfl (fun r1 M1 => (zd_w zf_231 887 5 rfl).trans
  (zd_ld zf_231 rfl rfl ((zd_w zf_231 893 4 rfl).trans
  (zd_ld zf_231 rfl rfl ((zd_w zf_231 898 4 rfl).trans
  (zd_ld zf_231 rfl rfl ((zd_w zf_231 903 4 rfl).trans
  (zd_ld zf_231 rfl rfl ((zd_w zf_231 908 4 rfl).trans
  (zd_ld zf_231 rfl rfl (zd_eq0 zf_231 rfl ((zd_w zf_231 916 1 rfl)) ((zd_w zf_231 914 1 rfl).trans
  (zd_goto zf_231 rfl (rfl))))))))))))))
set_option maxRecDepth 20000 in
theorem e231_1325 (L : Nat) (v3 : Int32) (s0 : Int32) (s1 : Int32) (s2 : Int32) (M : zM) : zden (L + 1) 231 1325 [some (.ref 62), some (.ref 0), some (.ref 48), some (.int v3)] [.int s0, .int s1, .int s2, .ref 0] M =
  zbI (zden (L + 1) 136 0 [some (.ref 0), some (.int s2), some (.int s1), some (.int s0)] [] M) (fun r1 M1 => if zinb (v3 + 1) L = true then (if zinb (v3 + 2) L = true then (if zinb (v3 + 3) L = true then (if (M1 62 (v3 + 3).toNatClampNeg) = 0 then (zden (L + 1) 231 1352 [some (.ref 62), some (.ref 0), some (.ref 48), some (.int v3)] [.int 0, .int (M1 62 (v3 + 2).toNatClampNeg), .int (M1 62 (v3 + 1).toNatClampNeg), .ref 48, .int r1] M1) else (zden (L + 1) 231 1352 [some (.ref 62), some (.ref 0), some (.ref 48), some (.int v3)] [.int 1, .int (M1 62 (v3 + 2).toNatClampNeg), .int (M1 62 (v3 + 1).toNatClampNeg), .ref 48, .int r1] M1)) else none) else none) else none) :=
  zd_ci zf_231 rfl rfl rfl rfl (fun r1 M1 => (zd_w zf_231 832 5 rfl).trans
  (zd_ld zf_231 rfl rfl ((zd_w zf_231 838 4 rfl).trans
  (zd_ld zf_231 rfl rfl ((zd_w zf_231 843 4 rfl).trans
  (zd_ld zf_231 rfl rfl (zd_eq0 zf_231 rfl ((zd_w zf_231 851 1 rfl)) ((zd_w zf_231 849 1 rfl).trans
  (zd_goto zf_231 rfl (rfl))))))))))
set_option maxRecDepth 20000 in
theorem e231_1271 (L : Nat) (v3 : Int32) (s0 : Int32) (s1 : Int32) (M : zM) : zden (L + 1) 231 1271 [some (.ref 62), some (.ref 0), some (.ref 48), some (.int v3)] [.int s0, .int s1, .ref 0] M =
  zbI (zden (L + 1) 135 0 [some (.ref 0), some (.int s1), some (.int s0), none] [] M) (fun r1 M1 => if zinb (v3 + 1) L = true then (if zinb (v3 + 2) L = true then (if (M1 62 (v3 + 2).toNatClampNeg) = 0 then (zden (L + 1) 231 1293 [some (.ref 62), some (.ref 0), some (.ref 48), some (.int v3)] [.int 0, .int (M1 62 (v3 + 1).toNatClampNeg), .ref 48, .int r1] M1) else (zden (L + 1) 231 1293 [some (.ref 62), some (.ref 0), some (.ref 48), some (.int v3)] [.int 1, .int (M1 62 (v3 + 1).toNatClampNeg), .ref 48, .int r1] M1)) else none) else none) :=
  zd_ci zf_231 rfl rfl rfl rfl (fun r1 M1 => (zd_w zf_231 792 5 rfl).trans
  (zd_ld zf_231 rfl rfl ((zd_w zf_231 798 4 rfl).trans
  (zd_ld zf_231 rfl rfl (zd_eq0 zf_231 rfl ((zd_w zf_231 806 1 rfl)) ((zd_w zf_231 804 1 rfl).trans
  (zd_goto zf_231 rfl (rfl))))))))
set_option maxRecDepth 20000 in
theorem e231_1064 (L : Nat) (v3 : Int32) (s0 : Int32) (s1 : Int32) (M : zM) : zden (L + 1) 231 1064 [some (.ref 62), some (.ref 0), some (.ref 48), some (.int v3)] [.int s0, .int s1, .ref 0] M =
  if zinb (v3 + 3) L = true then (zbI (zden (L + 1) 127 0 [some (.ref 0), some (.int s1), some (.int s0), some (.int (M 62 (v3 + 3).toNatClampNeg)), none, none, none] [] M) (fun r1 M1 => if zinb (v3 + 1) L = true then (if zinb (v3 + 2) L = true then (if (M1 62 (v3 + 2).toNatClampNeg) = 0 then (zden (L + 1) 231 1091 [some (.ref 62), some (.ref 0), some (.ref 48), some (.int v3)] [.int 0, .int (M1 62 (v3 + 1).toNatClampNeg), .ref 48, .int r1] M1) else (zden (L + 1) 231 1091 [some (.ref 62), some (.ref 0), some (.ref 48), some (.int v3)] [.int 1, .int (M1 62 (v3 + 1).toNatClampNeg), .ref 48, .int r1] M1)) else none) else none)) else none :=
  (zd_w zf_231 634 4 rfl).trans
  (zd_ld zf_231 rfl rfl (zd_ci zf_231 rfl rfl rfl rfl (fun r1 M1 => (zd_w zf_231 640 5 rfl).trans
  (zd_ld zf_231 rfl rfl ((zd_w zf_231 646 4 rfl).trans
  (zd_ld zf_231 rfl rfl (zd_eq0 zf_231 rfl ((zd_w zf_231 654 1 rfl)) ((zd_w zf_231 652 1 rfl).trans
  (zd_goto zf_231 rfl (rfl))))))))))
set_option maxRecDepth 20000 in
theorem e231_1010 (L : Nat) (v3 : Int32) (s0 : Int32) (s1 : Int32) (s2 : Int32) (M : zM) : zden (L + 1) 231 1010 [some (.ref 62), some (.ref 0), some (.ref 48), some (.int v3)] [.int s0, .int s1, .int s2, .ref 0] M =
  zbI (zden (L + 1) 124 0 [some (.ref 0), some (.int s2), some (.int s1), some (.int s0)] [] M) (fun r1 M1 => if zinb (v3 + 1) L = true then (if zinb (v3 + 2) L = true then (if zinb (v3 + 3) L = true then (if (M1 62 (v3 + 3).toNatClampNeg) = 0 then (zden (L + 1) 231 1037 [some (.ref 62), some (.ref 0), some (.ref 48), some (.int v3)] [.int 0, .int (M1 62 (v3 + 2).toNatClampNeg), .int (M1 62 (v3 + 1).toNatClampNeg), .ref 48, .int r1] M1) else (zden (L + 1) 231 1037 [some (.ref 62), some (.ref 0), some (.ref 48), some (.int v3)] [.int 1, .int (M1 62 (v3 + 2).toNatClampNeg), .int (M1 62 (v3 + 1).toNatClampNeg), .ref 48, .int r1] M1)) else none) else none) else none) :=
  zd_ci zf_231 rfl rfl rfl rfl (fun r1 M1 => (zd_w zf_231 595 5 rfl).trans
  (zd_ld zf_231 rfl rfl ((zd_w zf_231 601 4 rfl).trans
  (zd_ld zf_231 rfl rfl ((zd_w zf_231 606 4 rfl).trans
  (zd_ld zf_231 rfl rfl (zd_eq0 zf_231 rfl ((zd_w zf_231 614 1 rfl)) ((zd_w zf_231 612 1 rfl).trans
  (zd_goto zf_231 rfl (rfl))))))))))
set_option maxRecDepth 20000 in
theorem e231_961 (L : Nat) (v3 : Int32) (s0 : Int32) (M : zM) : zden (L + 1) 231 961 [some (.ref 62), some (.ref 0), some (.ref 48), some (.int v3)] [.int s0, .ref 0] M =
  zbI (zden (L + 1) 123 0 [some (.ref 0), some (.int s0)] [] M) (fun r1 M1 => if zinb (v3 + 1) L = true then (if (M1 62 (v3 + 1).toNatClampNeg) = 0 then (zden (L + 1) 231 978 [some (.ref 62), some (.ref 0), some (.ref 48), some (.int v3)] [.int 0, .ref 48, .int r1] M1) else (zden (L + 1) 231 978 [some (.ref 62), some (.ref 0), some (.ref 48), some (.int v3)] [.int 1, .ref 48, .int r1] M1)) else none) :=
  zd_ci zf_231 rfl rfl rfl rfl (fun r1 M1 => (zd_w zf_231 560 5 rfl).trans
  (zd_ld zf_231 rfl rfl (zd_eq0 zf_231 rfl ((zd_w zf_231 569 1 rfl)) ((zd_w zf_231 567 1 rfl).trans
  (zd_goto zf_231 rfl (rfl))))))
set_option maxRecDepth 20000 in
theorem e231_912 (L : Nat) (v3 : Int32) (s0 : Int32) (s1 : Int32) (s2 : Int32) (M : zM) : zden (L + 1) 231 912 [some (.ref 62), some (.ref 0), some (.ref 48), some (.int v3)] [.int s0, .int s1, .int s2, .ref 0] M =
  zbI (zden (L + 1) 122 0 [some (.ref 0), some (.int s2), some (.int s1), some (.int s0)] [] M) (fun r1 M1 => if zinb (v3 + 1) L = true then (if zinb (v3 + 2) L = true then (if zinb (v3 + 3) L = true then (if (M1 62 (v3 + 3).toNatClampNeg) = 0 then (zden (L + 1) 231 939 [some (.ref 62), some (.ref 0), some (.ref 48), some (.int v3)] [.int 0, .int (M1 62 (v3 + 2).toNatClampNeg), .int (M1 62 (v3 + 1).toNatClampNeg), .ref 48, .int r1] M1) else (zden (L + 1) 231 939 [some (.ref 62), some (.ref 0), some (.ref 48), some (.int v3)] [.int 1, .int (M1 62 (v3 + 2).toNatClampNeg), .int (M1 62 (v3 + 1).toNatClampNeg), .ref 48, .int r1] M1)) else none) else none) else none) :=
  zd_ci zf_231 rfl rfl rfl rfl (fun r1 M1 => (zd_w zf_231 525 5 rfl).trans
  (zd_ld zf_231 rfl rfl ((zd_w zf_231 531 4 rfl).trans
  (zd_ld zf_231 rfl rfl ((zd_w zf_231 536 4 rfl).trans
  (zd_ld zf_231 rfl rfl (zd_eq0 zf_231 rfl ((zd_w zf_231 544 1 rfl)) ((zd_w zf_231 542 1 rfl).trans
  (zd_goto zf_231 rfl (rfl))))))))))
set_option maxRecDepth 20000 in
theorem e231_845 (L : Nat) (v3 : Int32) (s0 : Int32) (s1 : Int32) (M : zM) : zden (L + 1) 231 845 [some (.ref 62), some (.ref 0), some (.ref 48), some (.int v3)] [.int s0, .int s1, .ref 0] M =
  zbI (zden (L + 1) 120 0 [some (.ref 0), some (.int s1), some (.int s0)] [] M) (fun r1 M1 => if zinb (v3 + 1) L = true then (if zinb (v3 + 2) L = true then (if (M1 62 (v3 + 2).toNatClampNeg) = 0 then (zden (L + 1) 231 867 [some (.ref 62), some (.ref 0), some (.ref 48), some (.int v3)] [.int 0, .int (M1 62 (v3 + 1).toNatClampNeg), .ref 48, .int r1] M1) else (zden (L + 1) 231 867 [some (.ref 62), some (.ref 0), some (.ref 48), some (.int v3)] [.int 1, .int (M1 62 (v3 + 1).toNatClampNeg), .ref 48, .int r1] M1)) else none) else none) :=
  zd_ci zf_231 rfl rfl rfl rfl (fun r1 M1 => (zd_w zf_231 478 5 rfl).trans
  (zd_ld zf_231 rfl rfl ((zd_w zf_231 484 4 rfl).trans
  (zd_ld zf_231 rfl rfl (zd_eq0 zf_231 rfl ((zd_w zf_231 492 1 rfl)) ((zd_w zf_231 490 1 rfl).trans
  (zd_goto zf_231 rfl (rfl))))))))
set_option maxRecDepth 20000 in
theorem e231_721 (L : Nat) (v3 : Int32) (s0 : Int32) (M : zM) : zden (L + 1) 231 721 [some (.ref 62), some (.ref 0), some (.ref 48), some (.int v3)] [.int s0, .ref 0] M =
  zbI (zden (L + 1) 116 0 [some (.ref 0), some (.int s0), none] [] M) (fun r1 M1 => if zinb (v3 + 1) L = true then (if (M1 62 (v3 + 1).toNatClampNeg) = 0 then (zden (L + 1) 231 738 [some (.ref 62), some (.ref 0), some (.ref 48), some (.int v3)] [.int 0, .ref 48, .int r1] M1) else (zden (L + 1) 231 738 [some (.ref 62), some (.ref 0), some (.ref 48), some (.int v3)] [.int 1, .ref 48, .int r1] M1)) else none) :=
  zd_ci zf_231 rfl rfl rfl rfl (fun r1 M1 => (zd_w zf_231 386 5 rfl).trans
  (zd_ld zf_231 rfl rfl (zd_eq0 zf_231 rfl ((zd_w zf_231 395 1 rfl)) ((zd_w zf_231 393 1 rfl).trans
  (zd_goto zf_231 rfl (rfl))))))
set_option maxRecDepth 20000 in
theorem e231_667 (L : Nat) (v3 : Int32) (s0 : Int32) (s1 : Int32) (M : zM) : zden (L + 1) 231 667 [some (.ref 62), some (.ref 0), some (.ref 48), some (.int v3)] [.int s0, .int s1, .ref 0] M =
  if zinb (v3 + 3) L = true then (zbI (zden (L + 1) 115 0 [some (.ref 0), some (.int s1), some (.int s0), some (.int (M 62 (v3 + 3).toNatClampNeg)), none] [] M) (fun r1 M1 => if zinb (v3 + 1) L = true then (if zinb (v3 + 2) L = true then (if (M1 62 (v3 + 2).toNatClampNeg) = 0 then (zden (L + 1) 231 694 [some (.ref 62), some (.ref 0), some (.ref 48), some (.int v3)] [.int 0, .int (M1 62 (v3 + 1).toNatClampNeg), .ref 48, .int r1] M1) else (zden (L + 1) 231 694 [some (.ref 62), some (.ref 0), some (.ref 48), some (.int v3)] [.int 1, .int (M1 62 (v3 + 1).toNatClampNeg), .ref 48, .int r1] M1)) else none) else none)) else none :=
  (zd_w zf_231 345 4 rfl).trans
  (zd_ld zf_231 rfl rfl (zd_ci zf_231 rfl rfl rfl rfl (fun r1 M1 => (zd_w zf_231 351 5 rfl).trans
  (zd_ld zf_231 rfl rfl ((zd_w zf_231 357 4 rfl).trans
  (zd_ld zf_231 rfl rfl (zd_eq0 zf_231 rfl ((zd_w zf_231 365 1 rfl)) ((zd_w zf_231 363 1 rfl).trans
  (zd_goto zf_231 rfl (rfl))))))))))
set_option maxRecDepth 20000 in
theorem e231_482 (L : Nat) (v3 : Int32) (s0 : Int32) (s1 : Int32) (s2 : Int32) (M : zM) : zden (L + 1) 231 482 [some (.ref 62), some (.ref 0), some (.ref 48), some (.int v3)] [.int s0, .int s1, .int s2, .ref 0] M =
  if zinb (v3 + 4) L = true then (zbI (zden (L + 1) 106 0 [some (.ref 0), some (.int s2), some (.int s1), some (.int s0), some (.int (M 62 (v3 + 4).toNatClampNeg)), none] [] M) (fun r1 M1 => if zinb (v3 + 1) L = true then (if zinb (v3 + 2) L = true then (if zinb (v3 + 3) L = true then (if (M1 62 (v3 + 3).toNatClampNeg) = 0 then (zden (L + 1) 231 514 [some (.ref 62), some (.ref 0), some (.ref 48), some (.int v3)] [.int 0, .int (M1 62 (v3 + 2).toNatClampNeg), .int (M1 62 (v3 + 1).toNatClampNeg), .ref 48, .int r1] M1) else (zden (L + 1) 231 514 [some (.ref 62), some (.ref 0), some (.ref 48), some (.int v3)] [.int 1, .int (M1 62 (v3 + 2).toNatClampNeg), .int (M1 62 (v3 + 1).toNatClampNeg), .ref 48, .int r1] M1)) else none) else none) else none)) else none :=
  (zd_w zf_231 216 4 rfl).trans
  (zd_ld zf_231 rfl rfl (zd_ci zf_231 rfl rfl rfl rfl (fun r1 M1 => (zd_w zf_231 222 5 rfl).trans
  (zd_ld zf_231 rfl rfl ((zd_w zf_231 228 4 rfl).trans
  (zd_ld zf_231 rfl rfl ((zd_w zf_231 233 4 rfl).trans
  (zd_ld zf_231 rfl rfl (zd_eq0 zf_231 rfl ((zd_w zf_231 241 1 rfl)) ((zd_w zf_231 239 1 rfl).trans
  (zd_goto zf_231 rfl (rfl))))))))))))
set_option maxRecDepth 20000 in
theorem e231_433 (L : Nat) (v3 : Int32) (s0 : Int32) (M : zM) : zden (L + 1) 231 433 [some (.ref 62), some (.ref 0), some (.ref 48), some (.int v3)] [.int s0, .ref 0] M =
  zbI (zden (L + 1) 105 0 [some (.ref 0), some (.int s0)] [] M) (fun r1 M1 => if zinb (v3 + 1) L = true then (if (M1 62 (v3 + 1).toNatClampNeg) = 0 then (zden (L + 1) 231 450 [some (.ref 62), some (.ref 0), some (.ref 48), some (.int v3)] [.int 0, .ref 48, .int r1] M1) else (zden (L + 1) 231 450 [some (.ref 62), some (.ref 0), some (.ref 48), some (.int v3)] [.int 1, .ref 48, .int r1] M1)) else none) :=
  zd_ci zf_231 rfl rfl rfl rfl (fun r1 M1 => (zd_w zf_231 182 5 rfl).trans
  (zd_ld zf_231 rfl rfl (zd_eq0 zf_231 rfl ((zd_w zf_231 191 1 rfl)) ((zd_w zf_231 189 1 rfl).trans
  (zd_goto zf_231 rfl (rfl))))))
set_option maxRecDepth 20000 in
theorem e231_1431 (L : Nat) (v3 : Int32) (s0 : Int32) (s1 : Int32) (s2 : Int32) (s3 : Int32) (s4 : Int32) (s6 : Int32) (M : zM) : zden (L + 1) 231 1431 [some (.ref 62), some (.ref 0), some (.ref 48), some (.int v3)] [.int s0, .int s1, .int s2, .int s3, .int s4, .ref 48, .int s6] M =
  zbI (zden (L + 1) 227 0 [some (.ref 48), some (.int s4), some (.int s3), some (.int s2), some (.int s1), some (.int s0), none, none, none] [] M) (fun r1 M1 => if s6 = r1 then (zden (L + 1) 231 1488 [some (.ref 62), some (.ref 0), some (.ref 48), some (.int v3)] [] M1) else (some (some (.int 0), M1))) :=
  zd_ci zf_231 rfl rfl rfl rfl (fun r1 M1 => zd_eq zf_231 rfl (rfl) ((zd_w zf_231 919 1 rfl).trans
  (zd_ri zf_231 rfl zr_231 rfl)))
set_option maxRecDepth 20000 in
theorem e231_1352 (L : Nat) (v3 : Int32) (s0 : Int32) (s1 : Int32) (s2 : Int32) (s4 : Int32) (M : zM) : zden (L + 1) 231 1352 [some (.ref 62), some (.ref 0), some (.ref 48), some (.int v3)] [.int s0, .int s1, .int s2, .ref 48, .int s4] M =
  zbI (zden (L + 1) 226 0 [some (.ref 48), some (.int s2), some (.int s1), some (.int s0)] [] M) (fun r1 M1 => if s4 = r1 then (zden (L + 1) 231 1488 [some (.ref 62), some (.ref 0), some (.ref 48), some (.int v3)] [] M1) else (some (some (.int 0), M1))) :=
  zd_ci zf_231 rfl rfl rfl rfl (fun r1 M1 => zd_eq zf_231 rfl (rfl) ((zd_w zf_231 854 1 rfl).trans
  (zd_ri zf_231 rfl zr_231 rfl)))
set_option maxRecDepth 20000 in
theorem e231_1293 (L : Nat) (v3 : Int32) (s0 : Int32) (s1 : Int32) (s3 : Int32) (M : zM) : zden (L + 1) 231 1293 [some (.ref 62), some (.ref 0), some (.ref 48), some (.int v3)] [.int s0, .int s1, .ref 48, .int s3] M =
  zbI (zden (L + 1) 224 0 [some (.ref 48), some (.int s1), some (.int s0)] [] M) (fun r1 M1 => if s3 = r1 then (zden (L + 1) 231 1488 [some (.ref 62), some (.ref 0), some (.ref 48), some (.int v3)] [] M1) else (some (some (.int 0), M1))) :=
  zd_ci zf_231 rfl rfl rfl rfl (fun r1 M1 => zd_eq zf_231 rfl (rfl) ((zd_w zf_231 809 1 rfl).trans
  (zd_ri zf_231 rfl zr_231 rfl)))
set_option maxRecDepth 20000 in
theorem e231_1091 (L : Nat) (v3 : Int32) (s0 : Int32) (s1 : Int32) (s3 : Int32) (M : zM) : zden (L + 1) 231 1091 [some (.ref 62), some (.ref 0), some (.ref 48), some (.int v3)] [.int s0, .int s1, .ref 48, .int s3] M =
  if zinb (v3 + 3) L = true then (zbI (zden (L + 1) 211 0 [some (.ref 48), some (.int s1), some (.int s0), some (.int (M 62 (v3 + 3).toNatClampNeg)), none, none, none, none] [] M) (fun r1 M1 => if s3 = r1 then (zden (L + 1) 231 1488 [some (.ref 62), some (.ref 0), some (.ref 48), some (.int v3)] [] M1) else (some (some (.int 0), M1)))) else none :=
  (zd_w zf_231 655 4 rfl).trans
  (zd_ld zf_231 rfl rfl (zd_ci zf_231 rfl rfl rfl rfl (fun r1 M1 => zd_eq zf_231 rfl (rfl) ((zd_w zf_231 662 1 rfl).trans
  (zd_ri zf_231 rfl zr_231 rfl)))))
set_option maxRecDepth 20000 in
theorem e231_1037 (L : Nat) (v3 : Int32) (s0 : Int32) (s1 : Int32) (s2 : Int32) (s4 : Int32) (M : zM) : zden (L + 1) 231 1037 [some (.ref 62), some (.ref 0), some (.ref 48), some (.int v3)] [.int s0, .int s1, .int s2, .ref 48, .int s4] M =
  zbI (zden (L + 1) 210 0 [some (.ref 48), some (.int s2), some (.int s1), some (.int s0)] [] M) (fun r1 M1 => if s4 = r1 then (zden (L + 1) 231 1488 [some (.ref 62), some (.ref 0), some (.ref 48), some (.int v3)] [] M1) else (some (some (.int 0), M1))) :=
  zd_ci zf_231 rfl rfl rfl rfl (fun r1 M1 => zd_eq zf_231 rfl (rfl) ((zd_w zf_231 617 1 rfl).trans
  (zd_ri zf_231 rfl zr_231 rfl)))
set_option maxRecDepth 20000 in
theorem e231_978 (L : Nat) (v3 : Int32) (s0 : Int32) (s2 : Int32) (M : zM) : zden (L + 1) 231 978 [some (.ref 62), some (.ref 0), some (.ref 48), some (.int v3)] [.int s0, .ref 48, .int s2] M =
  zbI (zden (L + 1) 208 0 [some (.ref 48), some (.int s0), none, none] [] M) (fun r1 M1 => if s2 = r1 then (zden (L + 1) 231 1488 [some (.ref 62), some (.ref 0), some (.ref 48), some (.int v3)] [] M1) else (some (some (.int 0), M1))) :=
  zd_ci zf_231 rfl rfl rfl rfl (fun r1 M1 => zd_eq zf_231 rfl (rfl) ((zd_w zf_231 572 1 rfl).trans
  (zd_ri zf_231 rfl zr_231 rfl)))
set_option maxRecDepth 20000 in
theorem e231_939 (L : Nat) (v3 : Int32) (s0 : Int32) (s1 : Int32) (s2 : Int32) (s4 : Int32) (M : zM) : zden (L + 1) 231 939 [some (.ref 62), some (.ref 0), some (.ref 48), some (.int v3)] [.int s0, .int s1, .int s2, .ref 48, .int s4] M =
  zbI (zden (L + 1) 207 0 [some (.ref 48), some (.int s2), some (.int s1), some (.int s0)] [] M) (fun r1 M1 => if s4 = r1 then (zden (L + 1) 231 1488 [some (.ref 62), some (.ref 0), some (.ref 48), some (.int v3)] [] M1) else (some (some (.int 0), M1))) :=
  zd_ci zf_231 rfl rfl rfl rfl (fun r1 M1 => zd_eq zf_231 rfl (rfl) ((zd_w zf_231 547 1 rfl).trans
  (zd_ri zf_231 rfl zr_231 rfl)))
set_option maxRecDepth 20000 in
theorem e231_867 (L : Nat) (v3 : Int32) (s0 : Int32) (s1 : Int32) (s3 : Int32) (M : zM) : zden (L + 1) 231 867 [some (.ref 62), some (.ref 0), some (.ref 48), some (.int v3)] [.int s0, .int s1, .ref 48, .int s3] M =
  zbI (zden (L + 1) 203 0 [some (.ref 48), some (.int s1), some (.int s0)] [] M) (fun r1 M1 => if s3 = r1 then (zden (L + 1) 231 1488 [some (.ref 62), some (.ref 0), some (.ref 48), some (.int v3)] [] M1) else (some (some (.int 0), M1))) :=
  zd_ci zf_231 rfl rfl rfl rfl (fun r1 M1 => zd_eq zf_231 rfl (rfl) ((zd_w zf_231 495 1 rfl).trans
  (zd_ri zf_231 rfl zr_231 rfl)))
set_option maxRecDepth 20000 in
theorem e231_738 (L : Nat) (v3 : Int32) (s0 : Int32) (s2 : Int32) (M : zM) : zden (L + 1) 231 738 [some (.ref 62), some (.ref 0), some (.ref 48), some (.int v3)] [.int s0, .ref 48, .int s2] M =
  zbI (zden (L + 1) 195 0 [some (.ref 48), some (.int s0), none, none, none, none, none] [] M) (fun r1 M1 => if s2 = r1 then (zden (L + 1) 231 1488 [some (.ref 62), some (.ref 0), some (.ref 48), some (.int v3)] [] M1) else (some (some (.int 0), M1))) :=
  zd_ci zf_231 rfl rfl rfl rfl (fun r1 M1 => zd_eq zf_231 rfl (rfl) ((zd_w zf_231 398 1 rfl).trans
  (zd_ri zf_231 rfl zr_231 rfl)))
set_option maxRecDepth 20000 in
theorem e231_694 (L : Nat) (v3 : Int32) (s0 : Int32) (s1 : Int32) (s3 : Int32) (M : zM) : zden (L + 1) 231 694 [some (.ref 62), some (.ref 0), some (.ref 48), some (.int v3)] [.int s0, .int s1, .ref 48, .int s3] M =
  if zinb (v3 + 3) L = true then (zbI (zden (L + 1) 193 0 [some (.ref 48), some (.int s1), some (.int s0), some (.int (M 62 (v3 + 3).toNatClampNeg)), none, none] [] M) (fun r1 M1 => if s3 = r1 then (zden (L + 1) 231 1488 [some (.ref 62), some (.ref 0), some (.ref 48), some (.int v3)] [] M1) else (some (some (.int 0), M1)))) else none :=
  (zd_w zf_231 366 4 rfl).trans
  (zd_ld zf_231 rfl rfl (zd_ci zf_231 rfl rfl rfl rfl (fun r1 M1 => zd_eq zf_231 rfl (rfl) ((zd_w zf_231 373 1 rfl).trans
  (zd_ri zf_231 rfl zr_231 rfl)))))
set_option maxRecDepth 20000 in
theorem e231_514 (L : Nat) (v3 : Int32) (s0 : Int32) (s1 : Int32) (s2 : Int32) (s4 : Int32) (M : zM) : zden (L + 1) 231 514 [some (.ref 62), some (.ref 0), some (.ref 48), some (.int v3)] [.int s0, .int s1, .int s2, .ref 48, .int s4] M =
  if zinb (v3 + 4) L = true then (zbI (zden (L + 1) 176 0 [some (.ref 48), some (.int s2), some (.int s1), some (.int s0), some (.int (M 62 (v3 + 4).toNatClampNeg)), none] [] M) (fun r1 M1 => if s4 = r1 then (zden (L + 1) 231 1488 [some (.ref 62), some (.ref 0), some (.ref 48), some (.int v3)] [] M1) else (some (some (.int 0), M1)))) else none :=
  (zd_w zf_231 242 4 rfl).trans
  (zd_ld zf_231 rfl rfl (zd_ci zf_231 rfl rfl rfl rfl (fun r1 M1 => zd_eq zf_231 rfl (rfl) ((zd_w zf_231 249 1 rfl).trans
  (zd_ri zf_231 rfl zr_231 rfl)))))
set_option maxRecDepth 20000 in
theorem e231_450 (L : Nat) (v3 : Int32) (s0 : Int32) (s2 : Int32) (M : zM) : zden (L + 1) 231 450 [some (.ref 62), some (.ref 0), some (.ref 48), some (.int v3)] [.int s0, .ref 48, .int s2] M =
  zbI (zden (L + 1) 171 0 [some (.ref 48), some (.int s0)] [] M) (fun r1 M1 => if s2 = r1 then (zden (L + 1) 231 1488 [some (.ref 62), some (.ref 0), some (.ref 48), some (.int v3)] [] M1) else (some (some (.int 0), M1))) :=
  zd_ci zf_231 rfl rfl rfl rfl (fun r1 M1 => zd_eq zf_231 rfl (rfl) ((zd_w zf_231 194 1 rfl).trans
  (zd_ri zf_231 rfl zr_231 rfl)))
theorem e232E_201  (M : zM) : zden 0 232 201 [some (.ref 0)] [] M =
  zbV (zden 0 32 0 [some (.ref 1)] [] M) (fun M1 => zbI (zden 0 47 0 [some (.ref 1), some (.int 15), some (.int 30)] [] M1) (fun r2 M2 => zbI (zden 0 47 0 [some (.ref 1), some (.int 15), some (.int 30)] [] M2) (fun r3 M3 => zbI (zden 0 47 0 [some (.ref 1), some (.int 20), some (.int 25)] [] M3) (fun r4 M4 => zbV (zden 0 95 0 [some (.ref 0), some (.int 0)] [] M4) (fun M5 => some (none, M5)))))) :=
  (zd_w zf_232 0 2 rfl).trans
  (zd_cv zf_232 rfl rfl rfl rfl (fun M1 => (zd_w zf_232 3 4 rfl).trans
  (zd_ci zf_232 rfl rfl rfl rfl (fun r2 M2 => (zd_w zf_232 8 5 rfl).trans
  (zd_ci zf_232 rfl rfl rfl rfl (fun r3 M3 => (zd_w zf_232 14 5 rfl).trans
  (zd_ci zf_232 rfl rfl rfl rfl (fun r4 M4 => (zd_w zf_232 20 3 rfl).trans
  (zd_cv zf_232 rfl rfl rfl rfl (fun M5 => zd_rv zf_232 rfl))))))))))
theorem e233_109 (L : Nat) (o1 : Option Value) (M : zM) : zden (L + 1) 233 109 [some (.ref 48), o1] [] M =
  zbV (zden (L + 1) 141 0 [some (.ref 49), none] [] M) (fun M1 => zden (L + 1) 233 125 [some (.ref 48), some (.int 0)] [] (zput M1 49 0 3)) :=
  (zd_w zf_233 0 2 rfl).trans
  (zd_cv zf_233 rfl rfl rfl rfl (fun M1 => (zd_w zf_233 3 7 rfl)))
theorem e233_125 (L : Nat) (v1 : Int32) (M : zM) : zden (L + 1) 233 125 [some (.ref 48), some (.int v1)] [] M =
  if v1 < 3 then (if v1 < 2 then (zden (L + 1) 233 150 [some (.ref 48), some (.int v1)] [.int 15, .int (16 + v1), .ref 49] M) else (zden (L + 1) 233 150 [some (.ref 48), some (.int v1)] [.int 20, .int (16 + v1), .ref 49] M)) else (zbV (zden (L + 1) 142 0 [some (.ref 48), some (.int 0), none] [] M) (fun M1 => some (none, M1))) :=
  (zd_w zf_233 10 2 rfl).trans
  (zd_ge zf_233 rfl ((zd_w zf_233 39 2 rfl).trans
  (zd_cv zf_233 rfl rfl rfl rfl (fun M1 => zd_rv zf_233 rfl))) ((zd_w zf_233 13 7 rfl).trans
  (zd_ge zf_233 rfl ((zd_w zf_233 23 1 rfl)) ((zd_w zf_233 21 1 rfl).trans
  (zd_goto zf_233 rfl (rfl))))))
theorem e233_150 (L : Nat) (v1 : Int32) (s0 : Int32) (s1 : Int32) (M : zM) : zden (L + 1) 233 150 [some (.ref 48), some (.int v1)] [.int s0, .int s1, .ref 49] M =
  if zinb s1 116 = true then (if v1 < 2 then (zden (L + 1) 233 171 [some (.ref 48), some (.int v1)] [.int 30, .int (28 + v1), .ref 49] (zput M 49 s1.toNatClampNeg s0)) else (zden (L + 1) 233 171 [some (.ref 48), some (.int v1)] [.int 25, .int (28 + v1), .ref 49] (zput M 49 s1.toNatClampNeg s0))) else none :=
  zd_st zf_233 rfl rfl rfl ((zd_w zf_233 25 7 rfl).trans
  (zd_ge zf_233 rfl ((zd_w zf_233 35 1 rfl)) ((zd_w zf_233 33 1 rfl).trans
  (zd_goto zf_233 rfl (rfl)))))
theorem e233_171 (L : Nat) (v1 : Int32) (s0 : Int32) (s1 : Int32) (M : zM) : zden (L + 1) 233 171 [some (.ref 48), some (.int v1)] [.int s0, .int s1, .ref 49] M =
  if zinb s1 116 = true then (zden (L + 1) 233 125 [some (.ref 48), some (.int (v1 + 1))] [] (zput M 49 s1.toNatClampNeg s0)) else none :=
  zd_st zf_233 rfl rfl rfl ((zd_w zf_233 37 1 rfl).trans
  (zd_goto zf_233 rfl (rfl)))
theorem e100_0 (L : Nat) (v1 : Int32) (v2 : Int32) (M : zM) : zden (L + 1) 100 0 [some (.ref 0), some (.int v1), some (.int v2)] [] M =
  zbI (zden (L + 1) 46 0 [some (.int v1), some (.int 0), some (.int ((M 1 2) - 1))] [] M) (fun r1 M1 => if r1 = 0 then (zden (L + 1) 100 26 [some (.ref 0), some (.int v1), some (.int v2)] [] M1) else (zbI (zden (L + 1) 46 0 [some (.int v2), some (.int 0), some (.int 1)] [] M1) (fun r2 M2 => if r2 = 0 then (zden (L + 1) 100 26 [some (.ref 0), some (.int v1), some (.int v2)] [] M2) else (if v2 = 0 then (zbI (zden (L + 1) 4 0 [some (.ref 2), some (.int v1)] [] M2) (fun r4 M4 => zden (L + 1) 100 57 [some (.ref 0), some (.int v1), some (.int v2)] [.int r4] M4)) else (zbI (zden (L + 1) 4 0 [some (.ref 3), some (.int v1)] [] M2) (fun r3 M3 => zden (L + 1) 100 57 [some (.ref 0), some (.int v1), some (.int v2)] [.int r3] M3)))))) :=
  (zd_w zf_100 0 7 rfl).trans
  (zd_ci zf_100 rfl rfl rfl rfl (fun r1 M1 => zd_eq0 zf_100 rfl (rfl) ((zd_w zf_100 9 3 rfl).trans
  (zd_ci zf_100 rfl rfl rfl rfl (fun r2 M2 => zd_ne0 zf_100 rfl ((zd_w zf_100 16 1 rfl).trans
  (zd_ne0 zf_100 rfl ((zd_w zf_100 24 4 rfl).trans
  (zd_ci zf_100 rfl rfl rfl rfl (fun r3 M3 => rfl))) ((zd_w zf_100 18 4 rfl).trans
  (zd_ci zf_100 rfl rfl rfl rfl (fun r4 M4 => zd_goto zf_100 rfl (rfl)))))) (rfl))))))
theorem e100_26 (L : Nat) (o0 : Option Value) (o1 : Option Value) (o2 : Option Value) (M : zM) : zden (L + 1) 100 26 [o0, o1, o2] [] M =
  some (some (.int (-1)), M) :=
  (zd_w zf_100 14 1 rfl).trans
  (zd_ri zf_100 rfl zr_100 rfl)
theorem e100_57 (L : Nat) (o0 : Option Value) (o1 : Option Value) (o2 : Option Value) (s0 : Int32) (M : zM) : zden (L + 1) 100 57 [o0, o1, o2] [.int s0] M =
  some (some (.int s0), M) :=
  zd_ri zf_100 rfl zr_100 rfl
theorem e101_0 (L : Nat) (v1 : Int32) (M : zM) : zden (L + 1) 101 0 [some (.ref 0), some (.int v1)] [] M =
  zbI (zden (L + 1) 46 0 [some (.int v1), some (.int 0), some (.int 12)] [] M) (fun r1 M1 => if r1 = 0 then (some (some (.int (-1)), M1)) else (if v1 = 12 then (zbI (zden (L + 1) 58 0 [some (.ref 1)] [] M1) (fun r3 M3 => zden (L + 1) 101 36 [some (.ref 0), some (.int v1)] [.int r3] M3)) else (zbI (zden (L + 1) 0 0 [some (.ref 1), some (.int v1)] [] M1) (fun r2 M2 => zden (L + 1) 101 36 [some (.ref 0), some (.int v1)] [.int r2] M2)))) :=
  (zd_w zf_101 0 3 rfl).trans
  (zd_ci zf_101 rfl rfl rfl rfl (fun r1 M1 => zd_ne0 zf_101 rfl ((zd_w zf_101 7 2 rfl).trans
  (zd_ne zf_101 rfl ((zd_w zf_101 14 3 rfl).trans
  (zd_ci zf_101 rfl rfl rfl rfl (fun r2 M2 => rfl))) ((zd_w zf_101 10 2 rfl).trans
  (zd_ci zf_101 rfl rfl rfl rfl (fun r3 M3 => zd_goto zf_101 rfl (rfl)))))) ((zd_w zf_101 5 1 rfl).trans
  (zd_ri zf_101 rfl zr_101 rfl))))
theorem e101_36 (L : Nat) (o0 : Option Value) (o1 : Option Value) (s0 : Int32) (M : zM) : zden (L + 1) 101 36 [o0, o1] [.int s0] M =
  some (some (.int s0), M) :=
  zd_ri zf_101 rfl zr_101 rfl
theorem e102_0 (L : Nat) (v1 : Int32) (v2 : Int32) (M : zM) : zden (L + 1) 102 0 [some (.ref 0), some (.int v1), some (.int v2)] [] M =
  zbI (zden (L + 1) 46 0 [some (.int v1), some (.int 0), some (.int ((M 1 6) - 1))] [] M) (fun r1 M1 => if r1 = 0 then (zden (L + 1) 102 26 [some (.ref 0), some (.int v1), some (.int v2)] [] M1) else (zbI (zden (L + 1) 46 0 [some (.int v2), some (.int 0), some (.int 1)] [] M1) (fun r2 M2 => if r2 = 0 then (zden (L + 1) 102 26 [some (.ref 0), some (.int v1), some (.int v2)] [] M2) else (if v2 = 0 then (zbI (zden (L + 1) 4 0 [some (.ref 5), some (.int v1)] [] M2) (fun r4 M4 => zden (L + 1) 102 57 [some (.ref 0), some (.int v1), some (.int v2)] [.int r4] M4)) else (zbI (zden (L + 1) 4 0 [some (.ref 6), some (.int v1)] [] M2) (fun r3 M3 => zden (L + 1) 102 57 [some (.ref 0), some (.int v1), some (.int v2)] [.int r3] M3)))))) :=
  (zd_w zf_102 0 7 rfl).trans
  (zd_ci zf_102 rfl rfl rfl rfl (fun r1 M1 => zd_eq0 zf_102 rfl (rfl) ((zd_w zf_102 9 3 rfl).trans
  (zd_ci zf_102 rfl rfl rfl rfl (fun r2 M2 => zd_ne0 zf_102 rfl ((zd_w zf_102 16 1 rfl).trans
  (zd_ne0 zf_102 rfl ((zd_w zf_102 24 4 rfl).trans
  (zd_ci zf_102 rfl rfl rfl rfl (fun r3 M3 => rfl))) ((zd_w zf_102 18 4 rfl).trans
  (zd_ci zf_102 rfl rfl rfl rfl (fun r4 M4 => zd_goto zf_102 rfl (rfl)))))) (rfl))))))
theorem e102_26 (L : Nat) (o0 : Option Value) (o1 : Option Value) (o2 : Option Value) (M : zM) : zden (L + 1) 102 26 [o0, o1, o2] [] M =
  some (some (.int (-1)), M) :=
  (zd_w zf_102 14 1 rfl).trans
  (zd_ri zf_102 rfl zr_102 rfl)
theorem e102_57 (L : Nat) (o0 : Option Value) (o1 : Option Value) (o2 : Option Value) (s0 : Int32) (M : zM) : zden (L + 1) 102 57 [o0, o1, o2] [.int s0] M =
  some (some (.int s0), M) :=
  zd_ri zf_102 rfl zr_102 rfl
theorem e103_0 (L : Nat) (v1 : Int32) (M : zM) : zden (L + 1) 103 0 [some (.ref 0), some (.int v1)] [] M =
  zbI (zden (L + 1) 46 0 [some (.int v1), some (.int 0), some (.int 23)] [] M) (fun r1 M1 => if r1 = 0 then (zden (L + 1) 103 25 [some (.ref 0), some (.int v1)] [.int (-1)] M1) else (zbI (zden (L + 1) 4 0 [some (.ref 7), some (.int v1)] [] M1) (fun r2 M2 => zden (L + 1) 103 25 [some (.ref 0), some (.int v1)] [.int r2] M2))) :=
  (zd_w zf_103 0 3 rfl).trans
  (zd_ci zf_103 rfl rfl rfl rfl (fun r1 M1 => zd_eq0 zf_103 rfl ((zd_w zf_103 11 1 rfl)) ((zd_w zf_103 5 4 rfl).trans
  (zd_ci zf_103 rfl rfl rfl rfl (fun r2 M2 => zd_goto zf_103 rfl (rfl))))))
theorem e103_25 (L : Nat) (o0 : Option Value) (o1 : Option Value) (s0 : Int32) (M : zM) : zden (L + 1) 103 25 [o0, o1] [.int s0] M =
  some (some (.int s0), M) :=
  zd_ri zf_103 rfl zr_103 rfl
theorem e104_0 (L : Nat) (v1 : Int32) (v2 : Int32) (M : zM) : zden (L + 1) 104 0 [some (.ref 0), some (.int v1), some (.int v2)] [] M =
  zbI (zden (L + 1) 46 0 [some (.int v1), some (.int 0), some (.int ((M 1 9) - 1))] [] M) (fun r1 M1 => if r1 = 0 then (zden (L + 1) 104 26 [some (.ref 0), some (.int v1), some (.int v2)] [] M1) else (zbI (zden (L + 1) 46 0 [some (.int v2), some (.int 0), some (.int 1)] [] M1) (fun r2 M2 => if r2 = 0 then (zden (L + 1) 104 26 [some (.ref 0), some (.int v1), some (.int v2)] [] M2) else (if v2 = 0 then (zbI (zden (L + 1) 4 0 [some (.ref 8), some (.int v1)] [] M2) (fun r4 M4 => some (some (.int r4), M4))) else (zbI (zden (L + 1) 18 0 [some (.int (M2 1 14)), some (.int v1)] [] M2) (fun r3 M3 => if r3 = 0 then (zden (L + 1) 104 63 [some (.ref 0), some (.int v1), some (.int v2)] [.int 0] M3) else (zden (L + 1) 104 63 [some (.ref 0), some (.int v1), some (.int v2)] [.int 1] M3))))))) :=
  (zd_w zf_104 0 7 rfl).trans
  (zd_ci zf_104 rfl rfl rfl rfl (fun r1 M1 => zd_eq0 zf_104 rfl (rfl) ((zd_w zf_104 9 3 rfl).trans
  (zd_ci zf_104 rfl rfl rfl rfl (fun r2 M2 => zd_ne0 zf_104 rfl ((zd_w zf_104 16 1 rfl).trans
  (zd_ne0 zf_104 rfl ((zd_w zf_104 24 4 rfl).trans
  (zd_ci zf_104 rfl rfl rfl rfl (fun r3 M3 => zd_eq0 zf_104 rfl ((zd_w zf_104 32 1 rfl)) ((zd_w zf_104 30 1 rfl).trans
  (zd_goto zf_104 rfl (rfl)))))) ((zd_w zf_104 18 4 rfl).trans
  (zd_ci zf_104 rfl rfl rfl rfl (fun r4 M4 => zd_ri zf_104 rfl zr_104 rfl))))) (rfl))))))
theorem e104_26 (L : Nat) (o0 : Option Value) (o1 : Option Value) (o2 : Option Value) (M : zM) : zden (L + 1) 104 26 [o0, o1, o2] [] M =
  some (some (.int (-1)), M) :=
  (zd_w zf_104 14 1 rfl).trans
  (zd_ri zf_104 rfl zr_104 rfl)
theorem e104_63 (L : Nat) (o0 : Option Value) (o1 : Option Value) (o2 : Option Value) (s0 : Int32) (M : zM) : zden (L + 1) 104 63 [o0, o1, o2] [.int s0] M =
  some (some (.int s0), M) :=
  zd_ri zf_104 rfl zr_104 rfl
theorem e105_0 (L : Nat) (v1 : Int32) (M : zM) : zden (L + 1) 105 0 [some (.ref 0), some (.int v1)] [] M =
  zbV (zden (L + 1) 95 0 [some (.ref 0), some (.int v1)] [] M) (fun M1 => some (some (.int (M1 1 2)), M1)) :=
  (zd_w zf_105 0 2 rfl).trans
  (zd_cv zf_105 rfl rfl rfl rfl (fun M1 => (zd_w zf_105 3 3 rfl).trans
  (zd_ri zf_105 rfl zr_105 rfl)))
theorem e106_0 (L : Nat) (v1 : Int32) (v2 : Int32) (v3 : Int32) (v4 : Int32) (M : zM) : zden (L + 1) 106 0 [some (.ref 0), some (.int v1), some (.int v2), some (.int v3), some (.int v4), none] [] M =
  zbI (zden (L + 1) 46 0 [some (.int v1), some (.int 0), some (.int ((M 1 2) - 1))] [] M) (fun r1 M1 => if r1 = 0 then (zden (L + 1) 106 36 [some (.ref 0), some (.int v1), some (.int v2), some (.int v3), some (.int v4), none] [] M1) else (zbI (zden (L + 1) 46 0 [some (.int v2), some (.int 0), some (.int 2)] [] M1) (fun r2 M2 => if r2 = 0 then (zden (L + 1) 106 36 [some (.ref 0), some (.int v1), some (.int v2), some (.int v3), some (.int v4), none] [] M2) else (zbI (zden (L + 1) 46 0 [some (.int v4), some (.int 0), some (.int 2)] [] M2) (fun r3 M3 => if r3 = 0 then (zden (L + 1) 106 36 [some (.ref 0), some (.int v1), some (.int v2), some (.int v3), some (.int v4), none] [] M3) else (zbI (zden (L + 1) 58 0 [some (.ref 1)] [] M3) (fun r4 M4 => zbI (zden (L + 1) 60 0 [some (.ref 26), some (.int v1), some (.int v2), some (.int v3), some (.int r4), none] [] M4) (fun r5 M5 => zbI (zden (L + 1) 61 0 [some (.ref 26), some (.int v1), some (.int v2), some (.int r5), none] [] M5) (fun r6 M6 => if r6 = 0 then (some (some (.int (-2)), M6)) else (if v4 = 0 then (some (some (.int r5), M6)) else (if v4 = 1 then (zbI (zden (L + 1) 62 0 [some (.ref 26), some (.int v1), some (.int v2), some (.int v3), none] [] M6) (fun r8 M8 => zden (L + 1) 106 105 [some (.ref 0), some (.int v1), some (.int v2), some (.int v3), some (.int v4), some (.int r5)] [.int r8] M8)) else (zbI (zden (L + 1) 68 0 [some (.int v2)] [] M6) (fun r7 M7 => zden (L + 1) 106 105 [some (.ref 0), some (.int v1), some (.int v2), some (.int v3), some (.int v4), some (.int r5)] [.int r7] M7))))))))))))) :=
  (zd_w zf_106 0 7 rfl).trans
  (zd_ci zf_106 rfl rfl rfl rfl (fun r1 M1 => zd_eq0 zf_106 rfl (rfl) ((zd_w zf_106 9 3 rfl).trans
  (zd_ci zf_106 rfl rfl rfl rfl (fun r2 M2 => zd_eq0 zf_106 rfl (rfl) ((zd_w zf_106 14 3 rfl).trans
  (zd_ci zf_106 rfl rfl rfl rfl (fun r3 M3 => zd_ne0 zf_106 rfl ((zd_w zf_106 21 7 rfl).trans
  (zd_ci zf_106 rfl rfl rfl rfl (fun r4 M4 => zd_ci zf_106 rfl rfl rfl rfl (fun r5 M5 => (zd_w zf_106 30 6 rfl).trans
  (zd_ci zf_106 rfl rfl rfl rfl (fun r6 M6 => zd_ne0 zf_106 rfl ((zd_w zf_106 40 1 rfl).trans
  (zd_ne0 zf_106 rfl ((zd_w zf_106 44 2 rfl).trans
  (zd_ne zf_106 rfl ((zd_w zf_106 54 1 rfl).trans
  (zd_ci zf_106 rfl rfl rfl rfl (fun r7 M7 => rfl))) ((zd_w zf_106 47 5 rfl).trans
  (zd_ci zf_106 rfl rfl rfl rfl (fun r8 M8 => zd_goto zf_106 rfl (rfl)))))) ((zd_w zf_106 42 1 rfl).trans
  (zd_ri zf_106 rfl zr_106 rfl)))) ((zd_w zf_106 38 1 rfl).trans
  (zd_ri zf_106 rfl zr_106 rfl)))))))) (rfl)))))))))
theorem e106_36 (L : Nat) (o0 : Option Value) (o1 : Option Value) (o2 : Option Value) (o3 : Option Value) (o4 : Option Value) (o5 : Option Value) (M : zM) : zden (L + 1) 106 36 [o0, o1, o2, o3, o4, o5] [] M =
  some (some (.int (-1)), M) :=
  (zd_w zf_106 19 1 rfl).trans
  (zd_ri zf_106 rfl zr_106 rfl)
theorem e106_105 (L : Nat) (o0 : Option Value) (o1 : Option Value) (o2 : Option Value) (o3 : Option Value) (o4 : Option Value) (o5 : Option Value) (s0 : Int32) (M : zM) : zden (L + 1) 106 105 [o0, o1, o2, o3, o4, o5] [.int s0] M =
  some (some (.int s0), M) :=
  zd_ri zf_106 rfl zr_106 rfl
theorem e108_0 (L : Nat) (v1 : Int32) (M : zM) : zden (L + 1) 108 0 [some (.ref 0), some (.int v1)] [] M =
  zbI (zden (L + 1) 46 0 [some (.int v1), some (.int 0), some (.int 2)] [] M) (fun r1 M1 => if r1 = 0 then (some (some (.int (-1)), M1)) else (zbI (zden (L + 1) 107 0 [some (.ref 0), some (.int v1)] [] M1) (fun r2 M2 => if r2 = 0 then (zden (L + 1) 108 32 [some (.ref 0), some (.int v1)] [.int (-2)] M2) else (zbI (zden (L + 1) 4 0 [some (.ref 40), some (.int 0)] [] M2) (fun r3 M3 => zden (L + 1) 108 32 [some (.ref 0), some (.int v1)] [.int r3] M3))))) :=
  (zd_w zf_108 0 3 rfl).trans
  (zd_ci zf_108 rfl rfl rfl rfl (fun r1 M1 => zd_ne0 zf_108 rfl ((zd_w zf_108 7 2 rfl).trans
  (zd_ci zf_108 rfl rfl rfl rfl (fun r2 M2 => zd_eq0 zf_108 rfl ((zd_w zf_108 16 1 rfl)) ((zd_w zf_108 11 3 rfl).trans
  (zd_ci zf_108 rfl rfl rfl rfl (fun r3 M3 => zd_goto zf_108 rfl (rfl))))))) ((zd_w zf_108 5 1 rfl).trans
  (zd_ri zf_108 rfl zr_108 rfl))))
theorem e108_32 (L : Nat) (o0 : Option Value) (o1 : Option Value) (s0 : Int32) (M : zM) : zden (L + 1) 108 32 [o0, o1] [.int s0] M =
  some (some (.int s0), M) :=
  zd_ri zf_108 rfl zr_108 rfl
theorem e109_0 (L : Nat)  (M : zM) : zden (L + 1) 109 0 [some (.ref 0)] [] M =
  zbI (zden (L + 1) 107 0 [some (.ref 0), some (.int 3)] [] M) (fun r1 M1 => if r1 = 0 then (zden (L + 1) 109 21 [some (.ref 0)] [.int (-2)] M1) else (zbI (zden (L + 1) 4 0 [some (.ref 40), some (.int 2)] [] M1) (fun r2 M2 => zden (L + 1) 109 21 [some (.ref 0)] [.int r2] M2))) :=
  (zd_w zf_109 0 2 rfl).trans
  (zd_ci zf_109 rfl rfl rfl rfl (fun r1 M1 => zd_eq0 zf_109 rfl ((zd_w zf_109 9 1 rfl)) ((zd_w zf_109 4 3 rfl).trans
  (zd_ci zf_109 rfl rfl rfl rfl (fun r2 M2 => zd_goto zf_109 rfl (rfl))))))
theorem e109_21 (L : Nat) (o0 : Option Value) (s0 : Int32) (M : zM) : zden (L + 1) 109 21 [o0] [.int s0] M =
  some (some (.int s0), M) :=
  zd_ri zf_109 rfl zr_109 rfl
theorem e110_0 (L : Nat)  (M : zM) : zden (L + 1) 110 0 [some (.ref 0)] [] M =
  zbI (zden (L + 1) 17 0 [some (.ref 43), some (.ref 40), none] [] M) (fun r1 M1 => if r1 = 0 then (zden (L + 1) 110 26 [some (.ref 0)] [.int (-2)] M1) else (zden (L + 1) 110 26 [some (.ref 0)] [.int (M1 43 3)] M1)) :=
  (zd_w zf_110 0 4 rfl).trans
  (zd_ci zf_110 rfl rfl rfl rfl (fun r1 M1 => zd_eq0 zf_110 rfl ((zd_w zf_110 10 1 rfl)) ((zd_w zf_110 6 3 rfl).trans
  (zd_goto zf_110 rfl (rfl)))))
theorem e110_26 (L : Nat) (o0 : Option Value) (s0 : Int32) (M : zM) : zden (L + 1) 110 26 [o0] [.int s0] M =
  some (some (.int s0), M) :=
  zd_ri zf_110 rfl zr_110 rfl
theorem e111_0 (L : Nat) (v1 : Int32) (M : zM) : zden (L + 1) 111 0 [some (.ref 0), some (.int v1)] [] M =
  zbI (zden (L + 1) 46 0 [some (.int v1), some (.int 0), some (.int 5)] [] M) (fun r1 M1 => if r1 = 0 then (zden (L + 1) 111 21 [some (.ref 0), some (.int v1)] [.int (-1)] M1) else (zbI (zden (L + 1) 4 0 [some (.ref 40), some (.int v1)] [] M1) (fun r2 M2 => zden (L + 1) 111 21 [some (.ref 0), some (.int v1)] [.int r2] M2))) :=
  (zd_w zf_111 0 3 rfl).trans
  (zd_ci zf_111 rfl rfl rfl rfl (fun r1 M1 => zd_eq0 zf_111 rfl ((zd_w zf_111 10 1 rfl)) ((zd_w zf_111 5 3 rfl).trans
  (zd_ci zf_111 rfl rfl rfl rfl (fun r2 M2 => zd_goto zf_111 rfl (rfl))))))
theorem e111_21 (L : Nat) (o0 : Option Value) (o1 : Option Value) (s0 : Int32) (M : zM) : zden (L + 1) 111 21 [o0, o1] [.int s0] M =
  some (some (.int s0), M) :=
  zd_ri zf_111 rfl zr_111 rfl
theorem e112_0 (L : Nat) (v1 : Int32) (M : zM) : zden (L + 1) 112 0 [some (.ref 0), some (.int v1)] [] M =
  zbI (zden (L + 1) 46 0 [some (.int v1), some (.int 0), some (.int 3)] [] M) (fun r1 M1 => if r1 = 0 then (some (some (.int (-1)), M1)) else (if (M1 0 15) < 20 then (zbV (zden (L + 1) 5 0 [some (.ref 47), some (.int (M1 0 15)), some (.int v1)] [] M1) (fun M2 => some (some (.int ((zput M2 0 15 ((M2 0 15) + 1)) 0 15)), zput M2 0 15 ((M2 0 15) + 1)))) else (some (some (.int (-3)), M1)))) :=
  (zd_w zf_112 0 3 rfl).trans
  (zd_ci zf_112 rfl rfl rfl rfl (fun r1 M1 => zd_ne0 zf_112 rfl ((zd_w zf_112 7 3 rfl).trans
  (zd_lt zf_112 rfl ((zd_w zf_112 13 5 rfl).trans
  (zd_cv zf_112 rfl rfl rfl rfl (fun M2 => (zd_w zf_112 19 8 rfl).trans
  (zd_ri zf_112 rfl zr_112 rfl)))) ((zd_w zf_112 11 1 rfl).trans
  (zd_ri zf_112 rfl zr_112 rfl)))) ((zd_w zf_112 5 1 rfl).trans
  (zd_ri zf_112 rfl zr_112 rfl))))
theorem e113_0 (L : Nat)  (M : zM) : zden (L + 1) 113 0 [some (.ref 0), none] [] M =
  some (some (.int (M 0 15)), zput M 0 15 0) :=
  (zd_w zf_113 0 7 rfl).trans
  (zd_ri zf_113 rfl zr_113 rfl)
theorem e114_0 (L : Nat)  (M : zM) : zden (L + 1) 114 0 [some (.ref 0), none] [] M =
  zbV (zden (L + 1) 31 0 [some (.ref 40), some (.ref 41), none] [] M) (fun M1 => zden (L + 1) 114 13 [some (.ref 0), some (.int 0)] [] M1) :=
  (zd_w zf_114 0 4 rfl).trans
  (zd_cv zf_114 rfl rfl rfl rfl (fun M1 => (zd_w zf_114 5 2 rfl)))
theorem e114_13 (L : Nat) (v1 : Int32) (M : zM) : zden (L + 1) 114 13 [some (.ref 0), some (.int v1)] [] M =
  if v1 < (M 0 15) then (zbI (zden (L + 1) 4 0 [some (.ref 47), some (.int v1)] [] M) (fun r1 M1 => zbI (zden (L + 1) 77 0 [some (.ref 26), some (.ref 41), some (.int r1)] [] M1) (fun r2 M2 => if r2 = 0 then (some (some (.int v1), M2)) else (zden (L + 1) 114 13 [some (.ref 0), some (.int (v1 + 1))] [] M2)))) else (some (some (.int (-4)), M)) :=
  (zd_w zf_114 7 3 rfl).trans
  (zd_ge zf_114 rfl ((zd_w zf_114 25 1 rfl).trans
  (zd_ri zf_114 rfl zr_114 rfl)) ((zd_w zf_114 11 7 rfl).trans
  (zd_ci zf_114 rfl rfl rfl rfl (fun r1 M1 => zd_ci zf_114 rfl rfl rfl rfl (fun r2 M2 => zd_ne0 zf_114 rfl ((zd_w zf_114 23 1 rfl).trans
  (zd_goto zf_114 rfl (rfl))) ((zd_w zf_114 21 1 rfl).trans
  (zd_ri zf_114 rfl zr_114 rfl)))))))
theorem e115_0 (L : Nat) (v1 : Int32) (v2 : Int32) (v3 : Int32) (M : zM) : zden (L + 1) 115 0 [some (.ref 0), some (.int v1), some (.int v2), some (.int v3), none] [] M =
  zbI (zden (L + 1) 46 0 [some (.int v1), some (.int 0), some (.int 3)] [] M) (fun r1 M1 => if r1 = 0 then (zden (L + 1) 115 18 [some (.ref 0), some (.int v1), some (.int v2), some (.int v3), none] [] M1) else (zbI (zden (L + 1) 46 0 [some (.int v3), some (.int 0), some (.int 1)] [] M1) (fun r2 M2 => if r2 = 0 then (zden (L + 1) 115 18 [some (.ref 0), some (.int v1), some (.int v2), some (.int v3), none] [] M2) else (zbI (zden (L + 1) 92 0 [some (.ref 29), some (.int v1), some (.int v2), none, none, none, none] [] M2) (fun r3 M3 => if r3 < 1000000 then (if v3 = 0 then (zden (L + 1) 115 60 [some (.ref 0), some (.int v1), some (.int v2), some (.int v3), some (.int r3)] [.int r3] M3) else (zbI (zden (L + 1) 93 0 [some (.ref 29), some (.int v1), some (.int r3), none] [] M3) (fun r4 M4 => zden (L + 1) 115 60 [some (.ref 0), some (.int v1), some (.int v2), some (.int v3), some (.int r3)] [.int r4] M4))) else (some (some (.int (-4)), M3))))))) :=
  (zd_w zf_115 0 3 rfl).trans
  (zd_ci zf_115 rfl rfl rfl rfl (fun r1 M1 => zd_eq0 zf_115 rfl (rfl) ((zd_w zf_115 5 3 rfl).trans
  (zd_ci zf_115 rfl rfl rfl rfl (fun r2 M2 => zd_ne0 zf_115 rfl ((zd_w zf_115 12 4 rfl).trans
  (zd_ci zf_115 rfl rfl rfl rfl (fun r3 M3 => (zd_w zf_115 17 3 rfl).trans
  (zd_lt zf_115 rfl ((zd_w zf_115 23 1 rfl).trans
  (zd_ne0 zf_115 rfl ((zd_w zf_115 27 4 rfl).trans
  (zd_ci zf_115 rfl rfl rfl rfl (fun r4 M4 => rfl))) ((zd_w zf_115 25 1 rfl).trans
  (zd_goto zf_115 rfl (rfl))))) ((zd_w zf_115 21 1 rfl).trans
  (zd_ri zf_115 rfl zr_115 rfl)))))) (rfl))))))
theorem e115_18 (L : Nat) (o0 : Option Value) (o1 : Option Value) (o2 : Option Value) (o3 : Option Value) (o4 : Option Value) (M : zM) : zden (L + 1) 115 18 [o0, o1, o2, o3, o4] [] M =
  some (some (.int (-1)), M) :=
  (zd_w zf_115 10 1 rfl).trans
  (zd_ri zf_115 rfl zr_115 rfl)
theorem e115_60 (L : Nat) (o0 : Option Value) (o1 : Option Value) (o2 : Option Value) (o3 : Option Value) (o4 : Option Value) (s0 : Int32) (M : zM) : zden (L + 1) 115 60 [o0, o1, o2, o3, o4] [.int s0] M =
  some (some (.int s0), M) :=
  zd_ri zf_115 rfl zr_115 rfl
theorem e116_0 (L : Nat) (v1 : Int32) (M : zM) : zden (L + 1) 116 0 [some (.ref 0), some (.int v1), none] [] M =
  zbI (zden (L + 1) 73 0 [some (.ref 33), some (.int v1), none, none, none, none, none] [] M) (fun r1 M1 => if r1 < 1000000 then (zden (L + 1) 116 21 [some (.ref 0), some (.int v1), some (.int r1)] [.int r1] M1) else (zden (L + 1) 116 21 [some (.ref 0), some (.int v1), some (.int r1)] [.int (-4)] M1)) :=
  (zd_w zf_116 0 3 rfl).trans
  (zd_ci zf_116 rfl rfl rfl rfl (fun r1 M1 => (zd_w zf_116 4 3 rfl).trans
  (zd_lt zf_116 rfl ((zd_w zf_116 10 1 rfl)) ((zd_w zf_116 8 1 rfl).trans
  (zd_goto zf_116 rfl (rfl))))))
theorem e116_21 (L : Nat) (o0 : Option Value) (o1 : Option Value) (o2 : Option Value) (s0 : Int32) (M : zM) : zden (L + 1) 116 21 [o0, o1, o2] [.int s0] M =
  some (some (.int s0), M) :=
  zd_ri zf_116 rfl zr_116 rfl
theorem e117_0 (L : Nat) (v1 : Int32) (v2 : Int32) (M : zM) : zden (L + 1) 117 0 [some (.ref 0), some (.int v1), some (.int v2), none] [] M =
  zbI (zden (L + 1) 46 0 [some (.int v1), some (.int 0), some (.int ((M 1 6) - 1))] [] M) (fun r1 M1 => if r1 = 0 then (zden (L + 1) 117 26 [some (.ref 0), some (.int v1), some (.int v2), none] [] M1) else (zbI (zden (L + 1) 46 0 [some (.int v2), some (.int 0), some (.int 1)] [] M1) (fun r2 M2 => if r2 = 0 then (zden (L + 1) 117 26 [some (.ref 0), some (.int v1), some (.int v2), none] [] M2) else (zbI (zden (L + 1) 81 0 [some (.ref 35), some (.int v1)] [] M2) (fun r3 M3 => if 100 < r3 then (some (some (.int (-4)), M3)) else (if v2 = 1 then (zden (L + 1) 117 63 [some (.ref 0), some (.int v1), some (.int v2), some (.int r3)] [.int r3] M3) else (zbI (zden (L + 1) 82 0 [some (.ref 35), some (.int v1)] [] M3) (fun r4 M4 => zden (L + 1) 117 63 [some (.ref 0), some (.int v1), some (.int v2), some (.int r3)] [.int r4] M4)))))))) :=
  (zd_w zf_117 0 7 rfl).trans
  (zd_ci zf_117 rfl rfl rfl rfl (fun r1 M1 => zd_eq0 zf_117 rfl (rfl) ((zd_w zf_117 9 3 rfl).trans
  (zd_ci zf_117 rfl rfl rfl rfl (fun r2 M2 => zd_ne0 zf_117 rfl ((zd_w zf_117 16 3 rfl).trans
  (zd_ci zf_117 rfl rfl rfl rfl (fun r3 M3 => (zd_w zf_117 20 3 rfl).trans
  (zd_le zf_117 rfl ((zd_w zf_117 26 2 rfl).trans
  (zd_ne zf_117 rfl ((zd_w zf_117 31 3 rfl).trans
  (zd_ci zf_117 rfl rfl rfl rfl (fun r4 M4 => rfl))) ((zd_w zf_117 29 1 rfl).trans
  (zd_goto zf_117 rfl (rfl))))) ((zd_w zf_117 24 1 rfl).trans
  (zd_ri zf_117 rfl zr_117 rfl)))))) (rfl))))))
theorem e117_26 (L : Nat) (o0 : Option Value) (o1 : Option Value) (o2 : Option Value) (o3 : Option Value) (M : zM) : zden (L + 1) 117 26 [o0, o1, o2, o3] [] M =
  some (some (.int (-1)), M) :=
  (zd_w zf_117 14 1 rfl).trans
  (zd_ri zf_117 rfl zr_117 rfl)
theorem e117_63 (L : Nat) (o0 : Option Value) (o1 : Option Value) (o2 : Option Value) (o3 : Option Value) (s0 : Int32) (M : zM) : zden (L + 1) 117 63 [o0, o1, o2, o3] [.int s0] M =
  some (some (.int s0), M) :=
  zd_ri zf_117 rfl zr_117 rfl
theorem e118_0 (L : Nat)  (M : zM) : zden (L + 1) 118 0 [some (.ref 0)] [] M =
  zbI (zden (L + 1) 83 0 [some (.ref 35), none, none, none, none] [] M) (fun r1 M1 => some (some (.int r1), M1)) :=
  (zd_w zf_118 0 2 rfl).trans
  (zd_ci zf_118 rfl rfl rfl rfl (fun r1 M1 => zd_ri zf_118 rfl zr_118 rfl))
theorem e119_0 (L : Nat) (v1 : Int32) (v2 : Int32) (M : zM) : zden (L + 1) 119 0 [some (.ref 0), some (.int v1), some (.int v2)] [] M =
  zbI (zden (L + 1) 46 0 [some (.int v1), some (.int 0), some (.int ((M 1 6) - 1))] [] M) (fun r1 M1 => if r1 = 0 then (zden (L + 1) 119 26 [some (.ref 0), some (.int v1), some (.int v2)] [] M1) else (zbI (zden (L + 1) 46 0 [some (.int v2), some (.int 0), some (.int 1)] [] M1) (fun r2 M2 => if r2 = 0 then (zden (L + 1) 119 26 [some (.ref 0), some (.int v1), some (.int v2)] [] M2) else (zbL (zden (L + 1) 85 0 [some (.ref 35), some (.int v1), some (.int v2), none, none, none, none, none, none] [] M2) (fun r3 M3 => some (some (.long r3), M3)))))) :=
  (zd_w zf_119 0 7 rfl).trans
  (zd_ci zf_119 rfl rfl rfl rfl (fun r1 M1 => zd_eq0 zf_119 rfl (rfl) ((zd_w zf_119 9 3 rfl).trans
  (zd_ci zf_119 rfl rfl rfl rfl (fun r2 M2 => zd_ne0 zf_119 rfl ((zd_w zf_119 16 4 rfl).trans
  (zd_cl zf_119 rfl rfl rfl rfl (fun r3 M3 => zd_rl zf_119 rfl))) (rfl))))))
theorem e119_26 (L : Nat) (o0 : Option Value) (o1 : Option Value) (o2 : Option Value) (M : zM) : zden (L + 1) 119 26 [o0, o1, o2] [] M =
  some (some (.long (-1)), M) :=
  (zd_w zf_119 14 1 rfl).trans
  (zd_rl zf_119 rfl)
theorem e120_0 (L : Nat) (v1 : Int32) (v2 : Int32) (M : zM) : zden (L + 1) 120 0 [some (.ref 0), some (.int v1), some (.int v2)] [] M =
  zbI (zden (L + 1) 46 0 [some (.int v1), some (.int 0), some (.int 9)] [] M) (fun r1 M1 => if r1 = 0 then (zden (L + 1) 120 23 [some (.ref 0), some (.int v1), some (.int v2)] [.int (-1)] M1) else (zbI (zden (L + 1) 2 0 [some (.ref 36), some (.int v1), some (.int v2), none] [] M1) (fun r2 M2 => zden (L + 1) 120 23 [some (.ref 0), some (.int v1), some (.int v2)] [.int r2] M2))) :=
  (zd_w zf_120 0 3 rfl).trans
  (zd_ci zf_120 rfl rfl rfl rfl (fun r1 M1 => zd_eq0 zf_120 rfl ((zd_w zf_120 11 1 rfl)) ((zd_w zf_120 5 4 rfl).trans
  (zd_ci zf_120 rfl rfl rfl rfl (fun r2 M2 => zd_goto zf_120 rfl (rfl))))))
theorem e120_23 (L : Nat) (o0 : Option Value) (o1 : Option Value) (o2 : Option Value) (s0 : Int32) (M : zM) : zden (L + 1) 120 23 [o0, o1, o2] [.int s0] M =
  some (some (.int s0), M) :=
  zd_ri zf_120 rfl zr_120 rfl
theorem e121_0 (L : Nat)  (M : zM) : zden (L + 1) 121 0 [some (.ref 0)] [] M =
  zbI (zden (L + 1) 3 0 [some (.ref 36), none, none] [] M) (fun r1 M1 => some (some (.int r1), M1)) :=
  (zd_w zf_121 0 2 rfl).trans
  (zd_ci zf_121 rfl rfl rfl rfl (fun r1 M1 => zd_ri zf_121 rfl zr_121 rfl))
theorem e122_0 (L : Nat) (v1 : Int32) (v2 : Int32) (v3 : Int32) (M : zM) : zden (L + 1) 122 0 [some (.ref 0), some (.int v1), some (.int v2), some (.int v3)] [] M =
  zbI (zden (L + 1) 46 0 [some (.int v1), some (.int 0), some (.int 23)] [] M) (fun r1 M1 => if r1 = 0 then (zden (L + 1) 122 21 [some (.ref 0), some (.int v1), some (.int v2), some (.int v3)] [] M1) else (zbI (zden (L + 1) 46 0 [some (.int v2), some (.int 0), some (.int 300)] [] M1) (fun r2 M2 => if r2 = 0 then (zden (L + 1) 122 21 [some (.ref 0), some (.int v1), some (.int v2), some (.int v3)] [] M2) else (zbI (zden (L + 1) 8 0 [some (.ref 36), some (.int v1), some (.int v2), some (.int v3), none, none] [] M2) (fun r3 M3 => some (some (.int r3), M3)))))) :=
  (zd_w zf_122 0 3 rfl).trans
  (zd_ci zf_122 rfl rfl rfl rfl (fun r1 M1 => zd_eq0 zf_122 rfl (rfl) ((zd_w zf_122 5 3 rfl).trans
  (zd_ci zf_122 rfl rfl rfl rfl (fun r2 M2 => zd_ne0 zf_122 rfl ((zd_w zf_122 12 5 rfl).trans
  (zd_ci zf_122 rfl rfl rfl rfl (fun r3 M3 => zd_ri zf_122 rfl zr_122 rfl))) (rfl))))))
theorem e122_21 (L : Nat) (o0 : Option Value) (o1 : Option Value) (o2 : Option Value) (o3 : Option Value) (M : zM) : zden (L + 1) 122 21 [o0, o1, o2, o3] [] M =
  some (some (.int (-1)), M) :=
  (zd_w zf_122 10 1 rfl).trans
  (zd_ri zf_122 rfl zr_122 rfl)
theorem e123_0 (L : Nat) (v1 : Int32) (M : zM) : zden (L + 1) 123 0 [some (.ref 0), some (.int v1)] [] M =
  zbI (zden (L + 1) 9 0 [some (.ref 36), some (.int v1), none, none] [] M) (fun r1 M1 => some (some (.int r1), M1)) :=
  (zd_w zf_123 0 3 rfl).trans
  (zd_ci zf_123 rfl rfl rfl rfl (fun r1 M1 => zd_ri zf_123 rfl zr_123 rfl))
theorem e124_0 (L : Nat) (v1 : Int32) (v2 : Int32) (v3 : Int32) (M : zM) : zden (L + 1) 124 0 [some (.ref 0), some (.int v1), some (.int v2), some (.int v3)] [] M =
  zbI (zden (L + 1) 46 0 [some (.int v1), some (.int 0), some (.int 23)] [] M) (fun r1 M1 => if r1 = 0 then (zden (L + 1) 124 21 [some (.ref 0), some (.int v1), some (.int v2), some (.int v3)] [] M1) else (zbI (zden (L + 1) 46 0 [some (.int v2), some (.int 1), some (.int 1000)] [] M1) (fun r2 M2 => if r2 = 0 then (zden (L + 1) 124 21 [some (.ref 0), some (.int v1), some (.int v2), some (.int v3)] [] M2) else (zbI (zden (L + 1) 10 0 [some (.ref 36), some (.int v1), some (.int v2), some (.int v3), none, none] [] M2) (fun r3 M3 => some (some (.int r3), M3)))))) :=
  (zd_w zf_124 0 3 rfl).trans
  (zd_ci zf_124 rfl rfl rfl rfl (fun r1 M1 => zd_eq0 zf_124 rfl (rfl) ((zd_w zf_124 5 3 rfl).trans
  (zd_ci zf_124 rfl rfl rfl rfl (fun r2 M2 => zd_ne0 zf_124 rfl ((zd_w zf_124 12 5 rfl).trans
  (zd_ci zf_124 rfl rfl rfl rfl (fun r3 M3 => zd_ri zf_124 rfl zr_124 rfl))) (rfl))))))
theorem e124_21 (L : Nat) (o0 : Option Value) (o1 : Option Value) (o2 : Option Value) (o3 : Option Value) (M : zM) : zden (L + 1) 124 21 [o0, o1, o2, o3] [] M =
  some (some (.int (-1)), M) :=
  (zd_w zf_124 10 1 rfl).trans
  (zd_ri zf_124 rfl zr_124 rfl)
theorem e127_0 (L : Nat) (v1 : Int32) (v2 : Int32) (v3 : Int32) (M : zM) : zden (L + 1) 127 0 [some (.ref 0), some (.int v1), some (.int v2), some (.int v3), none, none, none] [] M =
  zbI (zden (L + 1) 46 0 [some (.int v1), some (.int 0), some (.int 23)] [] M) (fun r1 M1 => if r1 = 0 then (zden (L + 1) 127 19 [some (.ref 0), some (.int v1), some (.int v2), some (.int v3), none, none, none] [] M1) else (zbI (zden (L + 1) 46 0 [some (.int v3), some (.int 0), some (.int 1)] [] M1) (fun r2 M2 => if r2 = 0 then (zden (L + 1) 127 19 [some (.ref 0), some (.int v1), some (.int v2), some (.int v3), none, none, none] [] M2) else (zbI (zden (L + 1) 125 0 [some (.ref 0), some (.int v2), none] [] M2) (fun r3 M3 => zbI (zden (L + 1) 0 0 [some (.ref 1), some (.int 11)] [] M3) (fun r4 M4 => if r4 < r3 then (zbI (zden (L + 1) 0 0 [some (.ref 1), some (.int 11)] [] M4) (fun r5 M5 => zden (L + 1) 127 59 [some (.ref 0), some (.int v1), some (.int v2), some (.int v3), some (.int 1), some (.int r5), none] [] M5)) else (zden (L + 1) 127 59 [some (.ref 0), some (.int v1), some (.int v2), some (.int v3), some (.int 0), some (.int r3), none] [] M4))))))) :=
  (zd_w zf_127 0 3 rfl).trans
  (zd_ci zf_127 rfl rfl rfl rfl (fun r1 M1 => zd_eq0 zf_127 rfl (rfl) ((zd_w zf_127 5 3 rfl).trans
  (zd_ci zf_127 rfl rfl rfl rfl (fun r2 M2 => zd_ne0 zf_127 rfl ((zd_w zf_127 12 4 rfl).trans
  (zd_ci zf_127 rfl rfl rfl rfl (fun r3 M3 => (zd_w zf_127 17 4 rfl).trans
  (zd_ci zf_127 rfl rfl rfl rfl (fun r4 M4 => (zd_w zf_127 22 1 rfl).trans
  (zd_ge zf_127 rfl (rfl) ((zd_w zf_127 24 5 rfl).trans
  (zd_ci zf_127 rfl rfl rfl rfl (fun r5 M5 => (zd_w zf_127 30 1 rfl)))))))))) (rfl))))))
theorem e127_19 (L : Nat) (o0 : Option Value) (o1 : Option Value) (o2 : Option Value) (o3 : Option Value) (o4 : Option Value) (o5 : Option Value) (o6 : Option Value) (M : zM) : zden (L + 1) 127 19 [o0, o1, o2, o3, o4, o5, o6] [] M =
  some (some (.int (-1)), M) :=
  (zd_w zf_127 10 1 rfl).trans
  (zd_ri zf_127 rfl zr_127 rfl)
theorem e127_59 (L : Nat) (v1 : Int32) (o2 : Option Value) (v3 : Int32) (v4 : Int32) (v5 : Int32) (o6 : Option Value) (M : zM) : zden (L + 1) 127 59 [some (.ref 0), some (.int v1), o2, some (.int v3), some (.int v4), some (.int v5), o6] [] M =
  zbI (zden (L + 1) 126 0 [some (.ref 0), some (.int v1), none] [] M) (fun r1 M1 => if r1 < v5 then (zden (L + 1) 127 80 [some (.ref 0), some (.int v1), o2, some (.int v3), some (.int 2), some (.int r1), some (.int r1)] [] M1) else (zden (L + 1) 127 80 [some (.ref 0), some (.int v1), o2, some (.int v3), some (.int v4), some (.int v5), some (.int r1)] [] M1)) :=
  (zd_w zf_127 31 2 rfl).trans
  (zd_ci zf_127 rfl rfl rfl rfl (fun r1 M1 => (zd_w zf_127 34 3 rfl).trans
  (zd_ge zf_127 rfl (rfl) ((zd_w zf_127 38 4 rfl)))))
theorem e127_80 (L : Nat) (o0 : Option Value) (o1 : Option Value) (o2 : Option Value) (v3 : Int32) (v4 : Int32) (v5 : Int32) (o6 : Option Value) (M : zM) : zden (L + 1) 127 80 [o0, o1, o2, some (.int v3), some (.int v4), some (.int v5), o6] [] M =
  if v3 = 0 then (zden (L + 1) 127 91 [o0, o1, o2, some (.int v3), some (.int v4), some (.int v5), o6] [.int v4] M) else (zden (L + 1) 127 91 [o0, o1, o2, some (.int v3), some (.int v4), some (.int v5), o6] [.int v5] M) :=
  (zd_w zf_127 42 1 rfl).trans
  (zd_ne0 zf_127 rfl ((zd_w zf_127 46 1 rfl)) ((zd_w zf_127 44 1 rfl).trans
  (zd_goto zf_127 rfl (rfl))))
theorem e127_91 (L : Nat) (o0 : Option Value) (o1 : Option Value) (o2 : Option Value) (o3 : Option Value) (o4 : Option Value) (o5 : Option Value) (o6 : Option Value) (s0 : Int32) (M : zM) : zden (L + 1) 127 91 [o0, o1, o2, o3, o4, o5, o6] [.int s0] M =
  some (some (.int s0), M) :=
  zd_ri zf_127 rfl zr_127 rfl
theorem e128_0 (L : Nat) (v1 : Int32) (v2 : Int32) (v3 : Int32) (M : zM) : zden (L + 1) 128 0 [some (.ref 0), some (.int v1), some (.int v2), some (.int v3), none] [] M =
  zbI (zden (L + 1) 46 0 [some (.int v1), some (.int 0), some (.int ((M 1 9) - 1))] [] M) (fun r1 M1 => if r1 = 0 then (zden (L + 1) 128 43 [some (.ref 0), some (.int v1), some (.int v2), some (.int v3), none] [] M1) else (zbI (zden (L + 1) 46 0 [some (.int v2), some (.int 0), some (.int ((M1 1 9) - 1))] [] M1) (fun r2 M2 => if r2 = 0 then (zden (L + 1) 128 43 [some (.ref 0), some (.int v1), some (.int v2), some (.int v3), none] [] M2) else (zbI (zden (L + 1) 46 0 [some (.int v3), some (.int 0), some (.int 1)] [] M2) (fun r3 M3 => if r3 = 0 then (zden (L + 1) 128 43 [some (.ref 0), some (.int v1), some (.int v2), some (.int v3), none] [] M3) else (zbV (zden (L + 1) 22 0 [some (.ref 38), none, none, none] [] M3) (fun M4 => zbI (zden (L + 1) 20 0 [some (.ref 38), some (.int v1), some (.int v2)] [] M4) (fun r5 M5 => if r5 < 1000000 then (if v3 = 0 then (zden (L + 1) 128 98 [some (.ref 0), some (.int v1), some (.int v2), some (.int v3), some (.int r5)] [.int r5] M5) else (zbI (zden (L + 1) 24 0 [some (.ref 38), some (.int v1), some (.int v2), some (.int (M5 1 14))] [] M5) (fun r6 M6 => zden (L + 1) 128 98 [some (.ref 0), some (.int v1), some (.int v2), some (.int v3), some (.int r5)] [.int r6] M6))) else (some (some (.int (-4)), M5)))))))))) :=
  (zd_w zf_128 0 7 rfl).trans
  (zd_ci zf_128 rfl rfl rfl rfl (fun r1 M1 => zd_eq0 zf_128 rfl (rfl) ((zd_w zf_128 9 7 rfl).trans
  (zd_ci zf_128 rfl rfl rfl rfl (fun r2 M2 => zd_eq0 zf_128 rfl (rfl) ((zd_w zf_128 18 3 rfl).trans
  (zd_ci zf_128 rfl rfl rfl rfl (fun r3 M3 => zd_ne0 zf_128 rfl ((zd_w zf_128 25 2 rfl).trans
  (zd_cv zf_128 rfl rfl rfl rfl (fun M4 => (zd_w zf_128 28 4 rfl).trans
  (zd_ci zf_128 rfl rfl rfl rfl (fun r5 M5 => (zd_w zf_128 33 3 rfl).trans
  (zd_lt zf_128 rfl ((zd_w zf_128 39 1 rfl).trans
  (zd_ne0 zf_128 rfl ((zd_w zf_128 43 7 rfl).trans
  (zd_ci zf_128 rfl rfl rfl rfl (fun r6 M6 => rfl))) ((zd_w zf_128 41 1 rfl).trans
  (zd_goto zf_128 rfl (rfl))))) ((zd_w zf_128 37 1 rfl).trans
  (zd_ri zf_128 rfl zr_128 rfl)))))))) (rfl)))))))))
theorem e128_43 (L : Nat) (o0 : Option Value) (o1 : Option Value) (o2 : Option Value) (o3 : Option Value) (o4 : Option Value) (M : zM) : zden (L + 1) 128 43 [o0, o1, o2, o3, o4] [] M =
  some (some (.int (-1)), M) :=
  (zd_w zf_128 23 1 rfl).trans
  (zd_ri zf_128 rfl zr_128 rfl)
theorem e128_98 (L : Nat) (o0 : Option Value) (o1 : Option Value) (o2 : Option Value) (o3 : Option Value) (o4 : Option Value) (s0 : Int32) (M : zM) : zden (L + 1) 128 98 [o0, o1, o2, o3, o4] [.int s0] M =
  some (some (.int s0), M) :=
  zd_ri zf_128 rfl zr_128 rfl
theorem e129_0 (L : Nat)  (M : zM) : zden (L + 1) 129 0 [some (.ref 0)] [] M =
  zbV (zden (L + 1) 22 0 [some (.ref 38), none, none, none] [] M) (fun M1 => zbI (zden (L + 1) 25 0 [some (.ref 38), some (.int (M1 1 14)), none, none, none] [] M1) (fun r2 M2 => some (some (.int r2), M2))) :=
  (zd_w zf_129 0 2 rfl).trans
  (zd_cv zf_129 rfl rfl rfl rfl (fun M1 => (zd_w zf_129 3 5 rfl).trans
  (zd_ci zf_129 rfl rfl rfl rfl (fun r2 M2 => zd_ri zf_129 rfl zr_129 rfl))))
theorem e130_0 (L : Nat) (v1 : Int32) (v2 : Int32) (M : zM) : zden (L + 1) 130 0 [some (.ref 0), some (.int v1), some (.int v2), none] [] M =
  zbI (zden (L + 1) 46 0 [some (.int v1), some (.int 1), some (.int 3)] [] M) (fun r1 M1 => if r1 = 0 then (zden (L + 1) 130 18 [some (.ref 0), some (.int v1), some (.int v2), none] [] M1) else (zbI (zden (L + 1) 46 0 [some (.int v2), some (.int 0), some (.int 1)] [] M1) (fun r2 M2 => if r2 = 0 then (zden (L + 1) 130 18 [some (.ref 0), some (.int v1), some (.int v2), none] [] M2) else (zbV (zden (L + 1) 22 0 [some (.ref 38), none, none, none] [] M2) (fun M3 => zbI (zden (L + 1) 27 0 [some (.ref 38), some (.int v1), none, none, none, none] [] M3) (fun r4 M4 => if r4 = (-4) then (zden (L + 1) 130 46 [some (.ref 0), some (.int v1), some (.int v2), some (.int r4)] [] M4) else (if v2 = 0 then (zden (L + 1) 130 46 [some (.ref 0), some (.int v1), some (.int v2), some (.int r4)] [] M4) else (zbI (zden (L + 1) 25 0 [some (.ref 38), some (.int ((M4 1 14) ||| r4)), none, none, none] [] M4) (fun r5 M5 => some (some (.int r5), M5)))))))))) :=
  (zd_w zf_130 0 3 rfl).trans
  (zd_ci zf_130 rfl rfl rfl rfl (fun r1 M1 => zd_eq0 zf_130 rfl (rfl) ((zd_w zf_130 5 3 rfl).trans
  (zd_ci zf_130 rfl rfl rfl rfl (fun r2 M2 => zd_ne0 zf_130 rfl ((zd_w zf_130 12 2 rfl).trans
  (zd_cv zf_130 rfl rfl rfl rfl (fun M3 => (zd_w zf_130 15 3 rfl).trans
  (zd_ci zf_130 rfl rfl rfl rfl (fun r4 M4 => (zd_w zf_130 19 3 rfl).trans
  (zd_eq zf_130 rfl (rfl) ((zd_w zf_130 23 1 rfl).trans
  (zd_ne0 zf_130 rfl ((zd_w zf_130 27 7 rfl).trans
  (zd_ci zf_130 rfl rfl rfl rfl (fun r5 M5 => zd_ri zf_130 rfl zr_130 rfl))) (rfl))))))))) (rfl))))))
theorem e130_18 (L : Nat) (o0 : Option Value) (o1 : Option Value) (o2 : Option Value) (o3 : Option Value) (M : zM) : zden (L + 1) 130 18 [o0, o1, o2, o3] [] M =
  some (some (.int (-1)), M) :=
  (zd_w zf_130 10 1 rfl).trans
  (zd_ri zf_130 rfl zr_130 rfl)
theorem e130_46 (L : Nat) (o0 : Option Value) (o1 : Option Value) (o2 : Option Value) (v3 : Int32) (M : zM) : zden (L + 1) 130 46 [o0, o1, o2, some (.int v3)] [] M =
  some (some (.int v3), M) :=
  (zd_w zf_130 25 1 rfl).trans
  (zd_ri zf_130 rfl zr_130 rfl)
theorem e131_0 (L : Nat)  (M : zM) : zden (L + 1) 131 0 [some (.ref 0)] [] M =
  zbV (zden (L + 1) 22 0 [some (.ref 38), none, none, none] [] M) (fun M1 => zbI (zden (L + 1) 28 0 [some (.ref 38), none, none, none, none] [] M1) (fun r2 M2 => some (some (.int r2), M2))) :=
  (zd_w zf_131 0 2 rfl).trans
  (zd_cv zf_131 rfl rfl rfl rfl (fun M1 => (zd_w zf_131 3 2 rfl).trans
  (zd_ci zf_131 rfl rfl rfl rfl (fun r2 M2 => zd_ri zf_131 rfl zr_131 rfl))))
theorem e133_0 (L : Nat) (v1 : Int32) (M : zM) : zden (L + 1) 133 0 [some (.ref 0), some (.int v1)] [] M =
  zbI (zden (L + 1) 46 0 [some (.int v1), some (.int 0), some (.int 3)] [] M) (fun r1 M1 => if r1 = 0 then (some (some (.int (-1)), M1)) else (if v1 = 0 then (zbI (zden (L + 1) 0 0 [some (.ref 1), some (.int 3)] [] M1) (fun r3 M3 => zbI (zden (L + 1) 0 0 [some (.ref 1), some (.int 1)] [] M3) (fun r4 M4 => if r4 < (2 * r3) then (zden (L + 1) 133 41 [some (.ref 0), some (.int v1)] [.int 1] M4) else (zden (L + 1) 133 41 [some (.ref 0), some (.int v1)] [.int 0] M4)))) else (if v1 = 1 then (zbI (zden (L + 1) 0 0 [some (.ref 1), some (.int 1)] [] M1) (fun r2 M2 => some (some (.int (r2 / 2)), M2))) else (if v1 = 3 then (zden (L + 1) 133 69 [some (.ref 0), some (.int v1)] [.int 1, .ref 0] M1) else (zden (L + 1) 133 69 [some (.ref 0), some (.int v1)] [.int 0, .ref 0] M1))))) :=
  (zd_w zf_133 0 3 rfl).trans
  (zd_ci zf_133 rfl rfl rfl rfl (fun r1 M1 => zd_ne0 zf_133 rfl ((zd_w zf_133 7 1 rfl).trans
  (zd_ne0 zf_133 rfl ((zd_w zf_133 24 2 rfl).trans
  (zd_ne zf_133 rfl ((zd_w zf_133 34 3 rfl).trans
  (zd_ne zf_133 rfl ((zd_w zf_133 40 1 rfl)) ((zd_w zf_133 38 1 rfl).trans
  (zd_goto zf_133 rfl (rfl))))) ((zd_w zf_133 27 3 rfl).trans
  (zd_ci zf_133 rfl rfl rfl rfl (fun r2 M2 => (zd_w zf_133 31 2 rfl).trans
  (zd_ri zf_133 rfl zr_133 rfl)))))) ((zd_w zf_133 9 4 rfl).trans
  (zd_ci zf_133 rfl rfl rfl rfl (fun r3 M3 => (zd_w zf_133 14 4 rfl).trans
  (zd_ci zf_133 rfl rfl rfl rfl (fun r4 M4 => zd_le zf_133 rfl ((zd_w zf_133 22 1 rfl)) ((zd_w zf_133 20 1 rfl).trans
  (zd_goto zf_133 rfl (rfl)))))))))) ((zd_w zf_133 5 1 rfl).trans
  (zd_ri zf_133 rfl zr_133 rfl))))
theorem e133_69 (L : Nat) (o0 : Option Value) (o1 : Option Value) (s0 : Int32) (M : zM) : zden (L + 1) 133 69 [o0, o1] [.int s0, .ref 0] M =
  zbI (zden (L + 1) 132 0 [some (.ref 0), some (.int s0), none] [] M) (fun r1 M1 => some (some (.int r1), M1)) :=
  zd_ci zf_133 rfl rfl rfl rfl (fun r1 M1 => zd_ri zf_133 rfl zr_133 rfl)
theorem e133_41 (L : Nat) (o0 : Option Value) (o1 : Option Value) (s0 : Int32) (M : zM) : zden (L + 1) 133 41 [o0, o1] [.int s0] M =
  some (some (.int s0), M) :=
  zd_ri zf_133 rfl zr_133 rfl
theorem e134_0 (L : Nat) (v1 : Int32) (M : zM) : zden (L + 1) 134 0 [some (.ref 0), some (.int v1), none] [] M =
  zbI (zden (L + 1) 46 0 [some (.int v1), some (.int 0), some (.int 40)] [] M) (fun r1 M1 => if r1 = 0 then (some (some (.int (-1)), M1)) else (zbI (zden (L + 1) 0 0 [some (.ref 1), some (.int 3)] [] M1) (fun r2 M2 => zbV (zden (L + 1) 5 0 [some (.ref 4), some (.int 3), some (.int v1)] [] M2) (fun M3 => zbV (zden (L + 1) 14 0 [some (.ref 43)] [] M3) (fun M4 => some (some (.int r2), M4)))))) :=
  (zd_w zf_134 0 3 rfl).trans
  (zd_ci zf_134 rfl rfl rfl rfl (fun r1 M1 => zd_ne0 zf_134 rfl ((zd_w zf_134 7 3 rfl).trans
  (zd_ci zf_134 rfl rfl rfl rfl (fun r2 M2 => (zd_w zf_134 11 6 rfl).trans
  (zd_cv zf_134 rfl rfl rfl rfl (fun M3 => (zd_w zf_134 18 2 rfl).trans
  (zd_cv zf_134 rfl rfl rfl rfl (fun M4 => (zd_w zf_134 21 1 rfl).trans
  (zd_ri zf_134 rfl zr_134 rfl)))))))) ((zd_w zf_134 5 1 rfl).trans
  (zd_ri zf_134 rfl zr_134 rfl))))
theorem e135_0 (L : Nat) (v1 : Int32) (v2 : Int32) (M : zM) : zden (L + 1) 135 0 [some (.ref 0), some (.int v1), some (.int v2), none] [] M =
  zbI (zden (L + 1) 46 0 [some (.int v1), some (.int 0), some (.int ((M 1 9) - 1))] [] M) (fun r1 M1 => if r1 = 0 then (some (some (.int (-1)), M1)) else (if v2 = 0 then (zden (L + 1) 135 54 [some (.ref 0), some (.int v1), some (.int v2), some (.int (1 <<< (v1 &&& 31)))] [.int ((M1 1 14) &&& ((1 <<< (v1 &&& 31)) ^^^ (-1))), .ref 1] M1) else (zden (L + 1) 135 54 [some (.ref 0), some (.int v1), some (.int v2), some (.int (1 <<< (v1 &&& 31)))] [.int ((M1 1 14) ||| (1 <<< (v1 &&& 31))), .ref 1] M1))) :=
  (zd_w zf_135 0 7 rfl).trans
  (zd_ci zf_135 rfl rfl rfl rfl (fun r1 M1 => zd_ne0 zf_135 rfl ((zd_w zf_135 11 7 rfl).trans
  (zd_eq0 zf_135 rfl ((zd_w zf_135 25 7 rfl)) ((zd_w zf_135 19 5 rfl).trans
  (zd_goto zf_135 rfl (rfl))))) ((zd_w zf_135 9 1 rfl).trans
  (zd_ri zf_135 rfl zr_135 rfl))))
theorem e135_54 (L : Nat) (o1 : Option Value) (o2 : Option Value) (o3 : Option Value) (s0 : Int32) (M : zM) : zden (L + 1) 135 54 [some (.ref 0), o1, o2, o3] [.int s0, .ref 1] M =
  zbI (zden (L + 1) 26 0 [some (.int ((zput M 1 14 s0) 1 14))] [] (zput M 1 14 s0)) (fun r1 M1 => some (some (.int r1), M1)) :=
  (zd_w zf_135 32 4 rfl).trans
  (zd_ci zf_135 rfl rfl rfl rfl (fun r1 M1 => zd_ri zf_135 rfl zr_135 rfl))
theorem e136_0 (L : Nat) (v1 : Int32) (v2 : Int32) (v3 : Int32) (M : zM) : zden (L + 1) 136 0 [some (.ref 0), some (.int v1), some (.int v2), some (.int v3)] [] M =
  zbI (zden (L + 1) 46 0 [some (.int v1), some (.int 0), some (.int 9999)] [] M) (fun r1 M1 => if r1 = 0 then (zden (L + 1) 136 21 [some (.ref 0), some (.int v1), some (.int v2), some (.int v3)] [] M1) else (zbI (zden (L + 1) 46 0 [some (.int v2), some (.int 0), some (.int 23)] [] M1) (fun r2 M2 => if r2 = 0 then (zden (L + 1) 136 21 [some (.ref 0), some (.int v1), some (.int v2), some (.int v3)] [] M2) else (zbV (zden (L + 1) 6 0 [some (.ref 36), some (.int v3), none] [] M2) (fun M3 => zbI (zden (L + 1) 12 0 [some (.ref 36), some (.int v1), some (.int v2), some (.int 300), none] [] M3) (fun r4 M4 => some (some (.int r4), M4))))))) :=
  (zd_w zf_136 0 3 rfl).trans
  (zd_ci zf_136 rfl rfl rfl rfl (fun r1 M1 => zd_eq0 zf_136 rfl (rfl) ((zd_w zf_136 5 3 rfl).trans
  (zd_ci zf_136 rfl rfl rfl rfl (fun r2 M2 => zd_ne0 zf_136 rfl ((zd_w zf_136 12 3 rfl).trans
  (zd_cv zf_136 rfl rfl rfl rfl (fun M3 => (zd_w zf_136 16 5 rfl).trans
  (zd_ci zf_136 rfl rfl rfl rfl (fun r4 M4 => zd_ri zf_136 rfl zr_136 rfl))))) (rfl))))))
theorem e136_21 (L : Nat) (o0 : Option Value) (o1 : Option Value) (o2 : Option Value) (o3 : Option Value) (M : zM) : zden (L + 1) 136 21 [o0, o1, o2, o3] [] M =
  some (some (.int (-1)), M) :=
  (zd_w zf_136 10 1 rfl).trans
  (zd_ri zf_136 rfl zr_136 rfl)
theorem e137_0 (L : Nat) (v1 : Int32) (v2 : Int32) (v3 : Int32) (v4 : Int32) (v5 : Int32) (M : zM) : zden (L + 1) 137 0 [some (.ref 0), some (.int v1), some (.int v2), some (.int v3), some (.int v4), some (.int v5), none, none] [] M =
  zbI (zden (L + 1) 46 0 [some (.int v1), some (.int 0), some (.int 9999)] [] M) (fun r1 M1 => if r1 = 0 then (zden (L + 1) 137 43 [some (.ref 0), some (.int v1), some (.int v2), some (.int v3), some (.int v4), some (.int v5), none, none] [] M1) else (zbI (zden (L + 1) 46 0 [some (.int v2), some (.int 1), some (.int 60)] [] M1) (fun r2 M2 => if r2 = 0 then (zden (L + 1) 137 43 [some (.ref 0), some (.int v1), some (.int v2), some (.int v3), some (.int v4), some (.int v5), none, none] [] M2) else (zbI (zden (L + 1) 46 0 [some (.int v3), some (.int 0), some (.int 23)] [] M2) (fun r3 M3 => if r3 = 0 then (zden (L + 1) 137 43 [some (.ref 0), some (.int v1), some (.int v2), some (.int v3), some (.int v4), some (.int v5), none, none] [] M3) else (zbI (zden (L + 1) 46 0 [some (.int v4), some (.int 1), some (.int 300)] [] M3) (fun r4 M4 => if r4 = 0 then (zden (L + 1) 137 43 [some (.ref 0), some (.int v1), some (.int v2), some (.int v3), some (.int v4), some (.int v5), none, none] [] M4) else (zbV (zden (L + 1) 6 0 [some (.ref 36), some (.int v5), none] [] M4) (fun M5 => zden (L + 1) 137 60 [some (.ref 0), some (.int v1), some (.int v2), some (.int v3), some (.int v4), some (.int v5), some (.int 0), some (.int 0)] [] M5))))))))) :=
  (zd_w zf_137 0 3 rfl).trans
  (zd_ci zf_137 rfl rfl rfl rfl (fun r1 M1 => zd_eq0 zf_137 rfl (rfl) ((zd_w zf_137 5 3 rfl).trans
  (zd_ci zf_137 rfl rfl rfl rfl (fun r2 M2 => zd_eq0 zf_137 rfl (rfl) ((zd_w zf_137 10 3 rfl).trans
  (zd_ci zf_137 rfl rfl rfl rfl (fun r3 M3 => zd_eq0 zf_137 rfl (rfl) ((zd_w zf_137 15 3 rfl).trans
  (zd_ci zf_137 rfl rfl rfl rfl (fun r4 M4 => zd_ne0 zf_137 rfl ((zd_w zf_137 22 3 rfl).trans
  (zd_cv zf_137 rfl rfl rfl rfl (fun M5 => (zd_w zf_137 26 4 rfl)))) (rfl))))))))))))
theorem e137_43 (L : Nat) (o0 : Option Value) (o1 : Option Value) (o2 : Option Value) (o3 : Option Value) (o4 : Option Value) (o5 : Option Value) (o6 : Option Value) (o7 : Option Value) (M : zM) : zden (L + 1) 137 43 [o0, o1, o2, o3, o4, o5, o6, o7] [] M =
  some (some (.int (-1)), M) :=
  (zd_w zf_137 20 1 rfl).trans
  (zd_ri zf_137 rfl zr_137 rfl)
theorem e137_60 (L : Nat) (v1 : Int32) (v2 : Int32) (v3 : Int32) (v4 : Int32) (o5 : Option Value) (v6 : Int32) (v7 : Int32) (M : zM) : zden (L + 1) 137 60 [some (.ref 0), some (.int v1), some (.int v2), some (.int v3), some (.int v4), o5, some (.int v6), some (.int v7)] [] M =
  if v7 < v2 then (zbI (zden (L + 1) 12 0 [some (.ref 36), some (.int ((v1 + v7) - (v1 + v7) / 10000 * 10000)), some (.int v3), some (.int v4), none] [] M) (fun r1 M1 => if r1 = (-4) then (zden (L + 1) 137 92 [some (.ref 0), some (.int v1), some (.int v2), some (.int v3), some (.int v4), o5, some (.int v6), some (.int v7)] [] M1) else (zden (L + 1) 137 92 [some (.ref 0), some (.int v1), some (.int v2), some (.int v3), some (.int v4), (zkl o5), some (.int (v6 + 1)), some (.int v7)] [] M1))) else (some (some (.int v6), M)) :=
  (zd_w zf_137 30 2 rfl).trans
  (zd_ge zf_137 rfl ((zd_w zf_137 48 1 rfl).trans
  (zd_ri zf_137 rfl zr_137 rfl)) ((zd_w zf_137 33 9 rfl).trans
  (zd_ci zf_137 rfl rfl rfl rfl (fun r1 M1 => (zd_w zf_137 43 1 rfl).trans
  (zd_eq zf_137 rfl (rfl) ((zd_w zf_137 45 1 rfl)))))))
theorem e137_92 (L : Nat) (v1 : Int32) (v2 : Int32) (v3 : Int32) (v4 : Int32) (o5 : Option Value) (v6 : Int32) (v7 : Int32) (M : zM) : zden (L + 1) 137 92 [some (.ref 0), some (.int v1), some (.int v2), some (.int v3), some (.int v4), o5, some (.int v6), some (.int v7)] [] M =
  zden (L + 1) 137 60 [some (.ref 0), some (.int v1), some (.int v2), some (.int v3), some (.int v4), o5, some (.int v6), some (.int (v7 + 1))] [] M :=
  (zd_w zf_137 46 1 rfl).trans
  (zd_goto zf_137 rfl (rfl))
theorem e138_0 (L : Nat)  (M : zM) : zden (L + 1) 138 0 [some (.ref 0)] [] M =
  if (M 45 3) < 2 then (zbV (zden (L + 1) 31 0 [some (.ref 40), some (.ref 42), none] [] M) (fun M1 => zbI (zden (L + 1) 0 0 [some (.ref 1), some (.int 3)] [] M1) (fun r2 M2 => zbV (zden (L + 1) 5 0 [some (.ref 42), some (.int 6), some (.int r2)] [] M2) (fun M3 => zbV (zden (L + 1) 5 0 [some (.ref 42), some (.int 7), some (.int (M3 1 14))] [] M3) (fun M4 => zbV (zden (L + 1) 16 0 [some (.ref 45), some (.ref 42), none] [] M4) (fun M5 => some (some (.int (M5 45 3)), M5))))))) else (some (some (.int (-3)), M)) :=
  (zd_w zf_138 0 4 rfl).trans
  (zd_lt zf_138 rfl ((zd_w zf_138 7 4 rfl).trans
  (zd_cv zf_138 rfl rfl rfl rfl (fun M1 => (zd_w zf_138 12 6 rfl).trans
  (zd_ci zf_138 rfl rfl rfl rfl (fun r2 M2 => zd_cv zf_138 rfl rfl rfl rfl (fun M3 => (zd_w zf_138 20 6 rfl).trans
  (zd_cv zf_138 rfl rfl rfl rfl (fun M4 => (zd_w zf_138 27 4 rfl).trans
  (zd_cv zf_138 rfl rfl rfl rfl (fun M5 => (zd_w zf_138 32 3 rfl).trans
  (zd_ri zf_138 rfl zr_138 rfl))))))))))) ((zd_w zf_138 5 1 rfl).trans
  (zd_ri zf_138 rfl zr_138 rfl)))
theorem e139_0 (L : Nat)  (M : zM) : zden (L + 1) 139 0 [some (.ref 0)] [] M =
  zbI (zden (L + 1) 17 0 [some (.ref 45), some (.ref 42), none] [] M) (fun r1 M1 => if r1 = 0 then (some (some (.int (-2)), M1)) else (zbV (zden (L + 1) 31 0 [some (.ref 42), some (.ref 40), none] [] M1) (fun M2 => zbI (zden (L + 1) 4 0 [some (.ref 42), some (.int 6)] [] M2) (fun r3 M3 => zbV (zden (L + 1) 5 0 [some (.ref 4), some (.int 3), some (.int r3)] [] M3) (fun M4 => zbI (zden (L + 1) 4 0 [some (.ref 42), some (.int 7)] [] M4) (fun r5 M5 => zbV (zden (L + 1) 94 0 [some (.ref 0)] [] (zput M5 1 14 r5)) (fun M6 => some (some (.int (M6 45 3)), M6)))))))) :=
  (zd_w zf_139 0 4 rfl).trans
  (zd_ci zf_139 rfl rfl rfl rfl (fun r1 M1 => zd_ne0 zf_139 rfl ((zd_w zf_139 8 4 rfl).trans
  (zd_cv zf_139 rfl rfl rfl rfl (fun M2 => (zd_w zf_139 13 7 rfl).trans
  (zd_ci zf_139 rfl rfl rfl rfl (fun r3 M3 => zd_cv zf_139 rfl rfl rfl rfl (fun M4 => (zd_w zf_139 22 5 rfl).trans
  (zd_ci zf_139 rfl rfl rfl rfl (fun r5 M5 => (zd_w zf_139 28 2 rfl).trans
  (zd_cv zf_139 rfl rfl rfl rfl (fun M6 => (zd_w zf_139 31 3 rfl).trans
  (zd_ri zf_139 rfl zr_139 rfl))))))))))) ((zd_w zf_139 6 1 rfl).trans
  (zd_ri zf_139 rfl zr_139 rfl))))
theorem e140_0 (L : Nat) (v1 : Int32) (M : zM) : zden (L + 1) 140 0 [some (.ref 0), some (.int v1)] [] M =
  if v1 = 0 then zden (L + 1) 140 52 [some (.ref 0), some (.int v1)] [] M else (if v1 = 1 then zden (L + 1) 140 60 [some (.ref 0), some (.int v1)] [] M else (if v1 = 2 then zden (L + 1) 140 68 [some (.ref 0), some (.int v1)] [] M else (if v1 = 3 then zden (L + 1) 140 76 [some (.ref 0), some (.int v1)] [] M else (if v1 = 4 then zden (L + 1) 140 84 [some (.ref 0), some (.int v1)] [] M else (if v1 = 5 then zden (L + 1) 140 95 [some (.ref 0), some (.int v1)] [] M else (if v1 = 6 then zden (L + 1) 140 100 [some (.ref 0), some (.int v1)] [] M else (if v1 = 7 then zden (L + 1) 140 108 [some (.ref 0), some (.int v1)] [] M else (if v1 = 8 then zden (L + 1) 140 116 [some (.ref 0), some (.int v1)] [] M else (zden (L + 1) 140 124 [some (.ref 0), some (.int v1)] [] M))))))))) :=
  (zd_w zf_140 0 1 rfl).trans
  ((zsw_140_1 (lc := [some (.ref 0), some (.int v1)]) (st := [])))
theorem e140_124 (L : Nat) (o0 : Option Value) (o1 : Option Value) (M : zM) : zden (L + 1) 140 124 [o0, o1] [] M =
  some (some (.int (-1)), M) :=
  (zd_w zf_140 38 1 rfl).trans
  (zd_ri zf_140 rfl zr_140 rfl)
theorem e140_116 (L : Nat) (o1 : Option Value) (M : zM) : zden (L + 1) 140 116 [some (.ref 0), o1] [] M =
  some (some (.int (M 23 1)), M) :=
  (zd_w zf_140 34 3 rfl).trans
  (zd_ri zf_140 rfl zr_140 rfl)
theorem e140_108 (L : Nat) (o1 : Option Value) (M : zM) : zden (L + 1) 140 108 [some (.ref 0), o1] [] M =
  some (some (.int (M 45 3)), M) :=
  (zd_w zf_140 30 3 rfl).trans
  (zd_ri zf_140 rfl zr_140 rfl)
theorem e140_100 (L : Nat) (o1 : Option Value) (M : zM) : zden (L + 1) 140 100 [some (.ref 0), o1] [] M =
  some (some (.int (M 43 3)), M) :=
  (zd_w zf_140 26 3 rfl).trans
  (zd_ri zf_140 rfl zr_140 rfl)
theorem e140_95 (L : Nat) (o1 : Option Value) (M : zM) : zden (L + 1) 140 95 [some (.ref 0), o1] [] M =
  some (some (.int (M 0 15)), M) :=
  (zd_w zf_140 23 2 rfl).trans
  (zd_ri zf_140 rfl zr_140 rfl)
theorem e140_84 (L : Nat) (o1 : Option Value) (M : zM) : zden (L + 1) 140 84 [some (.ref 0), o1] [] M =
  zbI (zden (L + 1) 26 0 [some (.int (M 1 14))] [] M) (fun r1 M1 => some (some (.int r1), M1)) :=
  (zd_w zf_140 18 3 rfl).trans
  (zd_ci zf_140 rfl rfl rfl rfl (fun r1 M1 => zd_ri zf_140 rfl zr_140 rfl))
theorem e140_76 (L : Nat) (o1 : Option Value) (M : zM) : zden (L + 1) 140 76 [some (.ref 0), o1] [] M =
  some (some (.int (M 1 13)), M) :=
  (zd_w zf_140 14 3 rfl).trans
  (zd_ri zf_140 rfl zr_140 rfl)
theorem e140_68 (L : Nat) (o1 : Option Value) (M : zM) : zden (L + 1) 140 68 [some (.ref 0), o1] [] M =
  some (some (.int (M 1 9)), M) :=
  (zd_w zf_140 10 3 rfl).trans
  (zd_ri zf_140 rfl zr_140 rfl)
theorem e140_60 (L : Nat) (o1 : Option Value) (M : zM) : zden (L + 1) 140 60 [some (.ref 0), o1] [] M =
  some (some (.int (M 1 6)), M) :=
  (zd_w zf_140 6 3 rfl).trans
  (zd_ri zf_140 rfl zr_140 rfl)
theorem e140_52 (L : Nat) (o1 : Option Value) (M : zM) : zden (L + 1) 140 52 [some (.ref 0), o1] [] M =
  some (some (.int (M 1 2)), M) :=
  (zd_w zf_140 2 3 rfl).trans
  (zd_ri zf_140 rfl zr_140 rfl)
theorem e144_0 (L : Nat) (v1 : Int32) (M : zM) : zden (L + 1) 144 0 [some (.ref 48), some (.int v1)] [] M =
  zbI (zden (L + 1) 143 0 [some (.long v1.toInt64), none, some (.long 32), none, some (.long 126), none] [] M) (fun r1 M1 => if r1 = 0 then (some (some (.int (-1)), M1)) else (if (M1 48 3) = 200 then (some (some (.int (-3)), M1)) else (if zinb (M1 48 3) 200 = true then (some (some (.int ((zput (zput M1 51 (M1 48 3).toNatClampNeg v1) 48 3 (((zput M1 51 (M1 48 3).toNatClampNeg v1) 48 3) + 1)) 48 3)), zput (zput M1 51 (M1 48 3).toNatClampNeg v1) 48 3 (((zput M1 51 (M1 48 3).toNatClampNeg v1) 48 3) + 1))) else none))) :=
  (zd_w zf_144 0 4 rfl).trans
  (zd_ci zf_144 rfl rfl rfl rfl (fun r1 M1 => zd_ne0 zf_144 rfl ((zd_w zf_144 8 3 rfl).trans
  (zd_ne zf_144 rfl ((zd_w zf_144 14 5 rfl).trans
  (zd_st zf_144 rfl rfl rfl ((zd_w zf_144 20 8 rfl).trans
  (zd_ri zf_144 rfl zr_144 rfl)))) ((zd_w zf_144 12 1 rfl).trans
  (zd_ri zf_144 rfl zr_144 rfl)))) ((zd_w zf_144 6 1 rfl).trans
  (zd_ri zf_144 rfl zr_144 rfl))))
theorem e145_0 (L : Nat)  (M : zM) : zden (L + 1) 145 0 [some (.ref 48), none] [] M =
  some (some (.int (M 48 3)), zput M 48 3 0) :=
  (zd_w zf_145 0 7 rfl).trans
  (zd_ri zf_145 rfl zr_145 rfl)
theorem e158_0 (L : Nat)  (M : zM) : zden (L + 1) 158 0 [some (.ref 48)] [] M =
  zbI (zden (L + 1) 157 0 [some (.ref 48), none] [] M) (fun r1 M1 => some (some (.int r1), M1)) :=
  (zd_w zf_158 0 1 rfl).trans
  (zd_ci zf_158 rfl rfl rfl rfl (fun r1 M1 => zd_ri zf_158 rfl zr_158 rfl))
theorem e159_0 (L : Nat)  (M : zM) : zden (L + 1) 159 0 [some (.ref 48), none] [] M =
  zbI (zden (L + 1) 157 0 [some (.ref 48), none] [] M) (fun r1 M1 => if r1 = (-4) then (if (M1 50 0) = 0 then (zden (L + 1) 159 18 [some (.ref 48), none] [] M1) else (zden (L + 1) 159 23 [some (.ref 48), some (.int 0)] [] M1)) else (zden (L + 1) 159 18 [some (.ref 48), none] [] M1)) :=
  (zd_w zf_159 0 1 rfl).trans
  (zd_ci zf_159 rfl rfl rfl rfl (fun r1 M1 => (zd_w zf_159 2 1 rfl).trans
  (zd_ne zf_159 rfl (rfl) ((zd_w zf_159 4 4 rfl).trans
  (zd_ne0 zf_159 rfl ((zd_w zf_159 11 2 rfl)) (rfl))))))
theorem e159_18 (L : Nat) (o0 : Option Value) (o1 : Option Value) (M : zM) : zden (L + 1) 159 18 [o0, o1] [] M =
  some (some (.int (-2)), M) :=
  (zd_w zf_159 9 1 rfl).trans
  (zd_ri zf_159 rfl zr_159 rfl)
theorem e159_23 (L : Nat) (v1 : Int32) (M : zM) : zden (L + 1) 159 23 [some (.ref 48), some (.int v1)] [] M =
  if v1 < 116 then (if zinb v1 116 = true then (if zinb v1 116 = true then (zden (L + 1) 159 23 [some (.ref 48), some (.int (v1 + 1))] [] (zput M 49 v1.toNatClampNeg (M 50 v1.toNatClampNeg))) else none) else none) else (zbV (zden (L + 1) 142 0 [some (.ref 48), some (.int 0), none] [] M) (fun M1 => some (some (.int ((zput M1 48 10 0) 49 0)), zput M1 48 10 0))) :=
  (zd_w zf_159 13 2 rfl).trans
  (zd_ge zf_159 rfl ((zd_w zf_159 26 2 rfl).trans
  (zd_cv zf_159 rfl rfl rfl rfl (fun M1 => (zd_w zf_159 29 7 rfl).trans
  (zd_ri zf_159 rfl zr_159 rfl)))) ((zd_w zf_159 16 6 rfl).trans
  (zd_ld zf_159 rfl rfl (zd_st zf_159 rfl rfl rfl ((zd_w zf_159 24 1 rfl).trans
  (zd_goto zf_159 rfl (rfl)))))))
theorem e162_0 (L : Nat) (v1 : Int32) (v2 : Int32) (M : zM) : zden (L + 1) 162 0 [some (.ref 48), some (.int v1), some (.int v2)] [] M =
  zbI (zden (L + 1) 160 0 [some (.ref 48), some (.int v1)] [] M) (fun r1 M1 => if r1 = 0 then (zden (L + 1) 162 36 [some (.ref 48), some (.int v1), some (.int v2)] [] M1) else (zbI (zden (L + 1) 161 0 [some (.int v2)] [] M1) (fun r2 M2 => if r2 = 0 then (zden (L + 1) 162 36 [some (.ref 48), some (.int v1), some (.int v2)] [] M2) else (if v2 = 0 then (zden (L + 1) 162 30 [some (.ref 48), some (.int v1), some (.int v2)] [.int 16, .ref 49] M2) else (zden (L + 1) 162 30 [some (.ref 48), some (.int v1), some (.int v2)] [.int 28, .ref 49] M2))))) :=
  (zd_w zf_162 0 2 rfl).trans
  (zd_ci zf_162 rfl rfl rfl rfl (fun r1 M1 => zd_eq0 zf_162 rfl (rfl) ((zd_w zf_162 4 1 rfl).trans
  (zd_ci zf_162 rfl rfl rfl rfl (fun r2 M2 => zd_eq0 zf_162 rfl (rfl) ((zd_w zf_162 7 3 rfl).trans
  (zd_ne0 zf_162 rfl ((zd_w zf_162 13 1 rfl)) ((zd_w zf_162 11 1 rfl).trans
  (zd_goto zf_162 rfl (rfl))))))))))
theorem e162_36 (L : Nat) (o0 : Option Value) (o1 : Option Value) (o2 : Option Value) (M : zM) : zden (L + 1) 162 36 [o0, o1, o2] [] M =
  zden (L + 1) 162 37 [o0, o1, o2] [.int (-1)] M :=
  (zd_w zf_162 18 1 rfl)
theorem e162_30 (L : Nat) (o0 : Option Value) (v1 : Int32) (o2 : Option Value) (s0 : Int32) (M : zM) : zden (L + 1) 162 30 [o0, some (.int v1), o2] [.int s0, .ref 49] M =
  if zinb (s0 + v1) 116 = true then (zden (L + 1) 162 37 [o0, some (.int v1), o2] [.int (M 49 (s0 + v1).toNatClampNeg)] M) else none :=
  (zd_w zf_162 14 2 rfl).trans
  (zd_ld zf_162 rfl rfl (zd_goto zf_162 rfl (rfl)))
theorem e162_37 (L : Nat) (o0 : Option Value) (o1 : Option Value) (o2 : Option Value) (s0 : Int32) (M : zM) : zden (L + 1) 162 37 [o0, o1, o2] [.int s0] M =
  some (some (.int s0), M) :=
  zd_ri zf_162 rfl zr_162 rfl
theorem e164_0 (L : Nat) (v1 : Int32) (M : zM) : zden (L + 1) 164 0 [some (.ref 48), some (.int v1)] [] M =
  zbI (zden (L + 1) 143 0 [some (.long v1.toInt64), none, some (.long 0), none, some (.long 12), none] [] M) (fun r1 M1 => if r1 = 0 then (zden (L + 1) 164 37 [some (.ref 48), some (.int v1)] [.int (-1)] M1) else (if v1 = 12 then (zbI (zden (L + 1) 163 0 [some (.ref 48)] [] M1) (fun r2 M2 => zden (L + 1) 164 37 [some (.ref 48), some (.int v1)] [.int r2] M2)) else (if zinb (4 + v1) 116 = true then (zden (L + 1) 164 37 [some (.ref 48), some (.int v1)] [.int (M1 49 (4 + v1).toNatClampNeg)] M1) else none))) :=
  (zd_w zf_164 0 4 rfl).trans
  (zd_ci zf_164 rfl rfl rfl rfl (fun r1 M1 => zd_ne0 zf_164 rfl ((zd_w zf_164 8 2 rfl).trans
  (zd_ne zf_164 rfl ((zd_w zf_164 14 5 rfl).trans
  (zd_ld zf_164 rfl rfl (rfl))) ((zd_w zf_164 11 1 rfl).trans
  (zd_ci zf_164 rfl rfl rfl rfl (fun r2 M2 => zd_goto zf_164 rfl (rfl)))))) ((zd_w zf_164 6 1 rfl).trans
  (zd_goto zf_164 rfl (rfl)))))
theorem e164_37 (L : Nat) (o0 : Option Value) (o1 : Option Value) (s0 : Int32) (M : zM) : zden (L + 1) 164 37 [o0, o1] [.int s0] M =
  some (some (.int s0), M) :=
  zd_ri zf_164 rfl zr_164 rfl
theorem e166_0 (L : Nat) (v1 : Int32) (v2 : Int32) (M : zM) : zden (L + 1) 166 0 [some (.ref 48), some (.int v1), some (.int v2)] [] M =
  zbI (zden (L + 1) 165 0 [some (.ref 48), some (.int v1)] [] M) (fun r1 M1 => if r1 = 0 then (zden (L + 1) 166 36 [some (.ref 48), some (.int v1), some (.int v2)] [] M1) else (zbI (zden (L + 1) 161 0 [some (.int v2)] [] M1) (fun r2 M2 => if r2 = 0 then (zden (L + 1) 166 36 [some (.ref 48), some (.int v1), some (.int v2)] [] M2) else (if v2 = 0 then (zden (L + 1) 166 30 [some (.ref 48), some (.int v1), some (.int v2)] [.int 40, .ref 49] M2) else (zden (L + 1) 166 30 [some (.ref 48), some (.int v1), some (.int v2)] [.int 44, .ref 49] M2))))) :=
  (zd_w zf_166 0 2 rfl).trans
  (zd_ci zf_166 rfl rfl rfl rfl (fun r1 M1 => zd_eq0 zf_166 rfl (rfl) ((zd_w zf_166 4 1 rfl).trans
  (zd_ci zf_166 rfl rfl rfl rfl (fun r2 M2 => zd_eq0 zf_166 rfl (rfl) ((zd_w zf_166 7 3 rfl).trans
  (zd_ne0 zf_166 rfl ((zd_w zf_166 13 1 rfl)) ((zd_w zf_166 11 1 rfl).trans
  (zd_goto zf_166 rfl (rfl))))))))))
theorem e166_36 (L : Nat) (o0 : Option Value) (o1 : Option Value) (o2 : Option Value) (M : zM) : zden (L + 1) 166 36 [o0, o1, o2] [] M =
  zden (L + 1) 166 37 [o0, o1, o2] [.int (-1)] M :=
  (zd_w zf_166 18 1 rfl)
theorem e166_30 (L : Nat) (o0 : Option Value) (v1 : Int32) (o2 : Option Value) (s0 : Int32) (M : zM) : zden (L + 1) 166 30 [o0, some (.int v1), o2] [.int s0, .ref 49] M =
  if zinb (s0 + v1) 116 = true then (zden (L + 1) 166 37 [o0, some (.int v1), o2] [.int (M 49 (s0 + v1).toNatClampNeg)] M) else none :=
  (zd_w zf_166 14 2 rfl).trans
  (zd_ld zf_166 rfl rfl (zd_goto zf_166 rfl (rfl)))
theorem e166_37 (L : Nat) (o0 : Option Value) (o1 : Option Value) (o2 : Option Value) (s0 : Int32) (M : zM) : zden (L + 1) 166 37 [o0, o1, o2] [.int s0] M =
  some (some (.int s0), M) :=
  zd_ri zf_166 rfl zr_166 rfl
theorem e168_0 (L : Nat) (v1 : Int32) (M : zM) : zden (L + 1) 168 0 [some (.ref 48), some (.int v1)] [] M =
  zbI (zden (L + 1) 167 0 [some (.int v1)] [] M) (fun r1 M1 => if r1 = 0 then (zden (L + 1) 168 20 [some (.ref 48), some (.int v1)] [.int (-1)] M1) else (if zinb (48 + v1) 116 = true then (zden (L + 1) 168 20 [some (.ref 48), some (.int v1)] [.int (M1 49 (48 + v1).toNatClampNeg)] M1) else none)) :=
  (zd_w zf_168 0 1 rfl).trans
  (zd_ci zf_168 rfl rfl rfl rfl (fun r1 M1 => zd_eq0 zf_168 rfl ((zd_w zf_168 10 1 rfl)) ((zd_w zf_168 3 5 rfl).trans
  (zd_ld zf_168 rfl rfl (zd_goto zf_168 rfl (rfl))))))
theorem e168_20 (L : Nat) (o0 : Option Value) (o1 : Option Value) (s0 : Int32) (M : zM) : zden (L + 1) 168 20 [o0, o1] [.int s0] M =
  some (some (.int s0), M) :=
  zd_ri zf_168 rfl zr_168 rfl
theorem e170_0 (L : Nat) (v1 : Int32) (v2 : Int32) (M : zM) : zden (L + 1) 170 0 [some (.ref 48), some (.int v1), some (.int v2)] [] M =
  zbI (zden (L + 1) 169 0 [some (.ref 48), some (.int v1)] [] M) (fun r1 M1 => if r1 = 0 then (zden (L + 1) 170 36 [some (.ref 48), some (.int v1), some (.int v2)] [] M1) else (zbI (zden (L + 1) 161 0 [some (.int v2)] [] M1) (fun r2 M2 => if r2 = 0 then (zden (L + 1) 170 36 [some (.ref 48), some (.int v1), some (.int v2)] [] M2) else (if v2 = 0 then (zden (L + 1) 170 30 [some (.ref 48), some (.int v1), some (.int v2)] [.int 72, .ref 49] M2) else (zden (L + 1) 170 30 [some (.ref 48), some (.int v1), some (.int v2)] [.int 79, .ref 49] M2))))) :=
  (zd_w zf_170 0 2 rfl).trans
  (zd_ci zf_170 rfl rfl rfl rfl (fun r1 M1 => zd_eq0 zf_170 rfl (rfl) ((zd_w zf_170 4 1 rfl).trans
  (zd_ci zf_170 rfl rfl rfl rfl (fun r2 M2 => zd_eq0 zf_170 rfl (rfl) ((zd_w zf_170 7 3 rfl).trans
  (zd_ne0 zf_170 rfl ((zd_w zf_170 13 1 rfl)) ((zd_w zf_170 11 1 rfl).trans
  (zd_goto zf_170 rfl (rfl))))))))))
theorem e170_36 (L : Nat) (o0 : Option Value) (o1 : Option Value) (o2 : Option Value) (M : zM) : zden (L + 1) 170 36 [o0, o1, o2] [] M =
  zden (L + 1) 170 37 [o0, o1, o2] [.int (-1)] M :=
  (zd_w zf_170 18 1 rfl)
theorem e170_30 (L : Nat) (o0 : Option Value) (v1 : Int32) (o2 : Option Value) (s0 : Int32) (M : zM) : zden (L + 1) 170 30 [o0, some (.int v1), o2] [.int s0, .ref 49] M =
  if zinb (s0 + v1) 116 = true then (zden (L + 1) 170 37 [o0, some (.int v1), o2] [.int (M 49 (s0 + v1).toNatClampNeg)] M) else none :=
  (zd_w zf_170 14 2 rfl).trans
  (zd_ld zf_170 rfl rfl (zd_goto zf_170 rfl (rfl)))
theorem e170_37 (L : Nat) (o0 : Option Value) (o1 : Option Value) (o2 : Option Value) (s0 : Int32) (M : zM) : zden (L + 1) 170 37 [o0, o1, o2] [.int s0] M =
  some (some (.int s0), M) :=
  zd_ri zf_170 rfl zr_170 rfl
theorem e171_0 (L : Nat) (v1 : Int32) (M : zM) : zden (L + 1) 171 0 [some (.ref 48), some (.int v1)] [] M =
  if v1 = 0 then (zden (L + 1) 171 10 [some (.ref 48), some (.int v1)] [.int 0, .ref 48] M) else (zden (L + 1) 171 10 [some (.ref 48), some (.int v1)] [.int 1, .ref 48] M) :=
  (zd_w zf_171 0 2 rfl).trans
  (zd_eq0 zf_171 rfl ((zd_w zf_171 5 1 rfl)) ((zd_w zf_171 3 1 rfl).trans
  (zd_goto zf_171 rfl (rfl))))
theorem e171_10 (L : Nat) (o1 : Option Value) (s0 : Int32) (M : zM) : zden (L + 1) 171 10 [some (.ref 48), o1] [.int s0, .ref 48] M =
  zbV (zden (L + 1) 142 0 [some (.ref 48), some (.int s0), none] [] M) (fun M1 => some (some (.int (M1 49 0)), M1)) :=
  zd_cv zf_171 rfl rfl rfl rfl (fun M1 => (zd_w zf_171 7 4 rfl).trans
  (zd_ri zf_171 rfl zr_171 rfl))
theorem e176_0 (L : Nat) (v1 : Int32) (v2 : Int32) (v3 : Int32) (v4 : Int32) (M : zM) : zden (L + 1) 176 0 [some (.ref 48), some (.int v1), some (.int v2), some (.int v3), some (.int v4), none] [] M =
  zbI (zden (L + 1) 160 0 [some (.ref 48), some (.int v1)] [] M) (fun r1 M1 => if r1 = 0 then (zden (L + 1) 176 33 [some (.ref 48), some (.int v1), some (.int v2), some (.int v3), some (.int v4), none] [] M1) else (zbI (zden (L + 1) 143 0 [some (.long v2.toInt64), none, some (.long 0), none, some (.long 2), none] [] M1) (fun r2 M2 => if r2 = 0 then (zden (L + 1) 176 33 [some (.ref 48), some (.int v1), some (.int v2), some (.int v3), some (.int v4), none] [] M2) else (zbI (zden (L + 1) 143 0 [some (.long v4.toInt64), none, some (.long 0), none, some (.long 2), none] [] M2) (fun r3 M3 => if r3 = 0 then (zden (L + 1) 176 33 [some (.ref 48), some (.int v1), some (.int v2), some (.int v3), some (.int v4), none] [] M3) else (zbI (zden (L + 1) 163 0 [some (.ref 48)] [] M3) (fun r4 M4 => zbI (zden (L + 1) 173 0 [some (.ref 48), some (.int v1), some (.int v2), some (.int v3), some (.int r4), none, none, none] [] M4) (fun r5 M5 => if r5 < 0 then (zden (L + 1) 176 88 [some (.ref 48), some (.int v1), some (.int v2), some (.int v3), some (.int v4), some (.int r5)] [.int (-2)] M5) else (if v4 = 0 then (zden (L + 1) 176 88 [some (.ref 48), some (.int v1), some (.int v2), some (.int v3), some (.int v4), some (.int r5)] [.int r5] M5) else (if v4 = 1 then (zbI (zden (L + 1) 174 0 [some (.ref 48), some (.int v1), some (.int v2), some (.int v3), none] [] M5) (fun r7 M7 => zden (L + 1) 176 88 [some (.ref 48), some (.int v1), some (.int v2), some (.int v3), some (.int v4), some (.int r5)] [.int r7] M7)) else (zbI (zden (L + 1) 175 0 [some (.int v2)] [] M5) (fun r6 M6 => zden (L + 1) 176 88 [some (.ref 48), some (.int v1), some (.int v2), some (.int v3), some (.int v4), some (.int r5)] [.int r6] M6)))))))))))) :=
  (zd_w zf_176 0 2 rfl).trans
  (zd_ci zf_176 rfl rfl rfl rfl (fun r1 M1 => zd_eq0 zf_176 rfl (rfl) ((zd_w zf_176 4 4 rfl).trans
  (zd_ci zf_176 rfl rfl rfl rfl (fun r2 M2 => zd_eq0 zf_176 rfl (rfl) ((zd_w zf_176 10 4 rfl).trans
  (zd_ci zf_176 rfl rfl rfl rfl (fun r3 M3 => zd_ne0 zf_176 rfl ((zd_w zf_176 18 5 rfl).trans
  (zd_ci zf_176 rfl rfl rfl rfl (fun r4 M4 => zd_ci zf_176 rfl rfl rfl rfl (fun r5 M5 => (zd_w zf_176 25 2 rfl).trans
  (zd_ge0 zf_176 rfl ((zd_w zf_176 30 1 rfl).trans
  (zd_ne0 zf_176 rfl ((zd_w zf_176 34 2 rfl).trans
  (zd_ne zf_176 rfl ((zd_w zf_176 43 1 rfl).trans
  (zd_ci zf_176 rfl rfl rfl rfl (fun r6 M6 => rfl))) ((zd_w zf_176 37 4 rfl).trans
  (zd_ci zf_176 rfl rfl rfl rfl (fun r7 M7 => zd_goto zf_176 rfl (rfl)))))) ((zd_w zf_176 32 1 rfl).trans
  (zd_goto zf_176 rfl (rfl))))) ((zd_w zf_176 28 1 rfl).trans
  (zd_goto zf_176 rfl (rfl)))))))) (rfl)))))))))
theorem e176_33 (L : Nat) (o0 : Option Value) (o1 : Option Value) (o2 : Option Value) (o3 : Option Value) (o4 : Option Value) (o5 : Option Value) (M : zM) : zden (L + 1) 176 33 [o0, o1, o2, o3, o4, o5] [] M =
  some (some (.int (-1)), M) :=
  (zd_w zf_176 16 1 rfl).trans
  (zd_ri zf_176 rfl zr_176 rfl)
theorem e176_88 (L : Nat) (o0 : Option Value) (o1 : Option Value) (o2 : Option Value) (o3 : Option Value) (o4 : Option Value) (o5 : Option Value) (s0 : Int32) (M : zM) : zden (L + 1) 176 88 [o0, o1, o2, o3, o4, o5] [.int s0] M =
  some (some (.int s0), M) :=
  zd_ri zf_176 rfl zr_176 rfl
theorem e181_0 (L : Nat) (v1 : Int32) (M : zM) : zden (L + 1) 181 0 [some (.ref 48), some (.int v1)] [] M =
  zbI (zden (L + 1) 143 0 [some (.long v1.toInt64), none, some (.long 0), none, some (.long 2), none] [] M) (fun r1 M1 => if r1 = 0 then (some (some (.int (-1)), M1)) else (zbV (zden (L + 1) 177 0 [some (.ref 48), some (.ref 52), some (.int 0), some (.ref 57), some (.int 0), none] [] M1) (fun M2 => zbI (zden (L + 1) 179 0 [some (.ref 48), some (.ref 57), some (.int v1), none, none, none, none] [] M2) (fun r3 M3 => if r3 = 0 then (some (some (.int (-2)), M3)) else (zbV (zden (L + 1) 180 0 [some (.ref 48), none] [] M3) (fun M4 => some (some (.int (M4 52 0)), M4))))))) :=
  (zd_w zf_181 0 4 rfl).trans
  (zd_ci zf_181 rfl rfl rfl rfl (fun r1 M1 => zd_ne0 zf_181 rfl ((zd_w zf_181 8 7 rfl).trans
  (zd_cv zf_181 rfl rfl rfl rfl (fun M2 => (zd_w zf_181 16 4 rfl).trans
  (zd_ci zf_181 rfl rfl rfl rfl (fun r3 M3 => zd_ne0 zf_181 rfl ((zd_w zf_181 24 1 rfl).trans
  (zd_cv zf_181 rfl rfl rfl rfl (fun M4 => (zd_w zf_181 26 4 rfl).trans
  (zd_ri zf_181 rfl zr_181 rfl)))) ((zd_w zf_181 22 1 rfl).trans
  (zd_ri zf_181 rfl zr_181 rfl))))))) ((zd_w zf_181 6 1 rfl).trans
  (zd_ri zf_181 rfl zr_181 rfl))))
theorem e183_0 (L : Nat)  (M : zM) : zden (L + 1) 183 0 [some (.ref 48)] [] M =
  zbV (zden (L + 1) 177 0 [some (.ref 48), some (.ref 52), some (.int 0), some (.ref 57), some (.int 0), none] [] M) (fun M1 => zbI (zden (L + 1) 182 0 [some (.ref 48), some (.ref 57)] [] M1) (fun r2 M2 => if r2 = 0 then (some (some (.int (-2)), M2)) else (zbV (zden (L + 1) 180 0 [some (.ref 48), none] [] M2) (fun M3 => some (some (.int (M3 52 2)), M3))))) :=
  (zd_w zf_183 0 7 rfl).trans
  (zd_cv zf_183 rfl rfl rfl rfl (fun M1 => (zd_w zf_183 8 3 rfl).trans
  (zd_ci zf_183 rfl rfl rfl rfl (fun r2 M2 => zd_ne0 zf_183 rfl ((zd_w zf_183 15 1 rfl).trans
  (zd_cv zf_183 rfl rfl rfl rfl (fun M3 => (zd_w zf_183 17 4 rfl).trans
  (zd_ri zf_183 rfl zr_183 rfl)))) ((zd_w zf_183 13 1 rfl).trans
  (zd_ri zf_183 rfl zr_183 rfl))))))
theorem e184_0 (L : Nat)  (M : zM) : zden (L + 1) 184 0 [some (.ref 48)] [] M =
  if (M 48 6) = 0 then (some (some (.int (-2)), M)) else (zbV (zden (L + 1) 177 0 [some (.ref 48), some (.ref 53), some (.int (6 * ((zput M 48 6 ((M 48 6) - 1)) 48 6))), some (.ref 52), some (.int 0), none] [] (zput M 48 6 ((M 48 6) - 1))) (fun M1 => some (some (.int (M1 48 6)), M1))) :=
  (zd_w zf_184 0 2 rfl).trans
  (zd_ne0 zf_184 rfl ((zd_w zf_184 5 16 rfl).trans
  (zd_cv zf_184 rfl rfl rfl rfl (fun M1 => (zd_w zf_184 22 2 rfl).trans
  (zd_ri zf_184 rfl zr_184 rfl)))) ((zd_w zf_184 3 1 rfl).trans
  (zd_ri zf_184 rfl zr_184 rfl)))
theorem e185_0 (L : Nat) (v1 : Int32) (M : zM) : zden (L + 1) 185 0 [some (.ref 48), some (.int v1)] [] M =
  zbI (zden (L + 1) 143 0 [some (.long v1.toInt64), none, some (.long 0), none, some (.long 5), none] [] M) (fun r1 M1 => if r1 = 0 then (zden (L + 1) 185 22 [some (.ref 48), some (.int v1)] [.int (-1)] M1) else (if zinb v1 6 = true then (zden (L + 1) 185 22 [some (.ref 48), some (.int v1)] [.int (M1 52 v1.toNatClampNeg)] M1) else none)) :=
  (zd_w zf_185 0 4 rfl).trans
  (zd_ci zf_185 rfl rfl rfl rfl (fun r1 M1 => zd_eq0 zf_185 rfl ((zd_w zf_185 11 1 rfl)) ((zd_w zf_185 6 3 rfl).trans
  (zd_ld zf_185 rfl rfl (zd_goto zf_185 rfl (rfl))))))
theorem e185_22 (L : Nat) (o0 : Option Value) (o1 : Option Value) (s0 : Int32) (M : zM) : zden (L + 1) 185 22 [o0, o1] [.int s0] M =
  some (some (.int s0), M) :=
  zd_ri zf_185 rfl zr_185 rfl
theorem e186_0 (L : Nat) (v1 : Int32) (M : zM) : zden (L + 1) 186 0 [some (.ref 48), some (.int v1)] [] M =
  zbI (zden (L + 1) 143 0 [some (.long v1.toInt64), none, some (.long 0), none, some (.long 3), none] [] M) (fun r1 M1 => if r1 = 0 then (some (some (.int (-1)), M1)) else (if (M1 48 8) = 20 then (some (some (.int (-3)), M1)) else (if zinb (M1 48 8) 20 = true then (some (some (.int ((zput (zput M1 54 (M1 48 8).toNatClampNeg v1) 48 8 (((zput M1 54 (M1 48 8).toNatClampNeg v1) 48 8) + 1)) 48 8)), zput (zput M1 54 (M1 48 8).toNatClampNeg v1) 48 8 (((zput M1 54 (M1 48 8).toNatClampNeg v1) 48 8) + 1))) else none))) :=
  (zd_w zf_186 0 4 rfl).trans
  (zd_ci zf_186 rfl rfl rfl rfl (fun r1 M1 => zd_ne0 zf_186 rfl ((zd_w zf_186 8 3 rfl).trans
  (zd_ne zf_186 rfl ((zd_w zf_186 14 5 rfl).trans
  (zd_st zf_186 rfl rfl rfl ((zd_w zf_186 20 8 rfl).trans
  (zd_ri zf_186 rfl zr_186 rfl)))) ((zd_w zf_186 12 1 rfl).trans
  (zd_ri zf_186 rfl zr_186 rfl)))) ((zd_w zf_186 6 1 rfl).trans
  (zd_ri zf_186 rfl zr_186 rfl))))
theorem e187_0 (L : Nat)  (M : zM) : zden (L + 1) 187 0 [some (.ref 48), none] [] M =
  some (some (.int (M 48 8)), zput M 48 8 0) :=
  (zd_w zf_187 0 7 rfl).trans
  (zd_ri zf_187 rfl zr_187 rfl)
theorem e188_0 (L : Nat)  (M : zM) : zden (L + 1) 188 0 [some (.ref 48), none, none] [] M =
  zbV (zden (L + 1) 177 0 [some (.ref 48), some (.ref 52), some (.int 0), some (.ref 57), some (.int 0), none] [] M) (fun M1 => zden (L + 1) 188 16 [some (.ref 48), some (.int 0), none] [] M1) :=
  (zd_w zf_188 0 7 rfl).trans
  (zd_cv zf_188 rfl rfl rfl rfl (fun M1 => (zd_w zf_188 8 2 rfl)))
theorem e188_16 (L : Nat) (v1 : Int32) (o2 : Option Value) (M : zM) : zden (L + 1) 188 16 [some (.ref 48), some (.int v1), o2] [] M =
  if v1 < (M 48 8) then (if zinb v1 20 = true then (if (M 54 v1.toNatClampNeg) = 3 then (zbI (zden (L + 1) 182 0 [some (.ref 48), some (.ref 57)] [] M) (fun r2 M2 => zden (L + 1) 188 59 [some (.ref 48), some (.int v1), o2] [.int r2] M2)) else (if zinb v1 20 = true then (zbI (zden (L + 1) 179 0 [some (.ref 48), some (.ref 57), some (.int (M 54 v1.toNatClampNeg)), none, none, none, none] [] M) (fun r1 M1 => zden (L + 1) 188 59 [some (.ref 48), some (.int v1), o2] [.int r1] M1)) else none)) else none) else (some (some (.int (-4)), M)) :=
  (zd_w zf_188 10 3 rfl).trans
  (zd_ge zf_188 rfl ((zd_w zf_188 40 1 rfl).trans
  (zd_ri zf_188 rfl zr_188 rfl)) ((zd_w zf_188 14 3 rfl).trans
  (zd_ld zf_188 rfl rfl ((zd_w zf_188 18 1 rfl).trans
  (zd_ne zf_188 rfl ((zd_w zf_188 25 6 rfl).trans
  (zd_ld zf_188 rfl rfl (zd_ci zf_188 rfl rfl rfl rfl (fun r1 M1 => rfl)))) ((zd_w zf_188 20 3 rfl).trans
  (zd_ci zf_188 rfl rfl rfl rfl (fun r2 M2 => zd_goto zf_188 rfl (rfl)))))))))
theorem e188_59 (L : Nat) (v1 : Int32) (o2 : Option Value) (s0 : Int32) (M : zM) : zden (L + 1) 188 59 [some (.ref 48), some (.int v1), o2] [.int s0] M =
  if s0 = 0 then (some (some (.int v1), M)) else (zden (L + 1) 188 16 [some (.ref 48), some (.int (v1 + 1)), some (.int s0)] [] M) :=
  (zd_w zf_188 33 2 rfl).trans
  (zd_ne0 zf_188 rfl ((zd_w zf_188 38 1 rfl).trans
  (zd_goto zf_188 rfl (rfl))) ((zd_w zf_188 36 1 rfl).trans
  (zd_ri zf_188 rfl zr_188 rfl)))
theorem e193_0 (L : Nat) (v1 : Int32) (v2 : Int32) (v3 : Int32) (M : zM) : zden (L + 1) 193 0 [some (.ref 48), some (.int v1), some (.int v2), some (.int v3), none, none] [] M =
  zbI (zden (L + 1) 143 0 [some (.long v1.toInt64), none, some (.long 0), none, some (.long 3), none] [] M) (fun r1 M1 => if r1 = 0 then (zden (L + 1) 193 19 [some (.ref 48), some (.int v1), some (.int v2), some (.int v3), none, none] [] M1) else (zbI (zden (L + 1) 161 0 [some (.int v3)] [] M1) (fun r2 M2 => if r2 = 0 then (zden (L + 1) 193 19 [some (.ref 48), some (.int v1), some (.int v2), some (.int v3), none, none] [] M2) else (zbI (zden (L + 1) 163 0 [some (.ref 48)] [] M2) (fun r3 M3 => zbI (zden (L + 1) 192 0 [some (.ref 48), some (.int v1), some (.int v2), some (.int r3), none, none, none, none, none, none, none] [] M3) (fun r4 M4 => if r4 = 1000000 then (some (some (.int (-4)), M4)) else (zden (L + 1) 193 46 [some (.ref 48), some (.int v1), some (.int v2), some (.int v3), some (.int r4), some (.int 0)] [] M4))))))) :=
  (zd_w zf_193 0 4 rfl).trans
  (zd_ci zf_193 rfl rfl rfl rfl (fun r1 M1 => zd_eq0 zf_193 rfl (rfl) ((zd_w zf_193 6 1 rfl).trans
  (zd_ci zf_193 rfl rfl rfl rfl (fun r2 M2 => zd_ne0 zf_193 rfl ((zd_w zf_193 11 4 rfl).trans
  (zd_ci zf_193 rfl rfl rfl rfl (fun r3 M3 => zd_ci zf_193 rfl rfl rfl rfl (fun r4 M4 => (zd_w zf_193 17 3 rfl).trans
  (zd_ne zf_193 rfl ((zd_w zf_193 23 2 rfl)) ((zd_w zf_193 21 1 rfl).trans
  (zd_ri zf_193 rfl zr_193 rfl))))))) (rfl))))))
theorem e193_19 (L : Nat) (o0 : Option Value) (o1 : Option Value) (o2 : Option Value) (o3 : Option Value) (o4 : Option Value) (o5 : Option Value) (M : zM) : zden (L + 1) 193 19 [o0, o1, o2, o3, o4, o5] [] M =
  some (some (.int (-1)), M) :=
  (zd_w zf_193 9 1 rfl).trans
  (zd_ri zf_193 rfl zr_193 rfl)
theorem e193_46 (L : Nat) (v1 : Int32) (v2 : Int32) (v3 : Int32) (v4 : Int32) (v5 : Int32) (M : zM) : zden (L + 1) 193 46 [some (.ref 48), some (.int v1), some (.int v2), some (.int v3), some (.int v4), some (.int v5)] [] M =
  zbI (zden (L + 1) 163 0 [some (.ref 48)] [] M) (fun r1 M1 => zbI (zden (L + 1) 190 0 [some (.ref 48), some (.int v1), some (.int 0), some (.int v5), some (.int (M 49 11)), some (.int v2), some (.int r1), none, none, none, none] [] M1) (fun r2 M2 => if r2 = v4 then (if v3 = 0 then (zden (L + 1) 193 88 [some (.ref 48), some (.int v1), some (.int v2), some (.int v3), some (.int v4), some (.int v5)] [.int v4] M2) else (zden (L + 1) 193 88 [some (.ref 48), some (.int v1), some (.int v2), some (.int v3), some (.int v4), some (.int v5)] [.int v5] M2)) else (zden (L + 1) 193 46 [some (.ref 48), some (.int v1), some (.int v2), some (.int v3), some (.int v4), some (.int (v5 + 1))] [] M2))) :=
  (zd_w zf_193 25 10 rfl).trans
  (zd_ci zf_193 rfl rfl rfl rfl (fun r1 M1 => zd_ci zf_193 rfl rfl rfl rfl (fun r2 M2 => (zd_w zf_193 37 1 rfl).trans
  (zd_eq zf_193 rfl ((zd_w zf_193 41 1 rfl).trans
  (zd_ne0 zf_193 rfl ((zd_w zf_193 45 1 rfl)) ((zd_w zf_193 43 1 rfl).trans
  (zd_goto zf_193 rfl (rfl))))) ((zd_w zf_193 39 1 rfl).trans
  (zd_goto zf_193 rfl (rfl)))))))
theorem e193_88 (L : Nat) (o0 : Option Value) (o1 : Option Value) (o2 : Option Value) (o3 : Option Value) (o4 : Option Value) (o5 : Option Value) (s0 : Int32) (M : zM) : zden (L + 1) 193 88 [o0, o1, o2, o3, o4, o5] [.int s0] M =
  some (some (.int s0), M) :=
  zd_ri zf_193 rfl zr_193 rfl
set_option maxRecDepth 20000 in
theorem e195_0 (L : Nat) (v1 : Int32) (M : zM) : zden (L + 1) 195 0 [some (.ref 48), some (.int v1), none, none, none, none, none] [] M =
  zden (L + 1) 195 10 [some (.ref 48), some (.int v1), some (.int (M 49 11)), some (.int 0), none, none, none] [] M :=
  (zd_w zf_195 0 7 rfl)
set_option maxRecDepth 20000 in
theorem e195_10 (L : Nat) (v1 : Int32) (v2 : Int32) (v3 : Int32) (o4 : Option Value) (o5 : Option Value) (o6 : Option Value) (M : zM) : zden (L + 1) 195 10 [some (.ref 48), some (.int v1), some (.int v2), some (.int v3), o4, o5, o6] [] M =
  if v3 < 72100 then (if zinb v3 72100 = true then (zden (L + 1) 195 10 [some (.ref 48), some (.int v1), some (.int v2), some (.int (v3 + 1)), o4, o5, o6] [] (zput M 59 v3.toNatClampNeg 1000000)) else none) else (if zinb (721 * v2) 72100 = true then (zden (L + 1) 195 43 [some (.ref 48), some (.int v1), some (.int v2), some (.int 0), o4, o5, o6] [] (zput M 59 (721 * v2).toNatClampNeg 0)) else none) :=
  (zd_w zf_195 7 2 rfl).trans
  (zd_ge zf_195 rfl ((zd_w zf_195 17 6 rfl).trans
  (zd_st zf_195 rfl rfl rfl ((zd_w zf_195 24 2 rfl)))) ((zd_w zf_195 10 4 rfl).trans
  (zd_st zf_195 rfl rfl rfl ((zd_w zf_195 15 1 rfl).trans
  (zd_goto zf_195 rfl (rfl))))))
set_option maxRecDepth 20000 in
theorem e195_43 (L : Nat) (v1 : Int32) (v2 : Int32) (v3 : Int32) (o4 : Option Value) (o5 : Option Value) (o6 : Option Value) (M : zM) : zden (L + 1) 195 43 [some (.ref 48), some (.int v1), some (.int v2), some (.int v3), o4, o5, o6] [] M =
  if v3 < (M 49 0) then (zden (L + 1) 195 56 [some (.ref 48), some (.int v1), some (.int v2), some (.int v3), some (.int 0), o5, o6] [] M) else (zden (L + 1) 195 233 [some (.ref 48), some (.int v1), some (.int v2), some (.int 1000000), some (.int 0), o5, o6] [] M) :=
  (zd_w zf_195 26 5 rfl).trans
  (zd_ge zf_195 rfl ((zd_w zf_195 121 4 rfl)) ((zd_w zf_195 32 2 rfl)))
set_option maxRecDepth 20000 in
theorem e195_233 (L : Nat) (o1 : Option Value) (o2 : Option Value) (v3 : Int32) (v4 : Int32) (o5 : Option Value) (o6 : Option Value) (M : zM) : zden (L + 1) 195 233 [some (.ref 48), o1, o2, some (.int v3), some (.int v4), o5, o6] [] M =
  if v4 < 72100 then (if zinb v4 72100 = true then (if (M 59 v4.toNatClampNeg) < v3 then (if zinb v4 72100 = true then (zden (L + 1) 195 262 [some (.ref 48), o1, o2, some (.int v3), some (.int v4), o5, o6] [.int (M 59 v4.toNatClampNeg)] M) else none) else (zden (L + 1) 195 262 [some (.ref 48), o1, o2, some (.int v3), some (.int v4), o5, o6] [.int v3] M)) else none) else (if v3 = 1000000 then (zden (L + 1) 195 281 [some (.ref 48), o1, o2, some (.int v3), some (.int v4), o5, o6] [.int (-4)] M) else (zden (L + 1) 195 281 [some (.ref 48), o1, o2, some (.int v3), some (.int v4), o5, o6] [.int v3] M)) :=
  (zd_w zf_195 125 2 rfl).trans
  (zd_ge zf_195 rfl ((zd_w zf_195 143 2 rfl).trans
  (zd_ne zf_195 rfl ((zd_w zf_195 148 1 rfl)) ((zd_w zf_195 146 1 rfl).trans
  (zd_goto zf_195 rfl (rfl))))) ((zd_w zf_195 128 3 rfl).trans
  (zd_ld zf_195 rfl rfl ((zd_w zf_195 132 1 rfl).trans
  (zd_ge zf_195 rfl ((zd_w zf_195 139 1 rfl)) ((zd_w zf_195 134 3 rfl).trans
  (zd_ld zf_195 rfl rfl (zd_goto zf_195 rfl (rfl)))))))))
set_option maxRecDepth 20000 in
theorem e195_56 (L : Nat) (v1 : Int32) (v2 : Int32) (v3 : Int32) (v4 : Int32) (o5 : Option Value) (o6 : Option Value) (M : zM) : zden (L + 1) 195 56 [some (.ref 48), some (.int v1), some (.int v2), some (.int v3), some (.int v4), o5, o6] [] M =
  if v4 < (721 * v2) then (if 0 < v3 then (if zinb v4 72100 = true then (if zinb ((721 * v2) + (v4 - v4 / 721 * 721)) 72100 = true then (if ((M 59 v4.toNatClampNeg) + (M 49 12)) < (M 59 ((721 * v2) + (v4 - v4 / 721 * 721)).toNatClampNeg) then (zden (L + 1) 195 131 [some (.ref 48), some (.int v1), some (.int v2), some (.int v3), some (.int v4), some (.int ((M 59 v4.toNatClampNeg) + (M 49 12))), some (.int ((721 * v2) + (v4 - v4 / 721 * 721)))] [.int ((M 59 v4.toNatClampNeg) + (M 49 12)), .int ((721 * v2) + (v4 - v4 / 721 * 721)), .ref 59] M) else (if zinb ((721 * v2) + (v4 - v4 / 721 * 721)) 72100 = true then (zden (L + 1) 195 131 [some (.ref 48), some (.int v1), some (.int v2), some (.int v3), some (.int v4), some (.int ((M 59 v4.toNatClampNeg) + (M 49 12))), some (.int ((721 * v2) + (v4 - v4 / 721 * 721)))] [.int (M 59 ((721 * v2) + (v4 - v4 / 721 * 721)).toNatClampNeg), .int ((721 * v2) + (v4 - v4 / 721 * 721)), .ref 59] M) else none)) else none) else none) else (zden (L + 1) 195 138 [some (.ref 48), some (.int v1), some (.int v2), some (.int v3), some (.int v4), o5, o6] [] M)) else (zden (L + 1) 195 138 [some (.ref 48), some (.int v1), some (.int v2), some (.int v3), some (.int v4), o5, o6] [] M) :=
  (zd_w zf_195 34 4 rfl).trans
  (zd_ge zf_195 rfl (rfl) ((zd_w zf_195 39 1 rfl).trans
  (zd_le0 zf_195 rfl (rfl) ((zd_w zf_195 41 3 rfl).trans
  (zd_ld zf_195 rfl rfl ((zd_w zf_195 45 21 rfl).trans
  (zd_ld zf_195 rfl rfl (zd_ge zf_195 rfl ((zd_w zf_195 70 3 rfl).trans
  (zd_ld zf_195 rfl rfl (rfl))) ((zd_w zf_195 68 1 rfl).trans
  (zd_goto zf_195 rfl (rfl)))))))))))
set_option maxRecDepth 20000 in
theorem e195_281 (L : Nat) (o0 : Option Value) (o1 : Option Value) (o2 : Option Value) (o3 : Option Value) (o4 : Option Value) (o5 : Option Value) (o6 : Option Value) (s0 : Int32) (M : zM) : zden (L + 1) 195 281 [o0, o1, o2, o3, o4, o5, o6] [.int s0] M =
  some (some (.int s0), M) :=
  zd_ri zf_195 rfl zr_195 rfl
set_option maxRecDepth 20000 in
theorem e195_262 (L : Nat) (o1 : Option Value) (o2 : Option Value) (o3 : Option Value) (v4 : Int32) (o5 : Option Value) (o6 : Option Value) (s0 : Int32) (M : zM) : zden (L + 1) 195 262 [some (.ref 48), o1, o2, o3, some (.int v4), o5, o6] [.int s0] M =
  zden (L + 1) 195 233 [some (.ref 48), o1, (zkl o2), some (.int s0), some (.int (v4 + 1)), o5, o6] [] M :=
  (zd_w zf_195 140 2 rfl).trans
  (zd_goto zf_195 rfl (rfl))
set_option maxRecDepth 20000 in
theorem e195_138 (L : Nat) (v1 : Int32) (v2 : Int32) (v3 : Int32) (o4 : Option Value) (o5 : Option Value) (o6 : Option Value) (M : zM) : zden (L + 1) 195 138 [some (.ref 48), some (.int v1), some (.int v2), some (.int v3), o4, o5, o6] [] M =
  zden (L + 1) 195 141 [some (.ref 48), some (.int v1), some (.int v2), some (.int v3), some (.int 0), o5, o6] [] M :=
  (zd_w zf_195 77 2 rfl)
set_option maxRecDepth 20000 in
theorem e195_131 (L : Nat) (v1 : Int32) (v2 : Int32) (v3 : Int32) (v4 : Int32) (o5 : Option Value) (o6 : Option Value) (s0 : Int32) (s1 : Int32) (M : zM) : zden (L + 1) 195 131 [some (.ref 48), some (.int v1), some (.int v2), some (.int v3), some (.int v4), o5, o6] [.int s0, .int s1, .ref 59] M =
  if zinb s1 72100 = true then (zden (L + 1) 195 56 [some (.ref 48), some (.int v1), some (.int v2), some (.int v3), some (.int (v4 + 1)), o5, o6] [] (zput M 59 s1.toNatClampNeg s0)) else none :=
  zd_st zf_195 rfl rfl rfl ((zd_w zf_195 75 1 rfl).trans
  (zd_goto zf_195 rfl (rfl)))
set_option maxRecDepth 20000 in
theorem e195_141 (L : Nat) (v1 : Int32) (v2 : Int32) (v3 : Int32) (v4 : Int32) (o5 : Option Value) (o6 : Option Value) (M : zM) : zden (L + 1) 195 141 [some (.ref 48), some (.int v1), some (.int v2), some (.int v3), some (.int v4), o5, o6] [] M =
  if v4 < 72100 then (if zinb v4 72100 = true then (zden (L + 1) 195 141 [some (.ref 48), some (.int v1), some (.int v2), some (.int v3), some (.int (v4 + 1)), o5, o6] [] (zput M 60 v4.toNatClampNeg 1000000)) else none) else (zden (L + 1) 195 166 [some (.ref 48), some (.int v1), some (.int v2), some (.int v3), some (.int 0), o5, o6] [] M) :=
  (zd_w zf_195 79 2 rfl).trans
  (zd_ge zf_195 rfl ((zd_w zf_195 89 2 rfl)) ((zd_w zf_195 82 4 rfl).trans
  (zd_st zf_195 rfl rfl rfl ((zd_w zf_195 87 1 rfl).trans
  (zd_goto zf_195 rfl (rfl))))))
set_option maxRecDepth 20000 in
theorem e195_166 (L : Nat) (v1 : Int32) (v2 : Int32) (v3 : Int32) (v4 : Int32) (o5 : Option Value) (o6 : Option Value) (M : zM) : zden (L + 1) 195 166 [some (.ref 48), some (.int v1), some (.int v2), some (.int v3), some (.int v4), o5, o6] [] M =
  if v4 < 3 then (zbI (zden (L + 1) 178 0 [some (.ref 48), some (.int v3), some (.int v1)] [] M) (fun r1 M1 => zbV (zden (L + 1) 194 0 [some (.ref 48), some (.int r1), some (.int v4), some (.int v1), none, none, none, none, none, none, none] [] M1) (fun M2 => zden (L + 1) 195 166 [some (.ref 48), some (.int v1), some (.int v2), some (.int v3), some (.int (v4 + 1)), o5, o6] [] M2))) else (zden (L + 1) 195 194 [some (.ref 48), some (.int v1), some (.int v2), some (.int v3), some (.int 0), o5, o6] [] M) :=
  (zd_w zf_195 91 2 rfl).trans
  (zd_ge zf_195 rfl ((zd_w zf_195 104 2 rfl)) ((zd_w zf_195 94 4 rfl).trans
  (zd_ci zf_195 rfl rfl rfl rfl (fun r1 M1 => (zd_w zf_195 99 2 rfl).trans
  (zd_cv zf_195 rfl rfl rfl rfl (fun M2 => (zd_w zf_195 102 1 rfl).trans
  (zd_goto zf_195 rfl (rfl))))))))
set_option maxRecDepth 20000 in
theorem e195_194 (L : Nat) (v1 : Int32) (v2 : Int32) (v3 : Int32) (v4 : Int32) (o5 : Option Value) (o6 : Option Value) (M : zM) : zden (L + 1) 195 194 [some (.ref 48), some (.int v1), some (.int v2), some (.int v3), some (.int v4), o5, o6] [] M =
  if v4 < 72100 then (if zinb v4 72100 = true then (if zinb v4 72100 = true then (zden (L + 1) 195 194 [some (.ref 48), some (.int v1), some (.int v2), some (.int v3), some (.int (v4 + 1)), o5, o6] [] (zput M 59 v4.toNatClampNeg (M 60 v4.toNatClampNeg))) else none) else none) else (zden (L + 1) 195 43 [some (.ref 48), some (.int v1), some (.int v2), some (.int (v3 + 1)), some (.int v4), o5, o6] [] M) :=
  (zd_w zf_195 106 2 rfl).trans
  (zd_ge zf_195 rfl ((zd_w zf_195 119 1 rfl).trans
  (zd_goto zf_195 rfl (rfl))) ((zd_w zf_195 109 6 rfl).trans
  (zd_ld zf_195 rfl rfl (zd_st zf_195 rfl rfl rfl ((zd_w zf_195 117 1 rfl).trans
  (zd_goto zf_195 rfl (rfl)))))))
theorem e198_0 (L : Nat) (v1 : Int32) (v2 : Int32) (M : zM) : zden (L + 1) 198 0 [some (.ref 48), some (.int v1), some (.int v2), none, none] [] M =
  zbI (zden (L + 1) 165 0 [some (.ref 48), some (.int v1)] [] M) (fun r1 M1 => if r1 = 0 then (zden (L + 1) 198 15 [some (.ref 48), some (.int v1), some (.int v2), none, none] [] M1) else (zbI (zden (L + 1) 161 0 [some (.int v2)] [] M1) (fun r2 M2 => if r2 = 0 then (zden (L + 1) 198 15 [some (.ref 48), some (.int v1), some (.int v2), none, none] [] M2) else (zbI (zden (L + 1) 197 0 [some (.ref 48), some (.int v1)] [] M2) (fun r3 M3 => zbI (zden (L + 1) 196 0 [some (.ref 48), some (.int v1), some (.int r3), none, none, none, none, none, none, none] [] M3) (fun r4 M4 => if 100 < r4 then (zden (L + 1) 198 53 [some (.ref 48), some (.int v1), some (.int v2), some (.int r3), some (.int r4)] [.int (-4)] M4) else (if v2 = 0 then (zden (L + 1) 198 53 [some (.ref 48), some (.int v1), some (.int v2), some (.int r3), some (.int r4)] [.int r3] M4) else (zden (L + 1) 198 53 [some (.ref 48), some (.int v1), some (.int v2), some (.int r3), some (.int r4)] [.int r4] M4)))))))) :=
  (zd_w zf_198 0 2 rfl).trans
  (zd_ci zf_198 rfl rfl rfl rfl (fun r1 M1 => zd_eq0 zf_198 rfl (rfl) ((zd_w zf_198 4 1 rfl).trans
  (zd_ci zf_198 rfl rfl rfl rfl (fun r2 M2 => zd_ne0 zf_198 rfl ((zd_w zf_198 9 2 rfl).trans
  (zd_ci zf_198 rfl rfl rfl rfl (fun r3 M3 => (zd_w zf_198 12 4 rfl).trans
  (zd_ci zf_198 rfl rfl rfl rfl (fun r4 M4 => (zd_w zf_198 17 3 rfl).trans
  (zd_le zf_198 rfl ((zd_w zf_198 23 1 rfl).trans
  (zd_ne0 zf_198 rfl ((zd_w zf_198 27 1 rfl)) ((zd_w zf_198 25 1 rfl).trans
  (zd_goto zf_198 rfl (rfl))))) ((zd_w zf_198 21 1 rfl).trans
  (zd_goto zf_198 rfl (rfl))))))))) (rfl))))))
theorem e198_15 (L : Nat) (o0 : Option Value) (o1 : Option Value) (o2 : Option Value) (o3 : Option Value) (o4 : Option Value) (M : zM) : zden (L + 1) 198 15 [o0, o1, o2, o3, o4] [] M =
  some (some (.int (-1)), M) :=
  (zd_w zf_198 7 1 rfl).trans
  (zd_ri zf_198 rfl zr_198 rfl)
theorem e198_53 (L : Nat) (o0 : Option Value) (o1 : Option Value) (o2 : Option Value) (o3 : Option Value) (o4 : Option Value) (s0 : Int32) (M : zM) : zden (L + 1) 198 53 [o0, o1, o2, o3, o4] [.int s0] M =
  some (some (.int s0), M) :=
  zd_ri zf_198 rfl zr_198 rfl
theorem e199_0 (L : Nat)  (M : zM) : zden (L + 1) 199 0 [some (.ref 48), none, none, none, none] [] M =
  zden (L + 1) 199 8 [some (.ref 48), some (.int (-4)), some (.int 101), some (.int 0), none] [] M :=
  (zd_w zf_199 0 6 rfl)
theorem e199_8 (L : Nat) (v1 : Int32) (v2 : Int32) (v3 : Int32) (o4 : Option Value) (M : zM) : zden (L + 1) 199 8 [some (.ref 48), some (.int v1), some (.int v2), some (.int v3), o4] [] M =
  if v3 < (M 49 1) then (zbI (zden (L + 1) 197 0 [some (.ref 48), some (.int v3)] [] M) (fun r1 M1 => zbI (zden (L + 1) 196 0 [some (.ref 48), some (.int v3), some (.int r1), none, none, none, none, none, none, none] [] M1) (fun r2 M2 => if r2 < v2 then (zden (L + 1) 199 41 [some (.ref 48), some (.int v1), some (.int v2), some (.int v3), some (.int r2)] [.int v3] M2) else (zden (L + 1) 199 41 [some (.ref 48), some (.int v1), some (.int v2), some (.int v3), some (.int r2)] [.int v1] M2)))) else (some (some (.int v1), M)) :=
  (zd_w zf_199 6 5 rfl).trans
  (zd_ge zf_199 rfl ((zd_w zf_199 35 1 rfl).trans
  (zd_ri zf_199 rfl zr_199 rfl)) ((zd_w zf_199 12 4 rfl).trans
  (zd_ci zf_199 rfl rfl rfl rfl (fun r1 M1 => zd_ci zf_199 rfl rfl rfl rfl (fun r2 M2 => (zd_w zf_199 18 3 rfl).trans
  (zd_ge zf_199 rfl ((zd_w zf_199 24 1 rfl)) ((zd_w zf_199 22 1 rfl).trans
  (zd_goto zf_199 rfl (rfl)))))))))
theorem e199_41 (L : Nat) (o1 : Option Value) (v2 : Int32) (v3 : Int32) (v4 : Int32) (s0 : Int32) (M : zM) : zden (L + 1) 199 41 [some (.ref 48), o1, some (.int v2), some (.int v3), some (.int v4)] [.int s0] M =
  if v4 < v2 then (zden (L + 1) 199 54 [some (.ref 48), some (.int s0), some (.int v2), some (.int v3), some (.int v4)] [.int v4] M) else (zden (L + 1) 199 54 [some (.ref 48), some (.int s0), some (.int v2), some (.int v3), some (.int v4)] [.int v2] M) :=
  (zd_w zf_199 25 3 rfl).trans
  (zd_ge zf_199 rfl ((zd_w zf_199 31 1 rfl)) ((zd_w zf_199 29 1 rfl).trans
  (zd_goto zf_199 rfl (rfl))))
theorem e199_54 (L : Nat) (v1 : Int32) (o2 : Option Value) (v3 : Int32) (o4 : Option Value) (s0 : Int32) (M : zM) : zden (L + 1) 199 54 [some (.ref 48), some (.int v1), o2, some (.int v3), o4] [.int s0] M =
  zden (L + 1) 199 8 [some (.ref 48), some (.int v1), some (.int s0), some (.int (v3 + 1)), o4] [] M :=
  (zd_w zf_199 32 2 rfl).trans
  (zd_goto zf_199 rfl (rfl))
theorem e200_0 (L : Nat) (v1 : Int32) (v2 : Int32) (M : zM) : zden (L + 1) 200 0 [some (.ref 48), some (.int v1), some (.int v2), none, none, none, none, none, none, none, none, none, none] [] M =
  zbI (zden (L + 1) 165 0 [some (.ref 48), some (.int v1)] [] M) (fun r1 M1 => if r1 = 0 then (zden (L + 1) 200 15 [some (.ref 48), some (.int v1), some (.int v2), none, none, none, none, none, none, none, none, none, none] [] M1) else (zbI (zden (L + 1) 161 0 [some (.int v2)] [] M1) (fun r2 M2 => if r2 = 0 then (zden (L + 1) 200 15 [some (.ref 48), some (.int v1), some (.int v2), none, none, none, none, none, none, none, none, none, none] [] M2) else (zden (L + 1) 200 27 [some (.ref 48), some (.int v1), some (.int v2), some (.long 1), none, some (.long 1), none, some (.int 0), none, none, none, none, none] [] M2)))) :=
  (zd_w zf_200 0 2 rfl).trans
  (zd_ci zf_200 rfl rfl rfl rfl (fun r1 M1 => zd_eq0 zf_200 rfl (rfl) ((zd_w zf_200 4 1 rfl).trans
  (zd_ci zf_200 rfl rfl rfl rfl (fun r2 M2 => zd_ne0 zf_200 rfl ((zd_w zf_200 9 6 rfl)) (rfl))))))
