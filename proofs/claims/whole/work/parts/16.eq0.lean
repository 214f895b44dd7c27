theorem zd_no {L mi pc : Nat} {lc : zLo} {st : List Value} {M : zM} {l : List (Nat × zE)} (hz : zcode mi = l ∧ zsrt l 0 = true) (hf : zfetch l pc = none) : zden L mi pc lc st M = none := by
  cases h : zden L mi pc lc st M with
  | none => rfl
  | some r =>
    obtain ⟨n, hn⟩ := zden_iff.mp h
    cases n with
    | zero => simp [zrun] at hn
    | succ n => simp [zrun, hz.1, hf] at hn
theorem zf_0 : zcode 0 = zc_0 ∧ zsrt zc_0 0 = true := ⟨rfl, by decide +kernel⟩
theorem zr_0 : zret 0 = some .int := rfl
theorem zf_1 : zcode 1 = zc_1 ∧ zsrt zc_1 0 = true := ⟨rfl, by decide +kernel⟩
theorem zr_1 : zret 1 = some .int := rfl
theorem zf_2 : zcode 2 = zc_2 ∧ zsrt zc_2 0 = true := ⟨rfl, by decide +kernel⟩
theorem zr_2 : zret 2 = some .int := rfl
theorem zf_3 : zcode 3 = zc_3 ∧ zsrt zc_3 0 = true := ⟨rfl, by decide +kernel⟩
theorem zr_3 : zret 3 = some .int := rfl
theorem zf_4 : zcode 4 = zc_4 ∧ zsrt zc_4 0 = true := ⟨rfl, by decide +kernel⟩
theorem zr_4 : zret 4 = some .int := rfl
theorem zf_5 : zcode 5 = zc_5 ∧ zsrt zc_5 0 = true := ⟨rfl, by decide +kernel⟩
theorem zf_6 : zcode 6 = zc_6 ∧ zsrt zc_6 0 = true := ⟨rfl, by decide +kernel⟩
theorem zf_7 : zcode 7 = zc_7 ∧ zsrt zc_7 0 = true := ⟨rfl, by decide +kernel⟩
theorem zr_7 : zret 7 = some .int := rfl
theorem zf_8 : zcode 8 = zc_8 ∧ zsrt zc_8 0 = true := ⟨rfl, by decide +kernel⟩
theorem zr_8 : zret 8 = some .int := rfl
theorem zf_9 : zcode 9 = zc_9 ∧ zsrt zc_9 0 = true := ⟨rfl, by decide +kernel⟩
theorem zr_9 : zret 9 = some .int := rfl
theorem zf_10 : zcode 10 = zc_10 ∧ zsrt zc_10 0 = true := ⟨rfl, by decide +kernel⟩
theorem zr_10 : zret 10 = some .int := rfl
theorem zf_11 : zcode 11 = zc_11 ∧ zsrt zc_11 0 = true := ⟨rfl, by decide +kernel⟩
theorem zr_11 : zret 11 = some .int := rfl
theorem zf_12 : zcode 12 = zc_12 ∧ zsrt zc_12 0 = true := ⟨rfl, by decide +kernel⟩
theorem zr_12 : zret 12 = some .int := rfl
theorem zf_13 : zcode 13 = zc_13 ∧ zsrt zc_13 0 = true := ⟨rfl, by decide +kernel⟩
theorem zr_13 : zret 13 = some .int := rfl
theorem zf_14 : zcode 14 = zc_14 ∧ zsrt zc_14 0 = true := ⟨rfl, by decide +kernel⟩
theorem zf_15 : zcode 15 = zc_15 ∧ zsrt zc_15 0 = true := ⟨rfl, by decide +kernel⟩
theorem zf_16 : zcode 16 = zc_16 ∧ zsrt zc_16 0 = true := ⟨rfl, by decide +kernel⟩
theorem zf_17 : zcode 17 = zc_17 ∧ zsrt zc_17 0 = true := ⟨rfl, by decide +kernel⟩
theorem zr_17 : zret 17 = some .boolean := rfl
theorem zf_18 : zcode 18 = zc_18 ∧ zsrt zc_18 0 = true := ⟨rfl, by decide +kernel⟩
theorem zr_18 : zret 18 = some .boolean := rfl
theorem zf_19 : zcode 19 = zc_19 ∧ zsrt zc_19 0 = true := ⟨rfl, by decide +kernel⟩
theorem zf_20 : zcode 20 = zc_20 ∧ zsrt zc_20 0 = true := ⟨rfl, by decide +kernel⟩
theorem zr_20 : zret 20 = some .int := rfl
theorem zf_21 : zcode 21 = zc_21 ∧ zsrt zc_21 0 = true := ⟨rfl, by decide +kernel⟩
theorem zf_22 : zcode 22 = zc_22 ∧ zsrt zc_22 0 = true := ⟨rfl, by decide +kernel⟩
theorem zf_23 : zcode 23 = zc_23 ∧ zsrt zc_23 0 = true := ⟨rfl, by decide +kernel⟩
theorem zr_23 : zret 23 = some .int := rfl
theorem zf_24 : zcode 24 = zc_24 ∧ zsrt zc_24 0 = true := ⟨rfl, by decide +kernel⟩
theorem zr_24 : zret 24 = some .int := rfl
theorem zf_25 : zcode 25 = zc_25 ∧ zsrt zc_25 0 = true := ⟨rfl, by decide +kernel⟩
theorem zr_25 : zret 25 = some .int := rfl
theorem zf_26 : zcode 26 = zc_26 ∧ zsrt zc_26 0 = true := ⟨rfl, by decide +kernel⟩
theorem zr_26 : zret 26 = some .int := rfl
theorem zf_27 : zcode 27 = zc_27 ∧ zsrt zc_27 0 = true := ⟨rfl, by decide +kernel⟩
theorem zr_27 : zret 27 = some .int := rfl
theorem zf_28 : zcode 28 = zc_28 ∧ zsrt zc_28 0 = true := ⟨rfl, by decide +kernel⟩
theorem zr_28 : zret 28 = some .int := rfl
theorem zf_29 : zcode 29 = zc_29 ∧ zsrt zc_29 0 = true := ⟨rfl, by decide +kernel⟩
theorem zr_29 : zret 29 = some .int := rfl
theorem zf_30 : zcode 30 = zc_30 ∧ zsrt zc_30 0 = true := ⟨rfl, by decide +kernel⟩
theorem zr_30 : zret 30 = some .int := rfl
theorem zf_31 : zcode 31 = zc_31 ∧ zsrt zc_31 0 = true := ⟨rfl, by decide +kernel⟩
theorem zf_32 : zcode 32 = zc_32 ∧ zsrt zc_32 0 = true := ⟨rfl, by decide +kernel⟩
theorem zf_33 : zcode 33 = zc_33 ∧ zsrt zc_33 0 = true := ⟨rfl, by decide +kernel⟩
theorem zr_33 : zret 33 = some .char := rfl
theorem zf_34 : zcode 34 = zc_34 ∧ zsrt zc_34 0 = true := ⟨rfl, by decide +kernel⟩
theorem zr_34 : zret 34 = some .boolean := rfl
theorem zf_35 : zcode 35 = zc_35 ∧ zsrt zc_35 0 = true := ⟨rfl, by decide +kernel⟩
theorem zr_35 : zret 35 = some .byte := rfl
theorem zf_36 : zcode 36 = zc_36 ∧ zsrt zc_36 0 = true := ⟨rfl, by decide +kernel⟩
theorem zr_36 : zret 36 = some .int := rfl
theorem zf_37 : zcode 37 = zc_37 ∧ zsrt zc_37 0 = true := ⟨rfl, by decide +kernel⟩
theorem zr_37 : zret 37 = some .boolean := rfl
theorem zf_38 : zcode 38 = zc_38 ∧ zsrt zc_38 0 = true := ⟨rfl, by decide +kernel⟩
theorem zr_38 : zret 38 = some .int := rfl
theorem zf_39 : zcode 39 = zc_39 ∧ zsrt zc_39 0 = true := ⟨rfl, by decide +kernel⟩
theorem zr_39 : zret 39 = some .int := rfl
theorem zf_40 : zcode 40 = zc_40 ∧ zsrt zc_40 0 = true := ⟨rfl, by decide +kernel⟩
theorem zr_40 : zret 40 = some .int := rfl
theorem zf_41 : zcode 41 = zc_41 ∧ zsrt zc_41 0 = true := ⟨rfl, by decide +kernel⟩
theorem zr_41 : zret 41 = some .int := rfl
theorem zf_42 : zcode 42 = zc_42 ∧ zsrt zc_42 0 = true := ⟨rfl, by decide +kernel⟩
theorem zr_42 : zret 42 = some .int := rfl
theorem zf_43 : zcode 43 = zc_43 ∧ zsrt zc_43 0 = true := ⟨rfl, by decide +kernel⟩
theorem zr_43 : zret 43 = some .boolean := rfl
theorem zf_44 : zcode 44 = zc_44 ∧ zsrt zc_44 0 = true := ⟨rfl, by decide +kernel⟩
theorem zr_44 : zret 44 = some .int := rfl
theorem zf_45 : zcode 45 = zc_45 ∧ zsrt zc_45 0 = true := ⟨rfl, by decide +kernel⟩
theorem zr_45 : zret 45 = some .int := rfl
theorem zf_46 : zcode 46 = zc_46 ∧ zsrt zc_46 0 = true := ⟨rfl, by decide +kernel⟩
theorem zr_46 : zret 46 = some .boolean := rfl
theorem zf_47 : zcode 47 = zc_47 ∧ zsrt zc_47 0 = true := ⟨rfl, by decide +kernel⟩
theorem zr_47 : zret 47 = some .boolean := rfl
theorem zf_48 : zcode 48 = zc_48 ∧ zsrt zc_48 0 = true := ⟨rfl, by decide +kernel⟩
theorem zr_48 : zret 48 = some .boolean := rfl
theorem zf_49 : zcode 49 = zc_49 ∧ zsrt zc_49 0 = true := ⟨rfl, by decide +kernel⟩
theorem zr_49 : zret 49 = some .boolean := rfl
theorem zf_50 : zcode 50 = zc_50 ∧ zsrt zc_50 0 = true := ⟨rfl, by decide +kernel⟩
theorem zr_50 : zret 50 = some .boolean := rfl
theorem zf_51 : zcode 51 = zc_51 ∧ zsrt zc_51 0 = true := ⟨rfl, by decide +kernel⟩
theorem zr_51 : zret 51 = some .boolean := rfl
theorem zf_52 : zcode 52 = zc_52 ∧ zsrt zc_52 0 = true := ⟨rfl, by decide +kernel⟩
theorem zr_52 : zret 52 = some .boolean := rfl
theorem zf_53 : zcode 53 = zc_53 ∧ zsrt zc_53 0 = true := ⟨rfl, by decide +kernel⟩
theorem zr_53 : zret 53 = some .boolean := rfl
theorem zf_54 : zcode 54 = zc_54 ∧ zsrt zc_54 0 = true := ⟨rfl, by decide +kernel⟩
theorem zr_54 : zret 54 = some .boolean := rfl
theorem zf_55 : zcode 55 = zc_55 ∧ zsrt zc_55 0 = true := ⟨rfl, by decide +kernel⟩
theorem zr_55 : zret 55 = some .int := rfl
theorem zf_56 : zcode 56 = zc_56 ∧ zsrt zc_56 0 = true := ⟨rfl, by decide +kernel⟩
theorem zr_56 : zret 56 = some .int := rfl
theorem zf_57 : zcode 57 = zc_57 ∧ zsrt zc_57 0 = true := ⟨rfl, by decide +kernel⟩
theorem zr_57 : zret 57 = some .int := rfl
theorem zf_58 : zcode 58 = zc_58 ∧ zsrt zc_58 0 = true := ⟨rfl, by decide +kernel⟩
theorem zr_58 : zret 58 = some .int := rfl
theorem zf_59 : zcode 59 = zc_59 ∧ zsrt zc_59 0 = true := ⟨rfl, by decide +kernel⟩
theorem zr_59 : zret 59 = some .int := rfl
theorem zf_60 : zcode 60 = zc_60 ∧ zsrt zc_60 0 = true := ⟨rfl, by decide +kernel⟩
theorem zr_60 : zret 60 = some .int := rfl
theorem zf_61 : zcode 61 = zc_61 ∧ zsrt zc_61 0 = true := ⟨rfl, by decide +kernel⟩
theorem zr_61 : zret 61 = some .boolean := rfl
theorem zf_62 : zcode 62 = zc_62 ∧ zsrt zc_62 0 = true := ⟨rfl, by decide +kernel⟩
theorem zr_62 : zret 62 = some .int := rfl
theorem zf_63 : zcode 63 = zc_63 ∧ zsrt zc_63 0 = true := ⟨rfl, by decide +kernel⟩
theorem zf_64 : zcode 64 = zc_64 ∧ zsrt zc_64 0 = true := ⟨rfl, by decide +kernel⟩
theorem zr_64 : zret 64 = some .boolean := rfl
theorem zf_65 : zcode 65 = zc_65 ∧ zsrt zc_65 0 = true := ⟨rfl, by decide +kernel⟩
theorem zr_65 : zret 65 = some .int := rfl
theorem zf_66 : zcode 66 = zc_66 ∧ zsrt zc_66 0 = true := ⟨rfl, by decide +kernel⟩
theorem zr_66 : zret 66 = some .int := rfl
theorem zf_67 : zcode 67 = zc_67 ∧ zsrt zc_67 0 = true := ⟨rfl, by decide +kernel⟩
theorem zr_67 : zret 67 = some .int := rfl
theorem zf_68 : zcode 68 = zc_68 ∧ zsrt zc_68 0 = true := ⟨rfl, by decide +kernel⟩
theorem zr_68 : zret 68 = some .int := rfl
theorem zf_69 : zcode 69 = zc_69 ∧ zsrt zc_69 0 = true := ⟨rfl, by decide +kernel⟩
theorem zf_70 : zcode 70 = zc_70 ∧ zsrt zc_70 0 = true := ⟨rfl, by decide +kernel⟩
theorem zf_71 : zcode 71 = zc_71 ∧ zsrt zc_71 0 = true := ⟨rfl, by decide +kernel⟩
theorem zr_71 : zret 71 = some .int := rfl
theorem zf_72 : zcode 72 = zc_72 ∧ zsrt zc_72 0 = true := ⟨rfl, by decide +kernel⟩
theorem zr_72 : zret 72 = some .int := rfl
theorem zf_73 : zcode 73 = zc_73 ∧ zsrt zc_73 0 = true := ⟨rfl, by decide +kernel⟩
theorem zr_73 : zret 73 = some .int := rfl
theorem zf_74 : zcode 74 = zc_74 ∧ zsrt zc_74 0 = true := ⟨rfl, by decide +kernel⟩
theorem zr_74 : zret 74 = some .boolean := rfl
theorem zf_75 : zcode 75 = zc_75 ∧ zsrt zc_75 0 = true := ⟨rfl, by decide +kernel⟩
theorem zf_76 : zcode 76 = zc_76 ∧ zsrt zc_76 0 = true := ⟨rfl, by decide +kernel⟩
theorem zr_76 : zret 76 = some .boolean := rfl
theorem zf_77 : zcode 77 = zc_77 ∧ zsrt zc_77 0 = true := ⟨rfl, by decide +kernel⟩
theorem zr_77 : zret 77 = some .boolean := rfl
theorem zf_78 : zcode 78 = zc_78 ∧ zsrt zc_78 0 = true := ⟨rfl, by decide +kernel⟩
theorem zr_78 : zret 78 = some .boolean := rfl
theorem zf_79 : zcode 79 = zc_79 ∧ zsrt zc_79 0 = true := ⟨rfl, by decide +kernel⟩
theorem zr_79 : zret 79 = some .int := rfl
theorem zf_80 : zcode 80 = zc_80 ∧ zsrt zc_80 0 = true := ⟨rfl, by decide +kernel⟩
theorem zr_80 : zret 80 = some .int := rfl
theorem zf_81 : zcode 81 = zc_81 ∧ zsrt zc_81 0 = true := ⟨rfl, by decide +kernel⟩
theorem zr_81 : zret 81 = some .int := rfl
theorem zf_82 : zcode 82 = zc_82 ∧ zsrt zc_82 0 = true := ⟨rfl, by decide +kernel⟩
theorem zr_82 : zret 82 = some .int := rfl
theorem zf_83 : zcode 83 = zc_83 ∧ zsrt zc_83 0 = true := ⟨rfl, by decide +kernel⟩
theorem zr_83 : zret 83 = some .int := rfl
theorem zf_84 : zcode 84 = zc_84 ∧ zsrt zc_84 0 = true := ⟨rfl, by decide +kernel⟩
theorem zr_84 : zret 84 = some .int := rfl
theorem zf_85 : zcode 85 = zc_85 ∧ zsrt zc_85 0 = true := ⟨rfl, by decide +kernel⟩
theorem zf_86 : zcode 86 = zc_86 ∧ zsrt zc_86 0 = true := ⟨rfl, by decide +kernel⟩
theorem zr_86 : zret 86 = some .int := rfl
theorem zf_87 : zcode 87 = zc_87 ∧ zsrt zc_87 0 = true := ⟨rfl, by decide +kernel⟩
theorem zf_88 : zcode 88 = zc_88 ∧ zsrt zc_88 0 = true := ⟨rfl, by decide +kernel⟩
theorem zr_88 : zret 88 = some .int := rfl
theorem zf_89 : zcode 89 = zc_89 ∧ zsrt zc_89 0 = true := ⟨rfl, by decide +kernel⟩
theorem zr_89 : zret 89 = some .int := rfl
theorem zf_90 : zcode 90 = zc_90 ∧ zsrt zc_90 0 = true := ⟨rfl, by decide +kernel⟩
theorem zr_90 : zret 90 = some .int := rfl
theorem zf_91 : zcode 91 = zc_91 ∧ zsrt zc_91 0 = true := ⟨rfl, by decide +kernel⟩
theorem zr_91 : zret 91 = some .int := rfl
theorem zf_92 : zcode 92 = zc_92 ∧ zsrt zc_92 0 = true := ⟨rfl, by decide +kernel⟩
theorem zr_92 : zret 92 = some .int := rfl
theorem zf_93 : zcode 93 = zc_93 ∧ zsrt zc_93 0 = true := ⟨rfl, by decide +kernel⟩
theorem zr_93 : zret 93 = some .int := rfl
theorem zf_94 : zcode 94 = zc_94 ∧ zsrt zc_94 0 = true := ⟨rfl, by decide +kernel⟩
theorem zf_95 : zcode 95 = zc_95 ∧ zsrt zc_95 0 = true := ⟨rfl, by decide +kernel⟩
theorem zf_96 : zcode 96 = zc_96 ∧ zsrt zc_96 0 = true := ⟨rfl, by decide +kernel⟩
theorem zr_96 : zret 96 = some .int := rfl
theorem zf_97 : zcode 97 = zc_97 ∧ zsrt zc_97 0 = true := ⟨rfl, by decide +kernel⟩
theorem zr_97 : zret 97 = some .int := rfl
theorem zf_98 : zcode 98 = zc_98 ∧ zsrt zc_98 0 = true := ⟨rfl, by decide +kernel⟩
theorem zr_98 : zret 98 = some .int := rfl
theorem zf_99 : zcode 99 = zc_99 ∧ zsrt zc_99 0 = true := ⟨rfl, by decide +kernel⟩
theorem zr_99 : zret 99 = some .int := rfl
theorem zf_100 : zcode 100 = zc_100 ∧ zsrt zc_100 0 = true := ⟨rfl, by decide +kernel⟩
theorem zr_100 : zret 100 = some .int := rfl
theorem zf_101 : zcode 101 = zc_101 ∧ zsrt zc_101 0 = true := ⟨rfl, by decide +kernel⟩
theorem zr_101 : zret 101 = some .int := rfl
theorem zf_102 : zcode 102 = zc_102 ∧ zsrt zc_102 0 = true := ⟨rfl, by decide +kernel⟩
theorem zr_102 : zret 102 = some .int := rfl
theorem zf_103 : zcode 103 = zc_103 ∧ zsrt zc_103 0 = true := ⟨rfl, by decide +kernel⟩
theorem zr_103 : zret 103 = some .int := rfl
theorem zf_104 : zcode 104 = zc_104 ∧ zsrt zc_104 0 = true := ⟨rfl, by decide +kernel⟩
theorem zr_104 : zret 104 = some .int := rfl
theorem zf_105 : zcode 105 = zc_105 ∧ zsrt zc_105 0 = true := ⟨rfl, by decide +kernel⟩
theorem zr_105 : zret 105 = some .int := rfl
theorem zf_106 : zcode 106 = zc_106 ∧ zsrt zc_106 0 = true := ⟨rfl, by decide +kernel⟩
theorem zr_106 : zret 106 = some .int := rfl
theorem zf_107 : zcode 107 = zc_107 ∧ zsrt zc_107 0 = true := ⟨rfl, by decide +kernel⟩
theorem zr_107 : zret 107 = some .boolean := rfl
theorem zf_108 : zcode 108 = zc_108 ∧ zsrt zc_108 0 = true := ⟨rfl, by decide +kernel⟩
theorem zr_108 : zret 108 = some .int := rfl
theorem zf_109 : zcode 109 = zc_109 ∧ zsrt zc_109 0 = true := ⟨rfl, by decide +kernel⟩
theorem zr_109 : zret 109 = some .int := rfl
theorem zf_110 : zcode 110 = zc_110 ∧ zsrt zc_110 0 = true := ⟨rfl, by decide +kernel⟩
theorem zr_110 : zret 110 = some .int := rfl
theorem zf_111 : zcode 111 = zc_111 ∧ zsrt zc_111 0 = true := ⟨rfl, by decide +kernel⟩
theorem zr_111 : zret 111 = some .int := rfl
theorem zf_112 : zcode 112 = zc_112 ∧ zsrt zc_112 0 = true := ⟨rfl, by decide +kernel⟩
theorem zr_112 : zret 112 = some .int := rfl
theorem zf_113 : zcode 113 = zc_113 ∧ zsrt zc_113 0 = true := ⟨rfl, by decide +kernel⟩
theorem zr_113 : zret 113 = some .int := rfl
theorem zf_114 : zcode 114 = zc_114 ∧ zsrt zc_114 0 = true := ⟨rfl, by decide +kernel⟩
theorem zr_114 : zret 114 = some .int := rfl
theorem zf_115 : zcode 115 = zc_115 ∧ zsrt zc_115 0 = true := ⟨rfl, by decide +kernel⟩
theorem zr_115 : zret 115 = some .int := rfl
theorem zf_116 : zcode 116 = zc_116 ∧ zsrt zc_116 0 = true := ⟨rfl, by decide +kernel⟩
theorem zr_116 : zret 116 = some .int := rfl
theorem zf_117 : zcode 117 = zc_117 ∧ zsrt zc_117 0 = true := ⟨rfl, by decide +kernel⟩
theorem zr_117 : zret 117 = some .int := rfl
theorem zf_118 : zcode 118 = zc_118 ∧ zsrt zc_118 0 = true := ⟨rfl, by decide +kernel⟩
theorem zr_118 : zret 118 = some .int := rfl
theorem zf_119 : zcode 119 = zc_119 ∧ zsrt zc_119 0 = true := ⟨rfl, by decide +kernel⟩
theorem zf_120 : zcode 120 = zc_120 ∧ zsrt zc_120 0 = true := ⟨rfl, by decide +kernel⟩
theorem zr_120 : zret 120 = some .int := rfl
theorem zf_121 : zcode 121 = zc_121 ∧ zsrt zc_121 0 = true := ⟨rfl, by decide +kernel⟩
theorem zr_121 : zret 121 = some .int := rfl
theorem zf_122 : zcode 122 = zc_122 ∧ zsrt zc_122 0 = true := ⟨rfl, by decide +kernel⟩
theorem zr_122 : zret 122 = some .int := rfl
theorem zf_123 : zcode 123 = zc_123 ∧ zsrt zc_123 0 = true := ⟨rfl, by decide +kernel⟩
theorem zr_123 : zret 123 = some .int := rfl
theorem zf_124 : zcode 124 = zc_124 ∧ zsrt zc_124 0 = true := ⟨rfl, by decide +kernel⟩
theorem zr_124 : zret 124 = some .int := rfl
theorem zf_125 : zcode 125 = zc_125 ∧ zsrt zc_125 0 = true := ⟨rfl, by decide +kernel⟩
theorem zr_125 : zret 125 = some .int := rfl
theorem zf_126 : zcode 126 = zc_126 ∧ zsrt zc_126 0 = true := ⟨rfl, by decide +kernel⟩
theorem zr_126 : zret 126 = some .int := rfl
theorem zf_127 : zcode 127 = zc_127 ∧ zsrt zc_127 0 = true := ⟨rfl, by decide +kernel⟩
theorem zr_127 : zret 127 = some .int := rfl
theorem zf_128 : zcode 128 = zc_128 ∧ zsrt zc_128 0 = true := ⟨rfl, by decide +kernel⟩
theorem zr_128 : zret 128 = some .int := rfl
theorem zf_129 : zcode 129 = zc_129 ∧ zsrt zc_129 0 = true := ⟨rfl, by decide +kernel⟩
theorem zr_129 : zret 129 = some .int := rfl
theorem zf_130 : zcode 130 = zc_130 ∧ zsrt zc_130 0 = true := ⟨rfl, by decide +kernel⟩
theorem zr_130 : zret 130 = some .int := rfl
theorem zf_131 : zcode 131 = zc_131 ∧ zsrt zc_131 0 = true := ⟨rfl, by decide +kernel⟩
theorem zr_131 : zret 131 = some .int := rfl
theorem zf_132 : zcode 132 = zc_132 ∧ zsrt zc_132 0 = true := ⟨rfl, by decide +kernel⟩
theorem zr_132 : zret 132 = some .int := rfl
theorem zf_133 : zcode 133 = zc_133 ∧ zsrt zc_133 0 = true := ⟨rfl, by decide +kernel⟩
theorem zr_133 : zret 133 = some .int := rfl
theorem zf_134 : zcode 134 = zc_134 ∧ zsrt zc_134 0 = true := ⟨rfl, by decide +kernel⟩
theorem zr_134 : zret 134 = some .int := rfl
theorem zf_135 : zcode 135 = zc_135 ∧ zsrt zc_135 0 = true := ⟨rfl, by decide +kernel⟩
theorem zr_135 : zret 135 = some .int := rfl
theorem zf_136 : zcode 136 = zc_136 ∧ zsrt zc_136 0 = true := ⟨rfl, by decide +kernel⟩
theorem zr_136 : zret 136 = some .int := rfl
theorem zf_137 : zcode 137 = zc_137 ∧ zsrt zc_137 0 = true := ⟨rfl, by decide +kernel⟩
theorem zr_137 : zret 137 = some .int := rfl
theorem zf_138 : zcode 138 = zc_138 ∧ zsrt zc_138 0 = true := ⟨rfl, by decide +kernel⟩
theorem zr_138 : zret 138 = some .int := rfl
theorem zf_139 : zcode 139 = zc_139 ∧ zsrt zc_139 0 = true := ⟨rfl, by decide +kernel⟩
theorem zr_139 : zret 139 = some .int := rfl
theorem zf_140 : zcode 140 = zc_140 ∧ zsrt zc_140 0 = true := ⟨rfl, by decide +kernel⟩
theorem zr_140 : zret 140 = some .int := rfl
theorem zf_141 : zcode 141 = zc_141 ∧ zsrt zc_141 0 = true := ⟨rfl, by decide +kernel⟩
theorem zf_142 : zcode 142 = zc_142 ∧ zsrt zc_142 0 = true := ⟨rfl, by decide +kernel⟩
theorem zf_143 : zcode 143 = zc_143 ∧ zsrt zc_143 0 = true := ⟨rfl, by decide +kernel⟩
theorem zr_143 : zret 143 = some .boolean := rfl
theorem zf_144 : zcode 144 = zc_144 ∧ zsrt zc_144 0 = true := ⟨rfl, by decide +kernel⟩
theorem zr_144 : zret 144 = some .int := rfl
theorem zf_145 : zcode 145 = zc_145 ∧ zsrt zc_145 0 = true := ⟨rfl, by decide +kernel⟩
theorem zr_145 : zret 145 = some .int := rfl
theorem zf_146 : zcode 146 = zc_146 ∧ zsrt zc_146 0 = true := ⟨rfl, by decide +kernel⟩
theorem zr_146 : zret 146 = some .boolean := rfl
theorem zf_147 : zcode 147 = zc_147 ∧ zsrt zc_147 0 = true := ⟨rfl, by decide +kernel⟩
theorem zr_147 : zret 147 = some .boolean := rfl
theorem zf_148 : zcode 148 = zc_148 ∧ zsrt zc_148 0 = true := ⟨rfl, by decide +kernel⟩
theorem zr_148 : zret 148 = some .int := rfl
theorem zf_149 : zcode 149 = zc_149 ∧ zsrt zc_149 0 = true := ⟨rfl, by decide +kernel⟩
theorem zr_149 : zret 149 = some .boolean := rfl
theorem zf_150 : zcode 150 = zc_150 ∧ zsrt zc_150 0 = true := ⟨rfl, by decide +kernel⟩
theorem zr_150 : zret 150 = some .boolean := rfl
theorem zf_151 : zcode 151 = zc_151 ∧ zsrt zc_151 0 = true := ⟨rfl, by decide +kernel⟩
theorem zr_151 : zret 151 = some .boolean := rfl
theorem zf_152 : zcode 152 = zc_152 ∧ zsrt zc_152 0 = true := ⟨rfl, by decide +kernel⟩
theorem zr_152 : zret 152 = some .boolean := rfl
theorem zf_153 : zcode 153 = zc_153 ∧ zsrt zc_153 0 = true := ⟨rfl, by decide +kernel⟩
theorem zr_153 : zret 153 = some .boolean := rfl
theorem zf_154 : zcode 154 = zc_154 ∧ zsrt zc_154 0 = true := ⟨rfl, by decide +kernel⟩
theorem zr_154 : zret 154 = some .boolean := rfl
theorem zf_155 : zcode 155 = zc_155 ∧ zsrt zc_155 0 = true := ⟨rfl, by decide +kernel⟩
theorem zr_155 : zret 155 = some .boolean := rfl
theorem zf_156 : zcode 156 = zc_156 ∧ zsrt zc_156 0 = true := ⟨rfl, by decide +kernel⟩
theorem zr_156 : zret 156 = some .boolean := rfl
theorem zf_157 : zcode 157 = zc_157 ∧ zsrt zc_157 0 = true := ⟨rfl, by decide +kernel⟩
theorem zr_157 : zret 157 = some .int := rfl
theorem zf_158 : zcode 158 = zc_158 ∧ zsrt zc_158 0 = true := ⟨rfl, by decide +kernel⟩
theorem zr_158 : zret 158 = some .int := rfl
theorem zf_159 : zcode 159 = zc_159 ∧ zsrt zc_159 0 = true := ⟨rfl, by decide +kernel⟩
theorem zr_159 : zret 159 = some .int := rfl
theorem zf_160 : zcode 160 = zc_160 ∧ zsrt zc_160 0 = true := ⟨rfl, by decide +kernel⟩
theorem zr_160 : zret 160 = some .boolean := rfl
theorem zf_161 : zcode 161 = zc_161 ∧ zsrt zc_161 0 = true := ⟨rfl, by decide +kernel⟩
theorem zr_161 : zret 161 = some .boolean := rfl
theorem zf_162 : zcode 162 = zc_162 ∧ zsrt zc_162 0 = true := ⟨rfl, by decide +kernel⟩
theorem zr_162 : zret 162 = some .int := rfl
theorem zf_163 : zcode 163 = zc_163 ∧ zsrt zc_163 0 = true := ⟨rfl, by decide +kernel⟩
theorem zr_163 : zret 163 = some .int := rfl
theorem zf_164 : zcode 164 = zc_164 ∧ zsrt zc_164 0 = true := ⟨rfl, by decide +kernel⟩
theorem zr_164 : zret 164 = some .int := rfl
theorem zf_165 : zcode 165 = zc_165 ∧ zsrt zc_165 0 = true := ⟨rfl, by decide +kernel⟩
theorem zr_165 : zret 165 = some .boolean := rfl
theorem zf_166 : zcode 166 = zc_166 ∧ zsrt zc_166 0 = true := ⟨rfl, by decide +kernel⟩
theorem zr_166 : zret 166 = some .int := rfl
theorem zf_167 : zcode 167 = zc_167 ∧ zsrt zc_167 0 = true := ⟨rfl, by decide +kernel⟩
theorem zr_167 : zret 167 = some .boolean := rfl
theorem zf_168 : zcode 168 = zc_168 ∧ zsrt zc_168 0 = true := ⟨rfl, by decide +kernel⟩
theorem zr_168 : zret 168 = some .int := rfl
theorem zf_169 : zcode 169 = zc_169 ∧ zsrt zc_169 0 = true := ⟨rfl, by decide +kernel⟩
theorem zr_169 : zret 169 = some .boolean := rfl
theorem zf_170 : zcode 170 = zc_170 ∧ zsrt zc_170 0 = true := ⟨rfl, by decide +kernel⟩
theorem zr_170 : zret 170 = some .int := rfl
theorem zf_171 : zcode 171 = zc_171 ∧ zsrt zc_171 0 = true := ⟨rfl, by decide +kernel⟩
theorem zr_171 : zret 171 = some .int := rfl
theorem zf_172 : zcode 172 = zc_172 ∧ zsrt zc_172 0 = true := ⟨rfl, by decide +kernel⟩
theorem zr_172 : zret 172 = some .int := rfl
theorem zf_173 : zcode 173 = zc_173 ∧ zsrt zc_173 0 = true := ⟨rfl, by decide +kernel⟩
theorem zr_173 : zret 173 = some .int := rfl
theorem zf_174 : zcode 174 = zc_174 ∧ zsrt zc_174 0 = true := ⟨rfl, by decide +kernel⟩
theorem zr_174 : zret 174 = some .int := rfl
theorem zf_175 : zcode 175 = zc_175 ∧ zsrt zc_175 0 = true := ⟨rfl, by decide +kernel⟩
theorem zr_175 : zret 175 = some .int := rfl
theorem zf_176 : zcode 176 = zc_176 ∧ zsrt zc_176 0 = true := ⟨rfl, by decide +kernel⟩
theorem zr_176 : zret 176 = some .int := rfl
theorem zf_177 : zcode 177 = zc_177 ∧ zsrt zc_177 0 = true := ⟨rfl, by decide +kernel⟩
theorem zf_178 : zcode 178 = zc_178 ∧ zsrt zc_178 0 = true := ⟨rfl, by decide +kernel⟩
theorem zr_178 : zret 178 = some .int := rfl
theorem zf_179 : zcode 179 = zc_179 ∧ zsrt zc_179 0 = true := ⟨rfl, by decide +kernel⟩
theorem zr_179 : zret 179 = some .boolean := rfl
theorem zf_180 : zcode 180 = zc_180 ∧ zsrt zc_180 0 = true := ⟨rfl, by decide +kernel⟩
theorem zf_181 : zcode 181 = zc_181 ∧ zsrt zc_181 0 = true := ⟨rfl, by decide +kernel⟩
theorem zr_181 : zret 181 = some .int := rfl
theorem zf_182 : zcode 182 = zc_182 ∧ zsrt zc_182 0 = true := ⟨rfl, by decide +kernel⟩
theorem zr_182 : zret 182 = some .boolean := rfl
theorem zf_183 : zcode 183 = zc_183 ∧ zsrt zc_183 0 = true := ⟨rfl, by decide +kernel⟩
theorem zr_183 : zret 183 = some .int := rfl
theorem zf_184 : zcode 184 = zc_184 ∧ zsrt zc_184 0 = true := ⟨rfl, by decide +kernel⟩
theorem zr_184 : zret 184 = some .int := rfl
theorem zf_185 : zcode 185 = zc_185 ∧ zsrt zc_185 0 = true := ⟨rfl, by decide +kernel⟩
theorem zr_185 : zret 185 = some .int := rfl
theorem zf_186 : zcode 186 = zc_186 ∧ zsrt zc_186 0 = true := ⟨rfl, by decide +kernel⟩
theorem zr_186 : zret 186 = some .int := rfl
theorem zf_187 : zcode 187 = zc_187 ∧ zsrt zc_187 0 = true := ⟨rfl, by decide +kernel⟩
theorem zr_187 : zret 187 = some .int := rfl
theorem zf_188 : zcode 188 = zc_188 ∧ zsrt zc_188 0 = true := ⟨rfl, by decide +kernel⟩
theorem zr_188 : zret 188 = some .int := rfl
theorem zf_189 : zcode 189 = zc_189 ∧ zsrt zc_189 0 = true := ⟨rfl, by decide +kernel⟩
theorem zr_189 : zret 189 = some .int := rfl
theorem zf_190 : zcode 190 = zc_190 ∧ zsrt zc_190 0 = true := ⟨rfl, by decide +kernel⟩
theorem zr_190 : zret 190 = some .int := rfl
theorem zf_191 : zcode 191 = zc_191 ∧ zsrt zc_191 0 = true := ⟨rfl, by decide +kernel⟩
theorem zr_191 : zret 191 = some .int := rfl
theorem zf_192 : zcode 192 = zc_192 ∧ zsrt zc_192 0 = true := ⟨rfl, by decide +kernel⟩
theorem zr_192 : zret 192 = some .int := rfl
theorem zf_193 : zcode 193 = zc_193 ∧ zsrt zc_193 0 = true := ⟨rfl, by decide +kernel⟩
theorem zr_193 : zret 193 = some .int := rfl
theorem zf_194 : zcode 194 = zc_194 ∧ zsrt zc_194 0 = true := ⟨rfl, by decide +kernel⟩
theorem zf_195 : zcode 195 = zc_195 ∧ zsrt zc_195 0 = true := ⟨rfl, by decide +kernel⟩
theorem zr_195 : zret 195 = some .int := rfl
theorem zf_196 : zcode 196 = zc_196 ∧ zsrt zc_196 0 = true := ⟨rfl, by decide +kernel⟩
theorem zr_196 : zret 196 = some .int := rfl
theorem zf_197 : zcode 197 = zc_197 ∧ zsrt zc_197 0 = true := ⟨rfl, by decide +kernel⟩
theorem zr_197 : zret 197 = some .int := rfl
theorem zf_198 : zcode 198 = zc_198 ∧ zsrt zc_198 0 = true := ⟨rfl, by decide +kernel⟩
theorem zr_198 : zret 198 = some .int := rfl
theorem zf_199 : zcode 199 = zc_199 ∧ zsrt zc_199 0 = true := ⟨rfl, by decide +kernel⟩
theorem zr_199 : zret 199 = some .int := rfl
theorem zf_200 : zcode 200 = zc_200 ∧ zsrt zc_200 0 = true := ⟨rfl, by decide +kernel⟩
theorem zf_201 : zcode 201 = zc_201 ∧ zsrt zc_201 0 = true := ⟨rfl, by decide +kernel⟩
theorem zr_201 : zret 201 = some .int := rfl
theorem zf_202 : zcode 202 = zc_202 ∧ zsrt zc_202 0 = true := ⟨rfl, by decide +kernel⟩
theorem zr_202 : zret 202 = some .int := rfl
theorem zf_203 : zcode 203 = zc_203 ∧ zsrt zc_203 0 = true := ⟨rfl, by decide +kernel⟩
theorem zr_203 : zret 203 = some .int := rfl
theorem zf_204 : zcode 204 = zc_204 ∧ zsrt zc_204 0 = true := ⟨rfl, by decide +kernel⟩
theorem zr_204 : zret 204 = some .int := rfl
theorem zf_205 : zcode 205 = zc_205 ∧ zsrt zc_205 0 = true := ⟨rfl, by decide +kernel⟩
theorem zr_205 : zret 205 = some .int := rfl
theorem zf_206 : zcode 206 = zc_206 ∧ zsrt zc_206 0 = true := ⟨rfl, by decide +kernel⟩
theorem zr_206 : zret 206 = some .int := rfl
theorem zf_207 : zcode 207 = zc_207 ∧ zsrt zc_207 0 = true := ⟨rfl, by decide +kernel⟩
theorem zr_207 : zret 207 = some .int := rfl
theorem zf_208 : zcode 208 = zc_208 ∧ zsrt zc_208 0 = true := ⟨rfl, by decide +kernel⟩
theorem zr_208 : zret 208 = some .int := rfl
theorem zf_209 : zcode 209 = zc_209 ∧ zsrt zc_209 0 = true := ⟨rfl, by decide +kernel⟩
theorem zr_209 : zret 209 = some .int := rfl
theorem zf_210 : zcode 210 = zc_210 ∧ zsrt zc_210 0 = true := ⟨rfl, by decide +kernel⟩
theorem zr_210 : zret 210 = some .int := rfl
theorem zf_211 : zcode 211 = zc_211 ∧ zsrt zc_211 0 = true := ⟨rfl, by decide +kernel⟩
theorem zr_211 : zret 211 = some .int := rfl
theorem zf_212 : zcode 212 = zc_212 ∧ zsrt zc_212 0 = true := ⟨rfl, by decide +kernel⟩
theorem zf_213 : zcode 213 = zc_213 ∧ zsrt zc_213 0 = true := ⟨rfl, by decide +kernel⟩
theorem zr_213 : zret 213 = some .int := rfl
theorem zf_214 : zcode 214 = zc_214 ∧ zsrt zc_214 0 = true := ⟨rfl, by decide +kernel⟩
theorem zr_214 : zret 214 = some .int := rfl
theorem zf_215 : zcode 215 = zc_215 ∧ zsrt zc_215 0 = true := ⟨rfl, by decide +kernel⟩
theorem zr_215 : zret 215 = some .int := rfl
theorem zf_216 : zcode 216 = zc_216 ∧ zsrt zc_216 0 = true := ⟨rfl, by decide +kernel⟩
theorem zr_216 : zret 216 = some .int := rfl
theorem zf_217 : zcode 217 = zc_217 ∧ zsrt zc_217 0 = true := ⟨rfl, by decide +kernel⟩
theorem zr_217 : zret 217 = some .int := rfl
theorem zf_218 : zcode 218 = zc_218 ∧ zsrt zc_218 0 = true := ⟨rfl, by decide +kernel⟩
theorem zr_218 : zret 218 = some .int := rfl
theorem zf_219 : zcode 219 = zc_219 ∧ zsrt zc_219 0 = true := ⟨rfl, by decide +kernel⟩
theorem zr_219 : zret 219 = some .int := rfl
theorem zf_220 : zcode 220 = zc_220 ∧ zsrt zc_220 0 = true := ⟨rfl, by decide +kernel⟩
theorem zr_220 : zret 220 = some .int := rfl
theorem zf_221 : zcode 221 = zc_221 ∧ zsrt zc_221 0 = true := ⟨rfl, by decide +kernel⟩
theorem zr_221 : zret 221 = some .int := rfl
theorem zf_222 : zcode 222 = zc_222 ∧ zsrt zc_222 0 = true := ⟨rfl, by decide +kernel⟩
theorem zr_222 : zret 222 = some .int := rfl
theorem zf_223 : zcode 223 = zc_223 ∧ zsrt zc_223 0 = true := ⟨rfl, by decide +kernel⟩
theorem zr_223 : zret 223 = some .int := rfl
theorem zf_224 : zcode 224 = zc_224 ∧ zsrt zc_224 0 = true := ⟨rfl, by decide +kernel⟩
theorem zr_224 : zret 224 = some .int := rfl
theorem zf_225 : zcode 225 = zc_225 ∧ zsrt zc_225 0 = true := ⟨rfl, by decide +kernel⟩
theorem zr_225 : zret 225 = some .int := rfl
theorem zf_226 : zcode 226 = zc_226 ∧ zsrt zc_226 0 = true := ⟨rfl, by decide +kernel⟩
theorem zr_226 : zret 226 = some .int := rfl
theorem zf_227 : zcode 227 = zc_227 ∧ zsrt zc_227 0 = true := ⟨rfl, by decide +kernel⟩
theorem zr_227 : zret 227 = some .int := rfl
theorem zf_228 : zcode 228 = zc_228 ∧ zsrt zc_228 0 = true := ⟨rfl, by decide +kernel⟩
theorem zr_228 : zret 228 = some .int := rfl
theorem zf_229 : zcode 229 = zc_229 ∧ zsrt zc_229 0 = true := ⟨rfl, by decide +kernel⟩
theorem zr_229 : zret 229 = some .int := rfl
theorem zf_230 : zcode 230 = zc_230 ∧ zsrt zc_230 0 = true := ⟨rfl, by decide +kernel⟩
theorem zr_230 : zret 230 = some .int := rfl
theorem zf_231 : zcode 231 = zc_231 ∧ zsrt zc_231 0 = true := ⟨rfl, by decide +kernel⟩
theorem zr_231 : zret 231 = some .boolean := rfl
theorem zf_232 : zcode 232 = zc_232 ∧ zsrt zc_232 0 = true := ⟨rfl, by decide +kernel⟩
theorem zf_233 : zcode 233 = zc_233 ∧ zsrt zc_233 0 = true := ⟨rfl, by decide +kernel⟩
theorem zsw_54_14_k97 : ztsw 14 (194) (97) (116) #[126, 110, 194, 194, 175, 194, 194, 135, 188, 194, 118, 194, 160, 143, 194, 102, 151, 194, 94, 169] 97 = 140 := by decide +kernel
theorem zsw_54_14_k98 : ztsw 14 (194) (97) (116) #[126, 110, 194, 194, 175, 194, 194, 135, 188, 194, 118, 194, 160, 143, 194, 102, 151, 194, 94, 169] 98 = 124 := by decide +kernel
theorem zsw_54_14_k99 : ztsw 14 (194) (97) (116) #[126, 110, 194, 194, 175, 194, 194, 135, 188, 194, 118, 194, 160, 143, 194, 102, 151, 194, 94, 169] 99 = 208 := by decide +kernel
theorem zsw_54_14_k100 : ztsw 14 (194) (97) (116) #[126, 110, 194, 194, 175, 194, 194, 135, 188, 194, 118, 194, 160, 143, 194, 102, 151, 194, 94, 169] 100 = 208 := by decide +kernel
theorem zsw_54_14_k101 : ztsw 14 (194) (97) (116) #[126, 110, 194, 194, 175, 194, 194, 135, 188, 194, 118, 194, 160, 143, 194, 102, 151, 194, 94, 169] 101 = 189 := by decide +kernel
theorem zsw_54_14_k102 : ztsw 14 (194) (97) (116) #[126, 110, 194, 194, 175, 194, 194, 135, 188, 194, 118, 194, 160, 143, 194, 102, 151, 194, 94, 169] 102 = 208 := by decide +kernel
theorem zsw_54_14_k103 : ztsw 14 (194) (97) (116) #[126, 110, 194, 194, 175, 194, 194, 135, 188, 194, 118, 194, 160, 143, 194, 102, 151, 194, 94, 169] 103 = 208 := by decide +kernel
theorem zsw_54_14_k104 : ztsw 14 (194) (97) (116) #[126, 110, 194, 194, 175, 194, 194, 135, 188, 194, 118, 194, 160, 143, 194, 102, 151, 194, 94, 169] 104 = 149 := by decide +kernel
theorem zsw_54_14_k105 : ztsw 14 (194) (97) (116) #[126, 110, 194, 194, 175, 194, 194, 135, 188, 194, 118, 194, 160, 143, 194, 102, 151, 194, 94, 169] 105 = 202 := by decide +kernel
theorem zsw_54_14_k106 : ztsw 14 (194) (97) (116) #[126, 110, 194, 194, 175, 194, 194, 135, 188, 194, 118, 194, 160, 143, 194, 102, 151, 194, 94, 169] 106 = 208 := by decide +kernel
theorem zsw_54_14_k107 : ztsw 14 (194) (97) (116) #[126, 110, 194, 194, 175, 194, 194, 135, 188, 194, 118, 194, 160, 143, 194, 102, 151, 194, 94, 169] 107 = 132 := by decide +kernel
theorem zsw_54_14_k108 : ztsw 14 (194) (97) (116) #[126, 110, 194, 194, 175, 194, 194, 135, 188, 194, 118, 194, 160, 143, 194, 102, 151, 194, 94, 169] 108 = 208 := by decide +kernel
theorem zsw_54_14_k109 : ztsw 14 (194) (97) (116) #[126, 110, 194, 194, 175, 194, 194, 135, 188, 194, 118, 194, 160, 143, 194, 102, 151, 194, 94, 169] 109 = 174 := by decide +kernel
theorem zsw_54_14_k110 : ztsw 14 (194) (97) (116) #[126, 110, 194, 194, 175, 194, 194, 135, 188, 194, 118, 194, 160, 143, 194, 102, 151, 194, 94, 169] 110 = 157 := by decide +kernel
theorem zsw_54_14_k111 : ztsw 14 (194) (97) (116) #[126, 110, 194, 194, 175, 194, 194, 135, 188, 194, 118, 194, 160, 143, 194, 102, 151, 194, 94, 169] 111 = 208 := by decide +kernel
theorem zsw_54_14_k112 : ztsw 14 (194) (97) (116) #[126, 110, 194, 194, 175, 194, 194, 135, 188, 194, 118, 194, 160, 143, 194, 102, 151, 194, 94, 169] 112 = 116 := by decide +kernel
theorem zsw_54_14_k113 : ztsw 14 (194) (97) (116) #[126, 110, 194, 194, 175, 194, 194, 135, 188, 194, 118, 194, 160, 143, 194, 102, 151, 194, 94, 169] 113 = 165 := by decide +kernel
theorem zsw_54_14_k114 : ztsw 14 (194) (97) (116) #[126, 110, 194, 194, 175, 194, 194, 135, 188, 194, 118, 194, 160, 143, 194, 102, 151, 194, 94, 169] 114 = 208 := by decide +kernel
theorem zsw_54_14_k115 : ztsw 14 (194) (97) (116) #[126, 110, 194, 194, 175, 194, 194, 135, 188, 194, 118, 194, 160, 143, 194, 102, 151, 194, 94, 169] 115 = 108 := by decide +kernel
theorem zsw_54_14_k116 : ztsw 14 (194) (97) (116) #[126, 110, 194, 194, 175, 194, 194, 135, 188, 194, 118, 194, 160, 143, 194, 102, 151, 194, 94, 169] 116 = 183 := by decide +kernel
theorem zsw_54_14 {L : Nat} {lc : zLo} {st : List Value} {M : zM} {x : Int32} : zden L 54 14 lc (.int x :: st) M = if x = 97 then zden L 54 140 lc st M else (if x = 98 then zden L 54 124 lc st M else (if x = 99 then zden L 54 208 lc st M else (if x = 100 then zden L 54 208 lc st M else (if x = 101 then zden L 54 189 lc st M else (if x = 102 then zden L 54 208 lc st M else (if x = 103 then zden L 54 208 lc st M else (if x = 104 then zden L 54 149 lc st M else (if x = 105 then zden L 54 202 lc st M else (if x = 106 then zden L 54 208 lc st M else (if x = 107 then zden L 54 132 lc st M else (if x = 108 then zden L 54 208 lc st M else (if x = 109 then zden L 54 174 lc st M else (if x = 110 then zden L 54 157 lc st M else (if x = 111 then zden L 54 208 lc st M else (if x = 112 then zden L 54 116 lc st M else (if x = 113 then zden L 54 165 lc st M else (if x = 114 then zden L 54 208 lc st M else (if x = 115 then zden L 54 108 lc st M else (if x = 116 then zden L 54 183 lc st M else (zden L 54 208 lc st M)))))))))))))))))))) := by
  rw [zden_jump (pc' := ztsw 14 (194) (97) (116) #[126, 110, 194, 194, 175, 194, 194, 135, 188, 194, 118, 194, 160, 143, 194, 102, 151, 194, 94, 169] x) (st' := st) (e := (.tableswitch (194) (97) (116) #[126, 110, 194, 194, 175, 194, 194, 135, 188, 194, 118, 194, 160, 143, 194, 102, 151, 194, 94, 169], 108, .null, [14])) rfl rfl rfl]
  by_cases h97 : x = 97
  · rw [if_pos h97, h97, zsw_54_14_k97]
  rw [if_neg h97]
  by_cases h98 : x = 98
  · rw [if_pos h98, h98, zsw_54_14_k98]
  rw [if_neg h98]
  by_cases h99 : x = 99
  · rw [if_pos h99, h99, zsw_54_14_k99]
  rw [if_neg h99]
  by_cases h100 : x = 100
  · rw [if_pos h100, h100, zsw_54_14_k100]
  rw [if_neg h100]
  by_cases h101 : x = 101
  · rw [if_pos h101, h101, zsw_54_14_k101]
  rw [if_neg h101]
  by_cases h102 : x = 102
  · rw [if_pos h102, h102, zsw_54_14_k102]
  rw [if_neg h102]
  by_cases h103 : x = 103
  · rw [if_pos h103, h103, zsw_54_14_k103]
  rw [if_neg h103]
  by_cases h104 : x = 104
  · rw [if_pos h104, h104, zsw_54_14_k104]
  rw [if_neg h104]
  by_cases h105 : x = 105
  · rw [if_pos h105, h105, zsw_54_14_k105]
  rw [if_neg h105]
  by_cases h106 : x = 106
  · rw [if_pos h106, h106, zsw_54_14_k106]
  rw [if_neg h106]
  by_cases h107 : x = 107
  · rw [if_pos h107, h107, zsw_54_14_k107]
  rw [if_neg h107]
  by_cases h108 : x = 108
  · rw [if_pos h108, h108, zsw_54_14_k108]
  rw [if_neg h108]
  by_cases h109 : x = 109
  · rw [if_pos h109, h109, zsw_54_14_k109]
  rw [if_neg h109]
  by_cases h110 : x = 110
  · rw [if_pos h110, h110, zsw_54_14_k110]
  rw [if_neg h110]
  by_cases h111 : x = 111
  · rw [if_pos h111, h111, zsw_54_14_k111]
  rw [if_neg h111]
  by_cases h112 : x = 112
  · rw [if_pos h112, h112, zsw_54_14_k112]
  rw [if_neg h112]
  by_cases h113 : x = 113
  · rw [if_pos h113, h113, zsw_54_14_k113]
  rw [if_neg h113]
  by_cases h114 : x = 114
  · rw [if_pos h114, h114, zsw_54_14_k114]
  rw [if_neg h114]
  by_cases h115 : x = 115
  · rw [if_pos h115, h115, zsw_54_14_k115]
  rw [if_neg h115]
  by_cases h116 : x = 116
  · rw [if_pos h116, h116, zsw_54_14_k116]
  rw [if_neg h116]
  have hd : x.toInt < (97) ∨ (116) < x.toInt := by
    have g97 := lv_neT h97 (a := 97) (by decide +kernel)
    have g98 := lv_neT h98 (a := 98) (by decide +kernel)
    have g99 := lv_neT h99 (a := 99) (by decide +kernel)
    have g100 := lv_neT h100 (a := 100) (by decide +kernel)
    have g101 := lv_neT h101 (a := 101) (by decide +kernel)
    have g102 := lv_neT h102 (a := 102) (by decide +kernel)
    have g103 := lv_neT h103 (a := 103) (by decide +kernel)
    have g104 := lv_neT h104 (a := 104) (by decide +kernel)
    have g105 := lv_neT h105 (a := 105) (by decide +kernel)
    have g106 := lv_neT h106 (a := 106) (by decide +kernel)
    have g107 := lv_neT h107 (a := 107) (by decide +kernel)
    have g108 := lv_neT h108 (a := 108) (by decide +kernel)
    have g109 := lv_neT h109 (a := 109) (by decide +kernel)
    have g110 := lv_neT h110 (a := 110) (by decide +kernel)
    have g111 := lv_neT h111 (a := 111) (by decide +kernel)
    have g112 := lv_neT h112 (a := 112) (by decide +kernel)
    have g113 := lv_neT h113 (a := 113) (by decide +kernel)
    have g114 := lv_neT h114 (a := 114) (by decide +kernel)
    have g115 := lv_neT h115 (a := 115) (by decide +kernel)
    have g116 := lv_neT h116 (a := 116) (by decide +kernel)
    omega
  have e : ztsw 14 (194) (97) (116) #[126, 110, 194, 194, 175, 194, 194, 135, 188, 194, 118, 194, 160, 143, 194, 102, 151, 194, 94, 169] x = 208 := by unfold ztsw; rw [if_pos hd]; rfl
  rw [e]
theorem zsw_86_1_k0 : ztsw 1 (48) (0) (3) #[31, 36, 48, 36] 0 = 32 := by decide +kernel
theorem zsw_86_1_k1 : ztsw 1 (48) (0) (3) #[31, 36, 48, 36] 1 = 37 := by decide +kernel
theorem zsw_86_1_k2 : ztsw 1 (48) (0) (3) #[31, 36, 48, 36] 2 = 49 := by decide +kernel
theorem zsw_86_1_k3 : ztsw 1 (48) (0) (3) #[31, 36, 48, 36] 3 = 37 := by decide +kernel
theorem zsw_86_1 {L : Nat} {lc : zLo} {st : List Value} {M : zM} {x : Int32} : zden L 86 1 lc (.int x :: st) M = if x = 0 then zden L 86 32 lc st M else (if x = 1 then zden L 86 37 lc st M else (if x = 2 then zden L 86 49 lc st M else (if x = 3 then zden L 86 37 lc st M else (zden L 86 49 lc st M)))) := by
  rw [zden_jump (pc' := ztsw 1 (48) (0) (3) #[31, 36, 48, 36] x) (st' := st) (e := (.tableswitch (48) (0) (3) #[31, 36, 48, 36], 32, .null, [1])) rfl rfl rfl]
  by_cases h0 : x = 0
  · rw [if_pos h0, h0, zsw_86_1_k0]
  rw [if_neg h0]
  by_cases h1 : x = 1
  · rw [if_pos h1, h1, zsw_86_1_k1]
  rw [if_neg h1]
  by_cases h2 : x = 2
  · rw [if_pos h2, h2, zsw_86_1_k2]
  rw [if_neg h2]
  by_cases h3 : x = 3
  · rw [if_pos h3, h3, zsw_86_1_k3]
  rw [if_neg h3]
  have hd : x.toInt < (0) ∨ (3) < x.toInt := by
    have g0 := lv_neT h0 (a := 0) (by decide +kernel)
    have g1 := lv_neT h1 (a := 1) (by decide +kernel)
    have g2 := lv_neT h2 (a := 2) (by decide +kernel)
    have g3 := lv_neT h3 (a := 3) (by decide +kernel)
    omega
  have e : ztsw 1 (48) (0) (3) #[31, 36, 48, 36] x = 49 := by unfold ztsw; rw [if_pos hd]; rfl
  rw [e]
theorem zsw_88_1_k0 : zlsw 1 (39) #[(0, 27), (2, 37)] 0 = 28 := by decide +kernel
theorem zsw_88_1_k2 : zlsw 1 (39) #[(0, 27), (2, 37)] 2 = 38 := by decide +kernel
theorem zsw_88_1 {L : Nat} {lc : zLo} {st : List Value} {M : zM} {x : Int32} : zden L 88 1 lc (.int x :: st) M = if x = 0 then zden L 88 28 lc st M else (if x = 2 then zden L 88 38 lc st M else (zden L 88 40 lc st M)) := by
  rw [zden_jump (pc' := zlsw 1 (39) #[(0, 27), (2, 37)] x) (st' := st) (e := (.lookupswitch (39) #[(0, 27), (2, 37)], 28, .null, [1])) rfl rfl rfl]
  by_cases h0 : x = 0
  · rw [if_pos h0, h0, zsw_88_1_k0]
  rw [if_neg h0]
  by_cases h2 : x = 2
  · rw [if_pos h2, h2, zsw_88_1_k2]
  rw [if_neg h2]
  have e : zlsw 1 (39) #[(0, 27), (2, 37)] x = 40 := by
    unfold zlsw
    show ((1 : Int) + Op.lookupswitch.offset [(0, 27), (2, 37)] (39) x.toInt).toNat = 40
    rw [lv_osw h0 (by decide +kernel), lv_osw h2 (by decide +kernel)]
    rfl
  rw [e]
theorem zsw_140_1_k0 : ztsw 1 (123) (0) (8) #[51, 59, 67, 75, 83, 94, 99, 107, 115] 0 = 52 := by decide +kernel
theorem zsw_140_1_k1 : ztsw 1 (123) (0) (8) #[51, 59, 67, 75, 83, 94, 99, 107, 115] 1 = 60 := by decide +kernel
theorem zsw_140_1_k2 : ztsw 1 (123) (0) (8) #[51, 59, 67, 75, 83, 94, 99, 107, 115] 2 = 68 := by decide +kernel
theorem zsw_140_1_k3 : ztsw 1 (123) (0) (8) #[51, 59, 67, 75, 83, 94, 99, 107, 115] 3 = 76 := by decide +kernel
theorem zsw_140_1_k4 : ztsw 1 (123) (0) (8) #[51, 59, 67, 75, 83, 94, 99, 107, 115] 4 = 84 := by decide +kernel
theorem zsw_140_1_k5 : ztsw 1 (123) (0) (8) #[51, 59, 67, 75, 83, 94, 99, 107, 115] 5 = 95 := by decide +kernel
theorem zsw_140_1_k6 : ztsw 1 (123) (0) (8) #[51, 59, 67, 75, 83, 94, 99, 107, 115] 6 = 100 := by decide +kernel
theorem zsw_140_1_k7 : ztsw 1 (123) (0) (8) #[51, 59, 67, 75, 83, 94, 99, 107, 115] 7 = 108 := by decide +kernel
theorem zsw_140_1_k8 : ztsw 1 (123) (0) (8) #[51, 59, 67, 75, 83, 94, 99, 107, 115] 8 = 116 := by decide +kernel
theorem zsw_140_1 {L : Nat} {lc : zLo} {st : List Value} {M : zM} {x : Int32} : zden L 140 1 lc (.int x :: st) M = if x = 0 then zden L 140 52 lc st M else (if x = 1 then zden L 140 60 lc st M else (if x = 2 then zden L 140 68 lc st M else (if x = 3 then zden L 140 76 lc st M else (if x = 4 then zden L 140 84 lc st M else (if x = 5 then zden L 140 95 lc st M else (if x = 6 then zden L 140 100 lc st M else (if x = 7 then zden L 140 108 lc st M else (if x = 8 then zden L 140 116 lc st M else (zden L 140 124 lc st M))))))))) := by
  rw [zden_jump (pc' := ztsw 1 (123) (0) (8) #[51, 59, 67, 75, 83, 94, 99, 107, 115] x) (st' := st) (e := (.tableswitch (123) (0) (8) #[51, 59, 67, 75, 83, 94, 99, 107, 115], 52, .null, [1])) rfl rfl rfl]
  by_cases h0 : x = 0
  · rw [if_pos h0, h0, zsw_140_1_k0]
  rw [if_neg h0]
  by_cases h1 : x = 1
  · rw [if_pos h1, h1, zsw_140_1_k1]
  rw [if_neg h1]
  by_cases h2 : x = 2
  · rw [if_pos h2, h2, zsw_140_1_k2]
  rw [if_neg h2]
  by_cases h3 : x = 3
  · rw [if_pos h3, h3, zsw_140_1_k3]
  rw [if_neg h3]
  by_cases h4 : x = 4
  · rw [if_pos h4, h4, zsw_140_1_k4]
  rw [if_neg h4]
  by_cases h5 : x = 5
  · rw [if_pos h5, h5, zsw_140_1_k5]
  rw [if_neg h5]
  by_cases h6 : x = 6
  · rw [if_pos h6, h6, zsw_140_1_k6]
  rw [if_neg h6]
  by_cases h7 : x = 7
  · rw [if_pos h7, h7, zsw_140_1_k7]
  rw [if_neg h7]
  by_cases h8 : x = 8
  · rw [if_pos h8, h8, zsw_140_1_k8]
  rw [if_neg h8]
  have hd : x.toInt < (0) ∨ (8) < x.toInt := by
    have g0 := lv_neT h0 (a := 0) (by decide +kernel)
    have g1 := lv_neT h1 (a := 1) (by decide +kernel)
    have g2 := lv_neT h2 (a := 2) (by decide +kernel)
    have g3 := lv_neT h3 (a := 3) (by decide +kernel)
    have g4 := lv_neT h4 (a := 4) (by decide +kernel)
    have g5 := lv_neT h5 (a := 5) (by decide +kernel)
    have g6 := lv_neT h6 (a := 6) (by decide +kernel)
    have g7 := lv_neT h7 (a := 7) (by decide +kernel)
    have g8 := lv_neT h8 (a := 8) (by decide +kernel)
    omega
  have e : ztsw 1 (123) (0) (8) #[51, 59, 67, 75, 83, 94, 99, 107, 115] x = 124 := by unfold ztsw; rw [if_pos hd]; rfl
  rw [e]
theorem zsw_156_21_k97 : ztsw 21 (356) (97) (116) #[226, 156, 356, 356, 346, 356, 356, 272, 351, 356, 191, 356, 306, 277, 356, 100, 282, 356, 95, 341] 97 = 247 := by decide +kernel
theorem zsw_156_21_k98 : ztsw 21 (356) (97) (116) #[226, 156, 356, 356, 346, 356, 356, 272, 351, 356, 191, 356, 306, 277, 356, 100, 282, 356, 95, 341] 98 = 177 := by decide +kernel
theorem zsw_156_21_k99 : ztsw 21 (356) (97) (116) #[226, 156, 356, 356, 346, 356, 356, 272, 351, 356, 191, 356, 306, 277, 356, 100, 282, 356, 95, 341] 99 = 377 := by decide +kernel
theorem zsw_156_21_k100 : ztsw 21 (356) (97) (116) #[226, 156, 356, 356, 346, 356, 356, 272, 351, 356, 191, 356, 306, 277, 356, 100, 282, 356, 95, 341] 100 = 377 := by decide +kernel
theorem zsw_156_21_k101 : ztsw 21 (356) (97) (116) #[226, 156, 356, 356, 346, 356, 356, 272, 351, 356, 191, 356, 306, 277, 356, 100, 282, 356, 95, 341] 101 = 367 := by decide +kernel
theorem zsw_156_21_k102 : ztsw 21 (356) (97) (116) #[226, 156, 356, 356, 346, 356, 356, 272, 351, 356, 191, 356, 306, 277, 356, 100, 282, 356, 95, 341] 102 = 377 := by decide +kernel
theorem zsw_156_21_k103 : ztsw 21 (356) (97) (116) #[226, 156, 356, 356, 346, 356, 356, 272, 351, 356, 191, 356, 306, 277, 356, 100, 282, 356, 95, 341] 103 = 377 := by decide +kernel
theorem zsw_156_21_k104 : ztsw 21 (356) (97) (116) #[226, 156, 356, 356, 346, 356, 356, 272, 351, 356, 191, 356, 306, 277, 356, 100, 282, 356, 95, 341] 104 = 293 := by decide +kernel
theorem zsw_156_21_k105 : ztsw 21 (356) (97) (116) #[226, 156, 356, 356, 346, 356, 356, 272, 351, 356, 191, 356, 306, 277, 356, 100, 282, 356, 95, 341] 105 = 372 := by decide +kernel
theorem zsw_156_21_k106 : ztsw 21 (356) (97) (116) #[226, 156, 356, 356, 346, 356, 356, 272, 351, 356, 191, 356, 306, 277, 356, 100, 282, 356, 95, 341] 106 = 377 := by decide +kernel
theorem zsw_156_21_k107 : ztsw 21 (356) (97) (116) #[226, 156, 356, 356, 346, 356, 356, 272, 351, 356, 191, 356, 306, 277, 356, 100, 282, 356, 95, 341] 107 = 212 := by decide +kernel
theorem zsw_156_21_k108 : ztsw 21 (356) (97) (116) #[226, 156, 356, 356, 346, 356, 356, 272, 351, 356, 191, 356, 306, 277, 356, 100, 282, 356, 95, 341] 108 = 377 := by decide +kernel
theorem zsw_156_21_k109 : ztsw 21 (356) (97) (116) #[226, 156, 356, 356, 346, 356, 356, 272, 351, 356, 191, 356, 306, 277, 356, 100, 282, 356, 95, 341] 109 = 327 := by decide +kernel
theorem zsw_156_21_k110 : ztsw 21 (356) (97) (116) #[226, 156, 356, 356, 346, 356, 356, 272, 351, 356, 191, 356, 306, 277, 356, 100, 282, 356, 95, 341] 110 = 298 := by decide +kernel
theorem zsw_156_21_k111 : ztsw 21 (356) (97) (116) #[226, 156, 356, 356, 346, 356, 356, 272, 351, 356, 191, 356, 306, 277, 356, 100, 282, 356, 95, 341] 111 = 377 := by decide +kernel
theorem zsw_156_21_k112 : ztsw 21 (356) (97) (116) #[226, 156, 356, 356, 346, 356, 356, 272, 351, 356, 191, 356, 306, 277, 356, 100, 282, 356, 95, 341] 112 = 121 := by decide +kernel
theorem zsw_156_21_k113 : ztsw 21 (356) (97) (116) #[226, 156, 356, 356, 346, 356, 356, 272, 351, 356, 191, 356, 306, 277, 356, 100, 282, 356, 95, 341] 113 = 303 := by decide +kernel
theorem zsw_156_21_k114 : ztsw 21 (356) (97) (116) #[226, 156, 356, 356, 346, 356, 356, 272, 351, 356, 191, 356, 306, 277, 356, 100, 282, 356, 95, 341] 114 = 377 := by decide +kernel
theorem zsw_156_21_k115 : ztsw 21 (356) (97) (116) #[226, 156, 356, 356, 346, 356, 356, 272, 351, 356, 191, 356, 306, 277, 356, 100, 282, 356, 95, 341] 115 = 116 := by decide +kernel
theorem zsw_156_21_k116 : ztsw 21 (356) (97) (116) #[226, 156, 356, 356, 346, 356, 356, 272, 351, 356, 191, 356, 306, 277, 356, 100, 282, 356, 95, 341] 116 = 362 := by decide +kernel
theorem zsw_156_21 {L : Nat} {lc : zLo} {st : List Value} {M : zM} {x : Int32} : zden L 156 21 lc (.int x :: st) M = if x = 97 then zden L 156 247 lc st M else (if x = 98 then zden L 156 177 lc st M else (if x = 99 then zden L 156 377 lc st M else (if x = 100 then zden L 156 377 lc st M else (if x = 101 then zden L 156 367 lc st M else (if x = 102 then zden L 156 377 lc st M else (if x = 103 then zden L 156 377 lc st M else (if x = 104 then zden L 156 293 lc st M else (if x = 105 then zden L 156 372 lc st M else (if x = 106 then zden L 156 377 lc st M else (if x = 107 then zden L 156 212 lc st M else (if x = 108 then zden L 156 377 lc st M else (if x = 109 then zden L 156 327 lc st M else (if x = 110 then zden L 156 298 lc st M else (if x = 111 then zden L 156 377 lc st M else (if x = 112 then zden L 156 121 lc st M else (if x = 113 then zden L 156 303 lc st M else (if x = 114 then zden L 156 377 lc st M else (if x = 115 then zden L 156 116 lc st M else (if x = 116 then zden L 156 362 lc st M else (zden L 156 377 lc st M)))))))))))))))))))) := by
  rw [zden_jump (pc' := ztsw 21 (356) (97) (116) #[226, 156, 356, 356, 346, 356, 356, 272, 351, 356, 191, 356, 306, 277, 356, 100, 282, 356, 95, 341] x) (st' := st) (e := (.tableswitch (356) (97) (116) #[226, 156, 356, 356, 346, 356, 356, 272, 351, 356, 191, 356, 306, 277, 356, 100, 282, 356, 95, 341], 116, .null, [21])) rfl rfl rfl]
  by_cases h97 : x = 97
  · rw [if_pos h97, h97, zsw_156_21_k97]
  rw [if_neg h97]
  by_cases h98 : x = 98
  · rw [if_pos h98, h98, zsw_156_21_k98]
  rw [if_neg h98]
  by_cases h99 : x = 99
  · rw [if_pos h99, h99, zsw_156_21_k99]
  rw [if_neg h99]
  by_cases h100 : x = 100
  · rw [if_pos h100, h100, zsw_156_21_k100]
  rw [if_neg h100]
  by_cases h101 : x = 101
  · rw [if_pos h101, h101, zsw_156_21_k101]
  rw [if_neg h101]
  by_cases h102 : x = 102
  · rw [if_pos h102, h102, zsw_156_21_k102]
  rw [if_neg h102]
  by_cases h103 : x = 103
  · rw [if_pos h103, h103, zsw_156_21_k103]
  rw [if_neg h103]
  by_cases h104 : x = 104
  · rw [if_pos h104, h104, zsw_156_21_k104]
  rw [if_neg h104]
  by_cases h105 : x = 105
  · rw [if_pos h105, h105, zsw_156_21_k105]
  rw [if_neg h105]
  by_cases h106 : x = 106
  · rw [if_pos h106, h106, zsw_156_21_k106]
  rw [if_neg h106]
  by_cases h107 : x = 107
  · rw [if_pos h107, h107, zsw_156_21_k107]
  rw [if_neg h107]
  by_cases h108 : x = 108
  · rw [if_pos h108, h108, zsw_156_21_k108]
  rw [if_neg h108]
  by_cases h109 : x = 109
  · rw [if_pos h109, h109, zsw_156_21_k109]
  rw [if_neg h109]
  by_cases h110 : x = 110
  · rw [if_pos h110, h110, zsw_156_21_k110]
  rw [if_neg h110]
  by_cases h111 : x = 111
  · rw [if_pos h111, h111, zsw_156_21_k111]
  rw [if_neg h111]
  by_cases h112 : x = 112
  · rw [if_pos h112, h112, zsw_156_21_k112]
  rw [if_neg h112]
  by_cases h113 : x = 113
  · rw [if_pos h113, h113, zsw_156_21_k113]
  rw [if_neg h113]
  by_cases h114 : x = 114
  · rw [if_pos h114, h114, zsw_156_21_k114]
  rw [if_neg h114]
  by_cases h115 : x = 115
  · rw [if_pos h115, h115, zsw_156_21_k115]
  rw [if_neg h115]
  by_cases h116 : x = 116
  · rw [if_pos h116, h116, zsw_156_21_k116]
  rw [if_neg h116]
  have hd : x.toInt < (97) ∨ (116) < x.toInt := by
    have g97 := lv_neT h97 (a := 97) (by decide +kernel)
    have g98 := lv_neT h98 (a := 98) (by decide +kernel)
    have g99 := lv_neT h99 (a := 99) (by decide +kernel)
    have g100 := lv_neT h100 (a := 100) (by decide +kernel)
    have g101 := lv_neT h101 (a := 101) (by decide +kernel)
    have g102 := lv_neT h102 (a := 102) (by decide +kernel)
    have g103 := lv_neT h103 (a := 103) (by decide +kernel)
    have g104 := lv_neT h104 (a := 104) (by decide +kernel)
    have g105 := lv_neT h105 (a := 105) (by decide +kernel)
    have g106 := lv_neT h106 (a := 106) (by decide +kernel)
    have g107 := lv_neT h107 (a := 107) (by decide +kernel)
    have g108 := lv_neT h108 (a := 108) (by decide +kernel)
    have g109 := lv_neT h109 (a := 109) (by decide +kernel)
    have g110 := lv_neT h110 (a := 110) (by decide +kernel)
    have g111 := lv_neT h111 (a := 111) (by decide +kernel)
    have g112 := lv_neT h112 (a := 112) (by decide +kernel)
    have g113 := lv_neT h113 (a := 113) (by decide +kernel)
    have g114 := lv_neT h114 (a := 114) (by decide +kernel)
    have g115 := lv_neT h115 (a := 115) (by decide +kernel)
    have g116 := lv_neT h116 (a := 116) (by decide +kernel)
    omega
  have e : ztsw 21 (356) (97) (116) #[226, 156, 356, 356, 346, 356, 356, 272, 351, 356, 191, 356, 306, 277, 356, 100, 282, 356, 95, 341] x = 377 := by unfold ztsw; rw [if_pos hd]; rfl
  rw [e]
theorem zsw_230_1_k0 : ztsw 1 (86) (0) (8) #[51, 51, 51, 51, 58, 66, 71, 76, 81] 0 = 52 := by decide +kernel
theorem zsw_230_1_k1 : ztsw 1 (86) (0) (8) #[51, 51, 51, 51, 58, 66, 71, 76, 81] 1 = 52 := by decide +kernel
theorem zsw_230_1_k2 : ztsw 1 (86) (0) (8) #[51, 51, 51, 51, 58, 66, 71, 76, 81] 2 = 52 := by decide +kernel
theorem zsw_230_1_k3 : ztsw 1 (86) (0) (8) #[51, 51, 51, 51, 58, 66, 71, 76, 81] 3 = 52 := by decide +kernel
theorem zsw_230_1_k4 : ztsw 1 (86) (0) (8) #[51, 51, 51, 51, 58, 66, 71, 76, 81] 4 = 59 := by decide +kernel
theorem zsw_230_1_k5 : ztsw 1 (86) (0) (8) #[51, 51, 51, 51, 58, 66, 71, 76, 81] 5 = 67 := by decide +kernel
theorem zsw_230_1_k6 : ztsw 1 (86) (0) (8) #[51, 51, 51, 51, 58, 66, 71, 76, 81] 6 = 72 := by decide +kernel
theorem zsw_230_1_k7 : ztsw 1 (86) (0) (8) #[51, 51, 51, 51, 58, 66, 71, 76, 81] 7 = 77 := by decide +kernel
theorem zsw_230_1_k8 : ztsw 1 (86) (0) (8) #[51, 51, 51, 51, 58, 66, 71, 76, 81] 8 = 82 := by decide +kernel
theorem zsw_230_1 {L : Nat} {lc : zLo} {st : List Value} {M : zM} {x : Int32} : zden L 230 1 lc (.int x :: st) M = if x = 0 then zden L 230 52 lc st M else (if x = 1 then zden L 230 52 lc st M else (if x = 2 then zden L 230 52 lc st M else (if x = 3 then zden L 230 52 lc st M else (if x = 4 then zden L 230 59 lc st M else (if x = 5 then zden L 230 67 lc st M else (if x = 6 then zden L 230 72 lc st M else (if x = 7 then zden L 230 77 lc st M else (if x = 8 then zden L 230 82 lc st M else (zden L 230 87 lc st M))))))))) := by
  rw [zden_jump (pc' := ztsw 1 (86) (0) (8) #[51, 51, 51, 51, 58, 66, 71, 76, 81] x) (st' := st) (e := (.tableswitch (86) (0) (8) #[51, 51, 51, 51, 58, 66, 71, 76, 81], 52, .null, [1])) rfl rfl rfl]
  by_cases h0 : x = 0
  · rw [if_pos h0, h0, zsw_230_1_k0]
  rw [if_neg h0]
  by_cases h1 : x = 1
  · rw [if_pos h1, h1, zsw_230_1_k1]
  rw [if_neg h1]
  by_cases h2 : x = 2
  · rw [if_pos h2, h2, zsw_230_1_k2]
  rw [if_neg h2]
  by_cases h3 : x = 3
  · rw [if_pos h3, h3, zsw_230_1_k3]
  rw [if_neg h3]
  by_cases h4 : x = 4
  · rw [if_pos h4, h4, zsw_230_1_k4]
  rw [if_neg h4]
  by_cases h5 : x = 5
  · rw [if_pos h5, h5, zsw_230_1_k5]
  rw [if_neg h5]
  by_cases h6 : x = 6
  · rw [if_pos h6, h6, zsw_230_1_k6]
  rw [if_neg h6]
  by_cases h7 : x = 7
  · rw [if_pos h7, h7, zsw_230_1_k7]
  rw [if_neg h7]
  by_cases h8 : x = 8
  · rw [if_pos h8, h8, zsw_230_1_k8]
  rw [if_neg h8]
  have hd : x.toInt < (0) ∨ (8) < x.toInt := by
    have g0 := lv_neT h0 (a := 0) (by decide +kernel)
    have g1 := lv_neT h1 (a := 1) (by decide +kernel)
    have g2 := lv_neT h2 (a := 2) (by decide +kernel)
    have g3 := lv_neT h3 (a := 3) (by decide +kernel)
    have g4 := lv_neT h4 (a := 4) (by decide +kernel)
    have g5 := lv_neT h5 (a := 5) (by decide +kernel)
    have g6 := lv_neT h6 (a := 6) (by decide +kernel)
    have g7 := lv_neT h7 (a := 7) (by decide +kernel)
    have g8 := lv_neT h8 (a := 8) (by decide +kernel)
    omega
  have e : ztsw 1 (86) (0) (8) #[51, 51, 51, 51, 58, 66, 71, 76, 81] x = 87 := by unfold ztsw; rw [if_pos hd]; rfl
  rw [e]
theorem zsw_231_33_k0 : ztsw 33 (1455) (0) (40) #[179, 202, 215, 228, 241, 274, 297, 330, 353, 386, 425, 494, 517, 530, 543, 566, 589, 602, 615, 674, 713, 746, 759, 793, 842, 855, 914, 953, 1012, 1071, 1114, 1127, 1160, 1173, 1196, 1219, 1268, 1327, 1406, 1419, 1432] 0 = 212 := by decide +kernel
theorem zsw_231_33_k1 : ztsw 33 (1455) (0) (40) #[179, 202, 215, 228, 241, 274, 297, 330, 353, 386, 425, 494, 517, 530, 543, 566, 589, 602, 615, 674, 713, 746, 759, 793, 842, 855, 914, 953, 1012, 1071, 1114, 1127, 1160, 1173, 1196, 1219, 1268, 1327, 1406, 1419, 1432] 1 = 235 := by decide +kernel
theorem zsw_231_33_k2 : ztsw 33 (1455) (0) (40) #[179, 202, 215, 228, 241, 274, 297, 330, 353, 386, 425, 494, 517, 530, 543, 566, 589, 602, 615, 674, 713, 746, 759, 793, 842, 855, 914, 953, 1012, 1071, 1114, 1127, 1160, 1173, 1196, 1219, 1268, 1327, 1406, 1419, 1432] 2 = 248 := by decide +kernel
theorem zsw_231_33_k3 : ztsw 33 (1455) (0) (40) #[179, 202, 215, 228, 241, 274, 297, 330, 353, 386, 425, 494, 517, 530, 543, 566, 589, 602, 615, 674, 713, 746, 759, 793, 842, 855, 914, 953, 1012, 1071, 1114, 1127, 1160, 1173, 1196, 1219, 1268, 1327, 1406, 1419, 1432] 3 = 261 := by decide +kernel
theorem zsw_231_33_k4 : ztsw 33 (1455) (0) (40) #[179, 202, 215, 228, 241, 274, 297, 330, 353, 386, 425, 494, 517, 530, 543, 566, 589, 602, 615, 674, 713, 746, 759, 793, 842, 855, 914, 953, 1012, 1071, 1114, 1127, 1160, 1173, 1196, 1219, 1268, 1327, 1406, 1419, 1432] 4 = 274 := by decide +kernel
theorem zsw_231_33_k5 : ztsw 33 (1455) (0) (40) #[179, 202, 215, 228, 241, 274, 297, 330, 353, 386, 425, 494, 517, 530, 543, 566, 589, 602, 615, 674, 713, 746, 759, 793, 842, 855, 914, 953, 1012, 1071, 1114, 1127, 1160, 1173, 1196, 1219, 1268, 1327, 1406, 1419, 1432] 5 = 307 := by decide +kernel
theorem zsw_231_33_k6 : ztsw 33 (1455) (0) (40) #[179, 202, 215, 228, 241, 274, 297, 330, 353, 386, 425, 494, 517, 530, 543, 566, 589, 602, 615, 674, 713, 746, 759, 793, 842, 855, 914, 953, 1012, 1071, 1114, 1127, 1160, 1173, 1196, 1219, 1268, 1327, 1406, 1419, 1432] 6 = 330 := by decide +kernel
theorem zsw_231_33_k7 : ztsw 33 (1455) (0) (40) #[179, 202, 215, 228, 241, 274, 297, 330, 353, 386, 425, 494, 517, 530, 543, 566, 589, 602, 615, 674, 713, 746, 759, 793, 842, 855, 914, 953, 1012, 1071, 1114, 1127, 1160, 1173, 1196, 1219, 1268, 1327, 1406, 1419, 1432] 7 = 363 := by decide +kernel
theorem zsw_231_33_k8 : ztsw 33 (1455) (0) (40) #[179, 202, 215, 228, 241, 274, 297, 330, 353, 386, 425, 494, 517, 530, 543, 566, 589, 602, 615, 674, 713, 746, 759, 793, 842, 855, 914, 953, 1012, 1071, 1114, 1127, 1160, 1173, 1196, 1219, 1268, 1327, 1406, 1419, 1432] 8 = 386 := by decide +kernel
theorem zsw_231_33_k9 : ztsw 33 (1455) (0) (40) #[179, 202, 215, 228, 241, 274, 297, 330, 353, 386, 425, 494, 517, 530, 543, 566, 589, 602, 615, 674, 713, 746, 759, 793, 842, 855, 914, 953, 1012, 1071, 1114, 1127, 1160, 1173, 1196, 1219, 1268, 1327, 1406, 1419, 1432] 9 = 419 := by decide +kernel
theorem zsw_231_33_k10 : ztsw 33 (1455) (0) (40) #[179, 202, 215, 228, 241, 274, 297, 330, 353, 386, 425, 494, 517, 530, 543, 566, 589, 602, 615, 674, 713, 746, 759, 793, 842, 855, 914, 953, 1012, 1071, 1114, 1127, 1160, 1173, 1196, 1219, 1268, 1327, 1406, 1419, 1432] 10 = 458 := by decide +kernel
theorem zsw_231_33_k11 : ztsw 33 (1455) (0) (40) #[179, 202, 215, 228, 241, 274, 297, 330, 353, 386, 425, 494, 517, 530, 543, 566, 589, 602, 615, 674, 713, 746, 759, 793, 842, 855, 914, 953, 1012, 1071, 1114, 1127, 1160, 1173, 1196, 1219, 1268, 1327, 1406, 1419, 1432] 11 = 527 := by decide +kernel
theorem zsw_231_33_k12 : ztsw 33 (1455) (0) (40) #[179, 202, 215, 228, 241, 274, 297, 330, 353, 386, 425, 494, 517, 530, 543, 566, 589, 602, 615, 674, 713, 746, 759, 793, 842, 855, 914, 953, 1012, 1071, 1114, 1127, 1160, 1173, 1196, 1219, 1268, 1327, 1406, 1419, 1432] 12 = 550 := by decide +kernel
theorem zsw_231_33_k13 : ztsw 33 (1455) (0) (40) #[179, 202, 215, 228, 241, 274, 297, 330, 353, 386, 425, 494, 517, 530, 543, 566, 589, 602, 615, 674, 713, 746, 759, 793, 842, 855, 914, 953, 1012, 1071, 1114, 1127, 1160, 1173, 1196, 1219, 1268, 1327, 1406, 1419, 1432] 13 = 563 := by decide +kernel
theorem zsw_231_33_k14 : ztsw 33 (1455) (0) (40) #[179, 202, 215, 228, 241, 274, 297, 330, 353, 386, 425, 494, 517, 530, 543, 566, 589, 602, 615, 674, 713, 746, 759, 793, 842, 855, 914, 953, 1012, 1071, 1114, 1127, 1160, 1173, 1196, 1219, 1268, 1327, 1406, 1419, 1432] 14 = 576 := by decide +kernel
theorem zsw_231_33_k15 : ztsw 33 (1455) (0) (40) #[179, 202, 215, 228, 241, 274, 297, 330, 353, 386, 425, 494, 517, 530, 543, 566, 589, 602, 615, 674, 713, 746, 759, 793, 842, 855, 914, 953, 1012, 1071, 1114, 1127, 1160, 1173, 1196, 1219, 1268, 1327, 1406, 1419, 1432] 15 = 599 := by decide +kernel
theorem zsw_231_33_k16 : ztsw 33 (1455) (0) (40) #[179, 202, 215, 228, 241, 274, 297, 330, 353, 386, 425, 494, 517, 530, 543, 566, 589, 602, 615, 674, 713, 746, 759, 793, 842, 855, 914, 953, 1012, 1071, 1114, 1127, 1160, 1173, 1196, 1219, 1268, 1327, 1406, 1419, 1432] 16 = 622 := by decide +kernel
theorem zsw_231_33_k17 : ztsw 33 (1455) (0) (40) #[179, 202, 215, 228, 241, 274, 297, 330, 353, 386, 425, 494, 517, 530, 543, 566, 589, 602, 615, 674, 713, 746, 759, 793, 842, 855, 914, 953, 1012, 1071, 1114, 1127, 1160, 1173, 1196, 1219, 1268, 1327, 1406, 1419, 1432] 17 = 635 := by decide +kernel
theorem zsw_231_33_k18 : ztsw 33 (1455) (0) (40) #[179, 202, 215, 228, 241, 274, 297, 330, 353, 386, 425, 494, 517, 530, 543, 566, 589, 602, 615, 674, 713, 746, 759, 793, 842, 855, 914, 953, 1012, 1071, 1114, 1127, 1160, 1173, 1196, 1219, 1268, 1327, 1406, 1419, 1432] 18 = 648 := by decide +kernel
theorem zsw_231_33_k19 : ztsw 33 (1455) (0) (40) #[179, 202, 215, 228, 241, 274, 297, 330, 353, 386, 425, 494, 517, 530, 543, 566, 589, 602, 615, 674, 713, 746, 759, 793, 842, 855, 914, 953, 1012, 1071, 1114, 1127, 1160, 1173, 1196, 1219, 1268, 1327, 1406, 1419, 1432] 19 = 707 := by decide +kernel
theorem zsw_231_33_k20 : ztsw 33 (1455) (0) (40) #[179, 202, 215, 228, 241, 274, 297, 330, 353, 386, 425, 494, 517, 530, 543, 566, 589, 602, 615, 674, 713, 746, 759, 793, 842, 855, 914, 953, 1012, 1071, 1114, 1127, 1160, 1173, 1196, 1219, 1268, 1327, 1406, 1419, 1432] 20 = 746 := by decide +kernel
theorem zsw_231_33_k21 : ztsw 33 (1455) (0) (40) #[179, 202, 215, 228, 241, 274, 297, 330, 353, 386, 425, 494, 517, 530, 543, 566, 589, 602, 615, 674, 713, 746, 759, 793, 842, 855, 914, 953, 1012, 1071, 1114, 1127, 1160, 1173, 1196, 1219, 1268, 1327, 1406, 1419, 1432] 21 = 779 := by decide +kernel
theorem zsw_231_33_k22 : ztsw 33 (1455) (0) (40) #[179, 202, 215, 228, 241, 274, 297, 330, 353, 386, 425, 494, 517, 530, 543, 566, 589, 602, 615, 674, 713, 746, 759, 793, 842, 855, 914, 953, 1012, 1071, 1114, 1127, 1160, 1173, 1196, 1219, 1268, 1327, 1406, 1419, 1432] 22 = 792 := by decide +kernel
theorem zsw_231_33_k23 : ztsw 33 (1455) (0) (40) #[179, 202, 215, 228, 241, 274, 297, 330, 353, 386, 425, 494, 517, 530, 543, 566, 589, 602, 615, 674, 713, 746, 759, 793, 842, 855, 914, 953, 1012, 1071, 1114, 1127, 1160, 1173, 1196, 1219, 1268, 1327, 1406, 1419, 1432] 23 = 826 := by decide +kernel
theorem zsw_231_33_k24 : ztsw 33 (1455) (0) (40) #[179, 202, 215, 228, 241, 274, 297, 330, 353, 386, 425, 494, 517, 530, 543, 566, 589, 602, 615, 674, 713, 746, 759, 793, 842, 855, 914, 953, 1012, 1071, 1114, 1127, 1160, 1173, 1196, 1219, 1268, 1327, 1406, 1419, 1432] 24 = 875 := by decide +kernel
theorem zsw_231_33_k25 : ztsw 33 (1455) (0) (40) #[179, 202, 215, 228, 241, 274, 297, 330, 353, 386, 425, 494, 517, 530, 543, 566, 589, 602, 615, 674, 713, 746, 759, 793, 842, 855, 914, 953, 1012, 1071, 1114, 1127, 1160, 1173, 1196, 1219, 1268, 1327, 1406, 1419, 1432] 25 = 888 := by decide +kernel
theorem zsw_231_33_k26 : ztsw 33 (1455) (0) (40) #[179, 202, 215, 228, 241, 274, 297, 330, 353, 386, 425, 494, 517, 530, 543, 566, 589, 602, 615, 674, 713, 746, 759, 793, 842, 855, 914, 953, 1012, 1071, 1114, 1127, 1160, 1173, 1196, 1219, 1268, 1327, 1406, 1419, 1432] 26 = 947 := by decide +kernel
theorem zsw_231_33_k27 : ztsw 33 (1455) (0) (40) #[179, 202, 215, 228, 241, 274, 297, 330, 353, 386, 425, 494, 517, 530, 543, 566, 589, 602, 615, 674, 713, 746, 759, 793, 842, 855, 914, 953, 1012, 1071, 1114, 1127, 1160, 1173, 1196, 1219, 1268, 1327, 1406, 1419, 1432] 27 = 986 := by decide +kernel
theorem zsw_231_33_k28 : ztsw 33 (1455) (0) (40) #[179, 202, 215, 228, 241, 274, 297, 330, 353, 386, 425, 494, 517, 530, 543, 566, 589, 602, 615, 674, 713, 746, 759, 793, 842, 855, 914, 953, 1012, 1071, 1114, 1127, 1160, 1173, 1196, 1219, 1268, 1327, 1406, 1419, 1432] 28 = 1045 := by decide +kernel
theorem zsw_231_33_k29 : ztsw 33 (1455) (0) (40) #[179, 202, 215, 228, 241, 274, 297, 330, 353, 386, 425, 494, 517, 530, 543, 566, 589, 602, 615, 674, 713, 746, 759, 793, 842, 855, 914, 953, 1012, 1071, 1114, 1127, 1160, 1173, 1196, 1219, 1268, 1327, 1406, 1419, 1432] 29 = 1104 := by decide +kernel
theorem zsw_231_33_k30 : ztsw 33 (1455) (0) (40) #[179, 202, 215, 228, 241, 274, 297, 330, 353, 386, 425, 494, 517, 530, 543, 566, 589, 602, 615, 674, 713, 746, 759, 793, 842, 855, 914, 953, 1012, 1071, 1114, 1127, 1160, 1173, 1196, 1219, 1268, 1327, 1406, 1419, 1432] 30 = 1147 := by decide +kernel
theorem zsw_231_33_k31 : ztsw 33 (1455) (0) (40) #[179, 202, 215, 228, 241, 274, 297, 330, 353, 386, 425, 494, 517, 530, 543, 566, 589, 602, 615, 674, 713, 746, 759, 793, 842, 855, 914, 953, 1012, 1071, 1114, 1127, 1160, 1173, 1196, 1219, 1268, 1327, 1406, 1419, 1432] 31 = 1160 := by decide +kernel
theorem zsw_231_33_k32 : ztsw 33 (1455) (0) (40) #[179, 202, 215, 228, 241, 274, 297, 330, 353, 386, 425, 494, 517, 530, 543, 566, 589, 602, 615, 674, 713, 746, 759, 793, 842, 855, 914, 953, 1012, 1071, 1114, 1127, 1160, 1173, 1196, 1219, 1268, 1327, 1406, 1419, 1432] 32 = 1193 := by decide +kernel
theorem zsw_231_33_k33 : ztsw 33 (1455) (0) (40) #[179, 202, 215, 228, 241, 274, 297, 330, 353, 386, 425, 494, 517, 530, 543, 566, 589, 602, 615, 674, 713, 746, 759, 793, 842, 855, 914, 953, 1012, 1071, 1114, 1127, 1160, 1173, 1196, 1219, 1268, 1327, 1406, 1419, 1432] 33 = 1206 := by decide +kernel
theorem zsw_231_33_k34 : ztsw 33 (1455) (0) (40) #[179, 202, 215, 228, 241, 274, 297, 330, 353, 386, 425, 494, 517, 530, 543, 566, 589, 602, 615, 674, 713, 746, 759, 793, 842, 855, 914, 953, 1012, 1071, 1114, 1127, 1160, 1173, 1196, 1219, 1268, 1327, 1406, 1419, 1432] 34 = 1229 := by decide +kernel
theorem zsw_231_33_k35 : ztsw 33 (1455) (0) (40) #[179, 202, 215, 228, 241, 274, 297, 330, 353, 386, 425, 494, 517, 530, 543, 566, 589, 602, 615, 674, 713, 746, 759, 793, 842, 855, 914, 953, 1012, 1071, 1114, 1127, 1160, 1173, 1196, 1219, 1268, 1327, 1406, 1419, 1432] 35 = 1252 := by decide +kernel
theorem zsw_231_33_k36 : ztsw 33 (1455) (0) (40) #[179, 202, 215, 228, 241, 274, 297, 330, 353, 386, 425, 494, 517, 530, 543, 566, 589, 602, 615, 674, 713, 746, 759, 793, 842, 855, 914, 953, 1012, 1071, 1114, 1127, 1160, 1173, 1196, 1219, 1268, 1327, 1406, 1419, 1432] 36 = 1301 := by decide +kernel
theorem zsw_231_33_k37 : ztsw 33 (1455) (0) (40) #[179, 202, 215, 228, 241, 274, 297, 330, 353, 386, 425, 494, 517, 530, 543, 566, 589, 602, 615, 674, 713, 746, 759, 793, 842, 855, 914, 953, 1012, 1071, 1114, 1127, 1160, 1173, 1196, 1219, 1268, 1327, 1406, 1419, 1432] 37 = 1360 := by decide +kernel
theorem zsw_231_33_k38 : ztsw 33 (1455) (0) (40) #[179, 202, 215, 228, 241, 274, 297, 330, 353, 386, 425, 494, 517, 530, 543, 566, 589, 602, 615, 674, 713, 746, 759, 793, 842, 855, 914, 953, 1012, 1071, 1114, 1127, 1160, 1173, 1196, 1219, 1268, 1327, 1406, 1419, 1432] 38 = 1439 := by decide +kernel
theorem zsw_231_33_k39 : ztsw 33 (1455) (0) (40) #[179, 202, 215, 228, 241, 274, 297, 330, 353, 386, 425, 494, 517, 530, 543, 566, 589, 602, 615, 674, 713, 746, 759, 793, 842, 855, 914, 953, 1012, 1071, 1114, 1127, 1160, 1173, 1196, 1219, 1268, 1327, 1406, 1419, 1432] 39 = 1452 := by decide +kernel
theorem zsw_231_33_k40 : ztsw 33 (1455) (0) (40) #[179, 202, 215, 228, 241, 274, 297, 330, 353, 386, 425, 494, 517, 530, 543, 566, 589, 602, 615, 674, 713, 746, 759, 793, 842, 855, 914, 953, 1012, 1071, 1114, 1127, 1160, 1173, 1196, 1219, 1268, 1327, 1406, 1419, 1432] 40 = 1465 := by decide +kernel
theorem zsw_231_33 {L : Nat} {lc : zLo} {st : List Value} {M : zM} {x : Int32} : zden L 231 33 lc (.int x :: st) M = if x = 0 then zden L 231 212 lc st M else (if x = 1 then zden L 231 235 lc st M else (if x = 2 then zden L 231 248 lc st M else (if x = 3 then zden L 231 261 lc st M else (if x = 4 then zden L 231 274 lc st M else (if x = 5 then zden L 231 307 lc st M else (if x = 6 then zden L 231 330 lc st M else (if x = 7 then zden L 231 363 lc st M else (if x = 8 then zden L 231 386 lc st M else (if x = 9 then zden L 231 419 lc st M else (if x = 10 then zden L 231 458 lc st M else (if x = 11 then zden L 231 527 lc st M else (if x = 12 then zden L 231 550 lc st M else (if x = 13 then zden L 231 563 lc st M else (if x = 14 then zden L 231 576 lc st M else (if x = 15 then zden L 231 599 lc st M else (if x = 16 then zden L 231 622 lc st M else (if x = 17 then zden L 231 635 lc st M else (if x = 18 then zden L 231 648 lc st M else (if x = 19 then zden L 231 707 lc st M else (if x = 20 then zden L 231 746 lc st M else (if x = 21 then zden L 231 779 lc st M else (if x = 22 then zden L 231 792 lc st M else (if x = 23 then zden L 231 826 lc st M else (if x = 24 then zden L 231 875 lc st M else (if x = 25 then zden L 231 888 lc st M else (if x = 26 then zden L 231 947 lc st M else (if x = 27 then zden L 231 986 lc st M else (if x = 28 then zden L 231 1045 lc st M else (if x = 29 then zden L 231 1104 lc st M else (if x = 30 then zden L 231 1147 lc st M else (if x = 31 then zden L 231 1160 lc st M else (if x = 32 then zden L 231 1193 lc st M else (if x = 33 then zden L 231 1206 lc st M else (if x = 34 then zden L 231 1229 lc st M else (if x = 35 then zden L 231 1252 lc st M else (if x = 36 then zden L 231 1301 lc st M else (if x = 37 then zden L 231 1360 lc st M else (if x = 38 then zden L 231 1439 lc st M else (if x = 39 then zden L 231 1452 lc st M else (if x = 40 then zden L 231 1465 lc st M else (zden L 231 1488 lc st M))))))))))))))))))))))))))))))))))))))))) := by
  rw [zden_jump (pc' := ztsw 33 (1455) (0) (40) #[179, 202, 215, 228, 241, 274, 297, 330, 353, 386, 425, 494, 517, 530, 543, 566, 589, 602, 615, 674, 713, 746, 759, 793, 842, 855, 914, 953, 1012, 1071, 1114, 1127, 1160, 1173, 1196, 1219, 1268, 1327, 1406, 1419, 1432] x) (st' := st) (e := (.tableswitch (1455) (0) (40) #[179, 202, 215, 228, 241, 274, 297, 330, 353, 386, 425, 494, 517, 530, 543, 566, 589, 602, 615, 674, 713, 746, 759, 793, 842, 855, 914, 953, 1012, 1071, 1114, 1127, 1160, 1173, 1196, 1219, 1268, 1327, 1406, 1419, 1432], 212, .null, [33])) rfl rfl rfl]
  by_cases h0 : x = 0
  · rw [if_pos h0, h0, zsw_231_33_k0]
  rw [if_neg h0]
  by_cases h1 : x = 1
  · rw [if_pos h1, h1, zsw_231_33_k1]
  rw [if_neg h1]
  by_cases h2 : x = 2
  · rw [if_pos h2, h2, zsw_231_33_k2]
  rw [if_neg h2]
  by_cases h3 : x = 3
  · rw [if_pos h3, h3, zsw_231_33_k3]
  rw [if_neg h3]
  by_cases h4 : x = 4
  · rw [if_pos h4, h4, zsw_231_33_k4]
  rw [if_neg h4]
  by_cases h5 : x = 5
  · rw [if_pos h5, h5, zsw_231_33_k5]
  rw [if_neg h5]
  by_cases h6 : x = 6
  · rw [if_pos h6, h6, zsw_231_33_k6]
  rw [if_neg h6]
  by_cases h7 : x = 7
  · rw [if_pos h7, h7, zsw_231_33_k7]
  rw [if_neg h7]
  by_cases h8 : x = 8
  · rw [if_pos h8, h8, zsw_231_33_k8]
  rw [if_neg h8]
  by_cases h9 : x = 9
  · rw [if_pos h9, h9, zsw_231_33_k9]
  rw [if_neg h9]
  by_cases h10 : x = 10
  · rw [if_pos h10, h10, zsw_231_33_k10]
  rw [if_neg h10]
  by_cases h11 : x = 11
  · rw [if_pos h11, h11, zsw_231_33_k11]
  rw [if_neg h11]
  by_cases h12 : x = 12
  · rw [if_pos h12, h12, zsw_231_33_k12]
  rw [if_neg h12]
  by_cases h13 : x = 13
  · rw [if_pos h13, h13, zsw_231_33_k13]
  rw [if_neg h13]
  by_cases h14 : x = 14
  · rw [if_pos h14, h14, zsw_231_33_k14]
  rw [if_neg h14]
  by_cases h15 : x = 15
  · rw [if_pos h15, h15, zsw_231_33_k15]
  rw [if_neg h15]
  by_cases h16 : x = 16
  · rw [if_pos h16, h16, zsw_231_33_k16]
  rw [if_neg h16]
  by_cases h17 : x = 17
  · rw [if_pos h17, h17, zsw_231_33_k17]
  rw [if_neg h17]
  by_cases h18 : x = 18
  · rw [if_pos h18, h18, zsw_231_33_k18]
  rw [if_neg h18]
  by_cases h19 : x = 19
  · rw [if_pos h19, h19, zsw_231_33_k19]
  rw [if_neg h19]
  by_cases h20 : x = 20
  · rw [if_pos h20, h20, zsw_231_33_k20]
  rw [if_neg h20]
  by_cases h21 : x = 21
  · rw [if_pos h21, h21, zsw_231_33_k21]
  rw [if_neg h21]
  by_cases h22 : x = 22
  · rw [if_pos h22, h22, zsw_231_33_k22]
  rw [if_neg h22]
  by_cases h23 : x = 23
  · rw [if_pos h23, h23, zsw_231_33_k23]
  rw [if_neg h23]
  by_cases h24 : x = 24
  · rw [if_pos h24, h24, zsw_231_33_k24]
  rw [if_neg h24]
  by_cases h25 : x = 25
  · rw [if_pos h25, h25, zsw_231_33_k25]
  rw [if_neg h25]
  by_cases h26 : x = 26
  · rw [if_pos h26, h26, zsw_231_33_k26]
  rw [if_neg h26]
  by_cases h27 : x = 27
  · rw [if_pos h27, h27, zsw_231_33_k27]
  rw [if_neg h27]
  by_cases h28 : x = 28
  · rw [if_pos h28, h28, zsw_231_33_k28]
  rw [if_neg h28]
  by_cases h29 : x = 29
  · rw [if_pos h29, h29, zsw_231_33_k29]
  rw [if_neg h29]
  by_cases h30 : x = 30
  · rw [if_pos h30, h30, zsw_231_33_k30]
  rw [if_neg h30]
  by_cases h31 : x = 31
  · rw [if_pos h31, h31, zsw_231_33_k31]
  rw [if_neg h31]
  by_cases h32 : x = 32
  · rw [if_pos h32, h32, zsw_231_33_k32]
  rw [if_neg h32]
  by_cases h33 : x = 33
  · rw [if_pos h33, h33, zsw_231_33_k33]
  rw [if_neg h33]
  by_cases h34 : x = 34
  · rw [if_pos h34, h34, zsw_231_33_k34]
  rw [if_neg h34]
  by_cases h35 : x = 35
  · rw [if_pos h35, h35, zsw_231_33_k35]
  rw [if_neg h35]
  by_cases h36 : x = 36
  · rw [if_pos h36, h36, zsw_231_33_k36]
  rw [if_neg h36]
  by_cases h37 : x = 37
  · rw [if_pos h37, h37, zsw_231_33_k37]
  rw [if_neg h37]
  by_cases h38 : x = 38
  · rw [if_pos h38, h38, zsw_231_33_k38]
  rw [if_neg h38]
  by_cases h39 : x = 39
  · rw [if_pos h39, h39, zsw_231_33_k39]
  rw [if_neg h39]
  by_cases h40 : x = 40
  · rw [if_pos h40, h40, zsw_231_33_k40]
  rw [if_neg h40]
  have hd : x.toInt < (0) ∨ (40) < x.toInt := by
    have g0 := lv_neT h0 (a := 0) (by decide +kernel)
    have g1 := lv_neT h1 (a := 1) (by decide +kernel)
    have g2 := lv_neT h2 (a := 2) (by decide +kernel)
    have g3 := lv_neT h3 (a := 3) (by decide +kernel)
    have g4 := lv_neT h4 (a := 4) (by decide +kernel)
    have g5 := lv_neT h5 (a := 5) (by decide +kernel)
    have g6 := lv_neT h6 (a := 6) (by decide +kernel)
    have g7 := lv_neT h7 (a := 7) (by decide +kernel)
    have g8 := lv_neT h8 (a := 8) (by decide +kernel)
    have g9 := lv_neT h9 (a := 9) (by decide +kernel)
    have g10 := lv_neT h10 (a := 10) (by decide +kernel)
    have g11 := lv_neT h11 (a := 11) (by decide +kernel)
    have g12 := lv_neT h12 (a := 12) (by decide +kernel)
    have g13 := lv_neT h13 (a := 13) (by decide +kernel)
    have g14 := lv_neT h14 (a := 14) (by decide +kernel)
    have g15 := lv_neT h15 (a := 15) (by decide +kernel)
    have g16 := lv_neT h16 (a := 16) (by decide +kernel)
    have g17 := lv_neT h17 (a := 17) (by decide +kernel)
    have g18 := lv_neT h18 (a := 18) (by decide +kernel)
    have g19 := lv_neT h19 (a := 19) (by decide +kernel)
    have g20 := lv_neT h20 (a := 20) (by decide +kernel)
    have g21 := lv_neT h21 (a := 21) (by decide +kernel)
    have g22 := lv_neT h22 (a := 22) (by decide +kernel)
    have g23 := lv_neT h23 (a := 23) (by decide +kernel)
    have g24 := lv_neT h24 (a := 24) (by decide +kernel)
    have g25 := lv_neT h25 (a := 25) (by decide +kernel)
    have g26 := lv_neT h26 (a := 26) (by decide +kernel)
    have g27 := lv_neT h27 (a := 27) (by decide +kernel)
    have g28 := lv_neT h28 (a := 28) (by decide +kernel)
    have g29 := lv_neT h29 (a := 29) (by decide +kernel)
    have g30 := lv_neT h30 (a := 30) (by decide +kernel)
    have g31 := lv_neT h31 (a := 31) (by decide +kernel)
    have g32 := lv_neT h32 (a := 32) (by decide +kernel)
    have g33 := lv_neT h33 (a := 33) (by decide +kernel)
    have g34 := lv_neT h34 (a := 34) (by decide +kernel)
    have g35 := lv_neT h35 (a := 35) (by decide +kernel)
    have g36 := lv_neT h36 (a := 36) (by decide +kernel)
    have g37 := lv_neT h37 (a := 37) (by decide +kernel)
    have g38 := lv_neT h38 (a := 38) (by decide +kernel)
    have g39 := lv_neT h39 (a := 39) (by decide +kernel)
    have g40 := lv_neT h40 (a := 40) (by decide +kernel)
    omega
  have e : ztsw 33 (1455) (0) (40) #[179, 202, 215, 228, 241, 274, 297, 330, 353, 386, 425, 494, 517, 530, 543, 566, 589, 602, 615, 674, 713, 746, 759, 793, 842, 855, 914, 953, 1012, 1071, 1114, 1127, 1160, 1173, 1196, 1219, 1268, 1327, 1406, 1419, 1432] x = 1488 := by unfold ztsw; rw [if_pos hd]; rfl
  rw [e]
