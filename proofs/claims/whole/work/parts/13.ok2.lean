theorem ok_303_0 : cd_ck 303 cd_303_0 0 = true := by decide +kernel
theorem ok_303_1 : cd_ck 303 cd_303_1 100 = true := by decide +kernel
theorem ok_303_2 : cd_ck 303 cd_303_2 200 = true := by decide +kernel
theorem ok_303_3 : cd_ck 303 cd_303_3 300 = true := by decide +kernel
theorem ok_303_4 : cd_ck 303 cd_303_4 400 = true := by decide +kernel
theorem ok_303_5 : cd_ck 303 cd_303_5 500 = true := by decide +kernel
theorem ok_303_6 : cd_ck 303 cd_303_6 600 = true := by decide +kernel
theorem ok_303_7 : cd_ck 303 cd_303_7 700 = true := by decide +kernel
theorem ok_303_8 : cd_ck 303 cd_303_8 800 = true := by decide +kernel
theorem ok_303_9 : cd_ck 303 cd_303_9 900 = true := by decide +kernel
theorem ok_303_10 : cd_ck 303 cd_303_10 1000 = true := by decide +kernel
theorem ok_303_11 : cd_ck 303 cd_303_11 1100 = true := by decide +kernel
theorem ok_303_12 : cd_ck 303 cd_303_12 1200 = true := by decide +kernel
theorem cd_ck_app {k : Nat} : ∀ (a b : List mm_E) (i : Nat), cd_ck k a i = true → cd_ck k b (i + a.length) = true → cd_ck k (a ++ b) i = true := by
  intro a
  induction a with
  | nil => intro b i _ h; exact h
  | cons e r ih =>
    intro b i h1 h2
    simp only [cd_ck, Bool.and_eq_true] at h1
    simp only [List.cons_append, cd_ck, Bool.and_eq_true]
    exact ⟨h1.1, ih b (i + 1) h1.2 (by have e9 : i + 1 + r.length = i + (r.length + 1) := by omega
                                       rw [e9]; exact h2)⟩
theorem ok_303 : cd_ck 303 (cd 303) 0 = true := cd_ck_app _ _ _ ok_303_0 (cd_ck_app _ _ _ ok_303_1 (cd_ck_app _ _ _ ok_303_2 (cd_ck_app _ _ _ ok_303_3 (cd_ck_app _ _ _ ok_303_4 (cd_ck_app _ _ _ ok_303_5 (cd_ck_app _ _ _ ok_303_6 (cd_ck_app _ _ _ ok_303_7 (cd_ck_app _ _ _ ok_303_8 (cd_ck_app _ _ _ ok_303_9 (cd_ck_app _ _ _ ok_303_10 (cd_ck_app _ _ _ ok_303_11 (ok_303_12))))))))))))
theorem mk_0 : mm_mok (mt 0) := ⟨by decide +kernel, rfl, ⟨by decide +kernel, by decide +kernel⟩, by decide +kernel, fun _ => rfl⟩
theorem mk_1 : mm_mok (mt 1) := ⟨by decide +kernel, rfl, ⟨by decide +kernel, by decide +kernel⟩, by decide +kernel, fun _ => rfl⟩
theorem mk_2 : mm_mok (mt 2) := ⟨by decide +kernel, rfl, ⟨by decide +kernel, by decide +kernel⟩, by decide +kernel, fun h => absurd h (by decide)⟩
theorem mk_3 : mm_mok (mt 3) := ⟨by decide +kernel, rfl, ⟨by decide +kernel, by decide +kernel⟩, by decide +kernel, fun _ => rfl⟩
theorem mk_4 : mm_mok (mt 4) := ⟨by decide +kernel, rfl, ⟨by decide +kernel, by decide +kernel⟩, by decide +kernel, fun h => absurd h (by decide)⟩
theorem mk_5 : mm_mok (mt 5) := ⟨by decide +kernel, rfl, ⟨by decide +kernel, by decide +kernel⟩, by decide +kernel, fun _ => rfl⟩
theorem mk_6 : mm_mok (mt 6) := ⟨by decide +kernel, rfl, ⟨by decide +kernel, by decide +kernel⟩, by decide +kernel, fun _ => rfl⟩
theorem mk_7 : mm_mok (mt 7) := ⟨by decide +kernel, rfl, ⟨by decide +kernel, by decide +kernel⟩, by decide +kernel, fun _ => rfl⟩
theorem mk_8 : mm_mok (mt 8) := ⟨by decide +kernel, rfl, ⟨by decide +kernel, by decide +kernel⟩, by decide +kernel, fun _ => rfl⟩
theorem mk_9 : mm_mok (mt 9) := ⟨by decide +kernel, rfl, ⟨by decide +kernel, by decide +kernel⟩, by decide +kernel, fun _ => rfl⟩
theorem mk_10 : mm_mok (mt 10) := ⟨by decide +kernel, rfl, ⟨by decide +kernel, by decide +kernel⟩, by decide +kernel, fun _ => rfl⟩
theorem mk_11 : mm_mok (mt 11) := ⟨by decide +kernel, rfl, ⟨by decide +kernel, by decide +kernel⟩, by decide +kernel, fun _ => rfl⟩
theorem mk_12 : mm_mok (mt 12) := ⟨by decide +kernel, rfl, ⟨by decide +kernel, by decide +kernel⟩, by decide +kernel, fun h => absurd h (by decide)⟩
theorem mk_13 : mm_mok (mt 13) := ⟨by decide +kernel, rfl, ⟨by decide +kernel, by decide +kernel⟩, by decide +kernel, fun h => absurd h (by decide)⟩
theorem mk_14 : mm_mok (mt 14) := ⟨by decide +kernel, rfl, ⟨by decide +kernel, by decide +kernel⟩, by decide +kernel, fun h => absurd h (by decide)⟩
theorem mk_15 : mm_mok (mt 15) := ⟨by decide +kernel, rfl, ⟨by decide +kernel, by decide +kernel⟩, by decide +kernel, fun h => absurd h (by decide)⟩
theorem mk_16 : mm_mok (mt 16) := ⟨by decide +kernel, rfl, ⟨by decide +kernel, by decide +kernel⟩, by decide +kernel, fun h => absurd h (by decide)⟩
theorem mk_17 : mm_mok (mt 17) := ⟨by decide +kernel, rfl, ⟨by decide +kernel, by decide +kernel⟩, by decide +kernel, fun h => absurd h (by decide)⟩
theorem mk_18 : mm_mok (mt 18) := ⟨by decide +kernel, rfl, ⟨by decide +kernel, by decide +kernel⟩, by decide +kernel, fun h => absurd h (by decide)⟩
theorem mk_19 : mm_mok (mt 19) := ⟨by decide +kernel, rfl, ⟨by decide +kernel, by decide +kernel⟩, by decide +kernel, fun h => absurd h (by decide)⟩
theorem mk_20 : mm_mok (mt 20) := ⟨by decide +kernel, rfl, ⟨by decide +kernel, by decide +kernel⟩, by decide +kernel, fun h => absurd h (by decide)⟩
theorem mk_21 : mm_mok (mt 21) := ⟨by decide +kernel, rfl, ⟨by decide +kernel, by decide +kernel⟩, by decide +kernel, fun h => absurd h (by decide)⟩
theorem mk_22 : mm_mok (mt 22) := ⟨by decide +kernel, rfl, ⟨by decide +kernel, by decide +kernel⟩, by decide +kernel, fun h => absurd h (by decide)⟩
theorem mk_23 : mm_mok (mt 23) := ⟨by decide +kernel, rfl, ⟨by decide +kernel, by decide +kernel⟩, by decide +kernel, fun h => absurd h (by decide)⟩
theorem mk_24 : mm_mok (mt 24) := ⟨by decide +kernel, rfl, ⟨by decide +kernel, by decide +kernel⟩, by decide +kernel, fun h => absurd h (by decide)⟩
theorem mk_25 : mm_mok (mt 25) := ⟨by decide +kernel, rfl, ⟨by decide +kernel, by decide +kernel⟩, by decide +kernel, fun h => absurd h (by decide)⟩
theorem mk_26 : mm_mok (mt 26) := ⟨by decide +kernel, rfl, ⟨by decide +kernel, by decide +kernel⟩, by decide +kernel, fun h => absurd h (by decide)⟩
theorem mk_27 : mm_mok (mt 27) := ⟨by decide +kernel, rfl, ⟨by decide +kernel, by decide +kernel⟩, by decide +kernel, fun h => absurd h (by decide)⟩
theorem mk_28 : mm_mok (mt 28) := ⟨by decide +kernel, rfl, ⟨by decide +kernel, by decide +kernel⟩, by decide +kernel, fun h => absurd h (by decide)⟩
theorem mk_29 : mm_mok (mt 29) := ⟨by decide +kernel, rfl, ⟨by decide +kernel, by decide +kernel⟩, by decide +kernel, fun h => absurd h (by decide)⟩
theorem mk_30 : mm_mok (mt 30) := ⟨by decide +kernel, rfl, ⟨by decide +kernel, by decide +kernel⟩, by decide +kernel, fun h => absurd h (by decide)⟩
theorem mk_31 : mm_mok (mt 31) := ⟨by decide +kernel, rfl, ⟨by decide +kernel, by decide +kernel⟩, by decide +kernel, fun h => absurd h (by decide)⟩
theorem mk_32 : mm_mok (mt 32) := ⟨by decide +kernel, rfl, ⟨by decide +kernel, by decide +kernel⟩, by decide +kernel, fun h => absurd h (by decide)⟩
theorem mk_33 : mm_mok (mt 33) := ⟨by decide +kernel, rfl, ⟨by decide +kernel, by decide +kernel⟩, by decide +kernel, fun h => absurd h (by decide)⟩
theorem mk_34 : mm_mok (mt 34) := ⟨by decide +kernel, rfl, ⟨by decide +kernel, by decide +kernel⟩, by decide +kernel, fun h => absurd h (by decide)⟩
theorem mk_35 : mm_mok (mt 35) := ⟨by decide +kernel, rfl, ⟨by decide +kernel, by decide +kernel⟩, by decide +kernel, fun h => absurd h (by decide)⟩
theorem mk_36 : mm_mok (mt 36) := ⟨by decide +kernel, rfl, ⟨by decide +kernel, by decide +kernel⟩, by decide +kernel, fun h => absurd h (by decide)⟩
theorem mk_37 : mm_mok (mt 37) := ⟨by decide +kernel, rfl, ⟨by decide +kernel, by decide +kernel⟩, by decide +kernel, fun h => absurd h (by decide)⟩
theorem mk_38 : mm_mok (mt 38) := ⟨by decide +kernel, rfl, ⟨by decide +kernel, by decide +kernel⟩, by decide +kernel, fun h => absurd h (by decide)⟩
theorem mk_39 : mm_mok (mt 39) := ⟨by decide +kernel, rfl, ⟨by decide +kernel, by decide +kernel⟩, by decide +kernel, fun h => absurd h (by decide)⟩
theorem mk_40 : mm_mok (mt 40) := ⟨by decide +kernel, rfl, ⟨by decide +kernel, by decide +kernel⟩, by decide +kernel, fun h => absurd h (by decide)⟩
theorem mk_41 : mm_mok (mt 41) := ⟨by decide +kernel, rfl, ⟨by decide +kernel, by decide +kernel⟩, by decide +kernel, fun h => absurd h (by decide)⟩
theorem mk_42 : mm_mok (mt 42) := ⟨by decide +kernel, rfl, ⟨by decide +kernel, by decide +kernel⟩, by decide +kernel, fun h => absurd h (by decide)⟩
theorem mk_43 : mm_mok (mt 43) := ⟨by decide +kernel, rfl, ⟨by decide +kernel, by decide +kernel⟩, by decide +kernel, fun h => absurd h (by decide)⟩
theorem mk_44 : mm_mok (mt 44) := ⟨by decide +kernel, rfl, ⟨by decide +kernel, by decide +kernel⟩, by decide +kernel, fun h => absurd h (by decide)⟩
theorem mk_45 : mm_mok (mt 45) := ⟨by decide +kernel, rfl, ⟨by decide +kernel, by decide +kernel⟩, by decide +kernel, fun h => absurd h (by decide)⟩
theorem mk_46 : mm_mok (mt 46) := ⟨by decide +kernel, rfl, ⟨by decide +kernel, by decide +kernel⟩, by decide +kernel, fun h => absurd h (by decide)⟩
theorem mk_47 : mm_mok (mt 47) := ⟨by decide +kernel, rfl, ⟨by decide +kernel, by decide +kernel⟩, by decide +kernel, fun h => absurd h (by decide)⟩
theorem mk_48 : mm_mok (mt 48) := ⟨by decide +kernel, rfl, ⟨by decide +kernel, by decide +kernel⟩, by decide +kernel, fun h => absurd h (by decide)⟩
theorem mk_49 : mm_mok (mt 49) := ⟨by decide +kernel, rfl, ⟨by decide +kernel, by decide +kernel⟩, by decide +kernel, fun h => absurd h (by decide)⟩
theorem mk_50 : mm_mok (mt 50) := ⟨by decide +kernel, rfl, ⟨by decide +kernel, by decide +kernel⟩, by decide +kernel, fun h => absurd h (by decide)⟩
theorem mk_51 : mm_mok (mt 51) := ⟨by decide +kernel, rfl, ⟨by decide +kernel, by decide +kernel⟩, by decide +kernel, fun h => absurd h (by decide)⟩
theorem mk_52 : mm_mok (mt 52) := ⟨by decide +kernel, rfl, ⟨by decide +kernel, by decide +kernel⟩, by decide +kernel, fun h => absurd h (by decide)⟩
theorem mk_53 : mm_mok (mt 53) := ⟨by decide +kernel, rfl, ⟨by decide +kernel, by decide +kernel⟩, by decide +kernel, fun h => absurd h (by decide)⟩
theorem mk_54 : mm_mok (mt 54) := ⟨by decide +kernel, rfl, ⟨by decide +kernel, by decide +kernel⟩, by decide +kernel, fun h => absurd h (by decide)⟩
theorem mk_55 : mm_mok (mt 55) := ⟨by decide +kernel, rfl, ⟨by decide +kernel, by decide +kernel⟩, by decide +kernel, fun h => absurd h (by decide)⟩
theorem mk_56 : mm_mok (mt 56) := ⟨by decide +kernel, rfl, ⟨by decide +kernel, by decide +kernel⟩, by decide +kernel, fun h => absurd h (by decide)⟩
theorem mk_57 : mm_mok (mt 57) := ⟨by decide +kernel, rfl, ⟨by decide +kernel, by decide +kernel⟩, by decide +kernel, fun h => absurd h (by decide)⟩
theorem mk_58 : mm_mok (mt 58) := ⟨by decide +kernel, rfl, ⟨by decide +kernel, by decide +kernel⟩, by decide +kernel, fun h => absurd h (by decide)⟩
theorem mk_59 : mm_mok (mt 59) := ⟨by decide +kernel, rfl, ⟨by decide +kernel, by decide +kernel⟩, by decide +kernel, fun h => absurd h (by decide)⟩
theorem mk_60 : mm_mok (mt 60) := ⟨by decide +kernel, rfl, ⟨by decide +kernel, by decide +kernel⟩, by decide +kernel, fun h => absurd h (by decide)⟩
theorem mk_61 : mm_mok (mt 61) := ⟨by decide +kernel, rfl, ⟨by decide +kernel, by decide +kernel⟩, by decide +kernel, fun h => absurd h (by decide)⟩
theorem mk_62 : mm_mok (mt 62) := ⟨by decide +kernel, rfl, ⟨by decide +kernel, by decide +kernel⟩, by decide +kernel, fun h => absurd h (by decide)⟩
theorem mk_63 : mm_mok (mt 63) := ⟨by decide +kernel, rfl, ⟨by decide +kernel, by decide +kernel⟩, by decide +kernel, fun h => absurd h (by decide)⟩
theorem mk_64 : mm_mok (mt 64) := ⟨by decide +kernel, rfl, ⟨by decide +kernel, by decide +kernel⟩, by decide +kernel, fun h => absurd h (by decide)⟩
theorem mk_65 : mm_mok (mt 65) := ⟨by decide +kernel, rfl, ⟨by decide +kernel, by decide +kernel⟩, by decide +kernel, fun h => absurd h (by decide)⟩
theorem mk_66 : mm_mok (mt 66) := ⟨by decide +kernel, rfl, ⟨by decide +kernel, by decide +kernel⟩, by decide +kernel, fun h => absurd h (by decide)⟩
theorem mk_67 : mm_mok (mt 67) := ⟨by decide +kernel, rfl, ⟨by decide +kernel, by decide +kernel⟩, by decide +kernel, fun h => absurd h (by decide)⟩
theorem mk_68 : mm_mok (mt 68) := ⟨by decide +kernel, rfl, ⟨by decide +kernel, by decide +kernel⟩, by decide +kernel, fun h => absurd h (by decide)⟩
theorem mk_69 : mm_mok (mt 69) := ⟨by decide +kernel, rfl, ⟨by decide +kernel, by decide +kernel⟩, by decide +kernel, fun h => absurd h (by decide)⟩
theorem mk_70 : mm_mok (mt 70) := ⟨by decide +kernel, rfl, ⟨by decide +kernel, by decide +kernel⟩, by decide +kernel, fun h => absurd h (by decide)⟩
theorem mk_71 : mm_mok (mt 71) := ⟨by decide +kernel, rfl, ⟨by decide +kernel, by decide +kernel⟩, by decide +kernel, fun h => absurd h (by decide)⟩
theorem mk_72 : mm_mok (mt 72) := ⟨by decide +kernel, rfl, ⟨by decide +kernel, by decide +kernel⟩, by decide +kernel, fun h => absurd h (by decide)⟩
theorem mk_73 : mm_mok (mt 73) := ⟨by decide +kernel, rfl, ⟨by decide +kernel, by decide +kernel⟩, by decide +kernel, fun h => absurd h (by decide)⟩
theorem mk_74 : mm_mok (mt 74) := ⟨by decide +kernel, rfl, ⟨by decide +kernel, by decide +kernel⟩, by decide +kernel, fun h => absurd h (by decide)⟩
theorem mk_75 : mm_mok (mt 75) := ⟨by decide +kernel, rfl, ⟨by decide +kernel, by decide +kernel⟩, by decide +kernel, fun h => absurd h (by decide)⟩
theorem mk_76 : mm_mok (mt 76) := ⟨by decide +kernel, rfl, ⟨by decide +kernel, by decide +kernel⟩, by decide +kernel, fun h => absurd h (by decide)⟩
theorem mk_77 : mm_mok (mt 77) := ⟨by decide +kernel, rfl, ⟨by decide +kernel, by decide +kernel⟩, by decide +kernel, fun h => absurd h (by decide)⟩
theorem mk_78 : mm_mok (mt 78) := ⟨by decide +kernel, rfl, ⟨by decide +kernel, by decide +kernel⟩, by decide +kernel, fun h => absurd h (by decide)⟩
theorem mk_79 : mm_mok (mt 79) := ⟨by decide +kernel, rfl, ⟨by decide +kernel, by decide +kernel⟩, by decide +kernel, fun h => absurd h (by decide)⟩
theorem mk_80 : mm_mok (mt 80) := ⟨by decide +kernel, rfl, ⟨by decide +kernel, by decide +kernel⟩, by decide +kernel, fun h => absurd h (by decide)⟩
theorem mk_81 : mm_mok (mt 81) := ⟨by decide +kernel, rfl, ⟨by decide +kernel, by decide +kernel⟩, by decide +kernel, fun h => absurd h (by decide)⟩
theorem mk_82 : mm_mok (mt 82) := ⟨by decide +kernel, rfl, ⟨by decide +kernel, by decide +kernel⟩, by decide +kernel, fun h => absurd h (by decide)⟩
theorem mk_83 : mm_mok (mt 83) := ⟨by decide +kernel, rfl, ⟨by decide +kernel, by decide +kernel⟩, by decide +kernel, fun h => absurd h (by decide)⟩
theorem mk_84 : mm_mok (mt 84) := ⟨by decide +kernel, rfl, ⟨by decide +kernel, by decide +kernel⟩, by decide +kernel, fun h => absurd h (by decide)⟩
theorem mk_85 : mm_mok (mt 85) := ⟨by decide +kernel, rfl, ⟨by decide +kernel, by decide +kernel⟩, by decide +kernel, fun h => absurd h (by decide)⟩
theorem mk_86 : mm_mok (mt 86) := ⟨by decide +kernel, rfl, ⟨by decide +kernel, by decide +kernel⟩, by decide +kernel, fun h => absurd h (by decide)⟩
theorem mk_87 : mm_mok (mt 87) := ⟨by decide +kernel, rfl, ⟨by decide +kernel, by decide +kernel⟩, by decide +kernel, fun h => absurd h (by decide)⟩
theorem mk_88 : mm_mok (mt 88) := ⟨by decide +kernel, rfl, ⟨by decide +kernel, by decide +kernel⟩, by decide +kernel, fun h => absurd h (by decide)⟩
theorem mk_89 : mm_mok (mt 89) := ⟨by decide +kernel, rfl, ⟨by decide +kernel, by decide +kernel⟩, by decide +kernel, fun h => absurd h (by decide)⟩
theorem mk_90 : mm_mok (mt 90) := ⟨by decide +kernel, rfl, ⟨by decide +kernel, by decide +kernel⟩, by decide +kernel, fun h => absurd h (by decide)⟩
theorem mk_91 : mm_mok (mt 91) := ⟨by decide +kernel, rfl, ⟨by decide +kernel, by decide +kernel⟩, by decide +kernel, fun h => absurd h (by decide)⟩
theorem mk_92 : mm_mok (mt 92) := ⟨by decide +kernel, rfl, ⟨by decide +kernel, by decide +kernel⟩, by decide +kernel, fun h => absurd h (by decide)⟩
theorem mk_93 : mm_mok (mt 93) := ⟨by decide +kernel, rfl, ⟨by decide +kernel, by decide +kernel⟩, by decide +kernel, fun h => absurd h (by decide)⟩
theorem mk_94 : mm_mok (mt 94) := ⟨by decide +kernel, rfl, ⟨by decide +kernel, by decide +kernel⟩, by decide +kernel, fun h => absurd h (by decide)⟩
theorem mk_95 : mm_mok (mt 95) := ⟨by decide +kernel, rfl, ⟨by decide +kernel, by decide +kernel⟩, by decide +kernel, fun h => absurd h (by decide)⟩
theorem mk_96 : mm_mok (mt 96) := ⟨by decide +kernel, rfl, ⟨by decide +kernel, by decide +kernel⟩, by decide +kernel, fun h => absurd h (by decide)⟩
theorem mk_97 : mm_mok (mt 97) := ⟨by decide +kernel, rfl, ⟨by decide +kernel, by decide +kernel⟩, by decide +kernel, fun h => absurd h (by decide)⟩
theorem mk_98 : mm_mok (mt 98) := ⟨by decide +kernel, rfl, ⟨by decide +kernel, by decide +kernel⟩, by decide +kernel, fun h => absurd h (by decide)⟩
theorem mk_99 : mm_mok (mt 99) := ⟨by decide +kernel, rfl, ⟨by decide +kernel, by decide +kernel⟩, by decide +kernel, fun h => absurd h (by decide)⟩
theorem mk_100 : mm_mok (mt 100) := ⟨by decide +kernel, rfl, ⟨by decide +kernel, by decide +kernel⟩, by decide +kernel, fun h => absurd h (by decide)⟩
theorem mk_101 : mm_mok (mt 101) := ⟨by decide +kernel, rfl, ⟨by decide +kernel, by decide +kernel⟩, by decide +kernel, fun h => absurd h (by decide)⟩
theorem mk_102 : mm_mok (mt 102) := ⟨by decide +kernel, rfl, ⟨by decide +kernel, by decide +kernel⟩, by decide +kernel, fun h => absurd h (by decide)⟩
theorem mk_103 : mm_mok (mt 103) := ⟨by decide +kernel, rfl, ⟨by decide +kernel, by decide +kernel⟩, by decide +kernel, fun h => absurd h (by decide)⟩
theorem mk_104 : mm_mok (mt 104) := ⟨by decide +kernel, rfl, ⟨by decide +kernel, by decide +kernel⟩, by decide +kernel, fun h => absurd h (by decide)⟩
theorem mk_105 : mm_mok (mt 105) := ⟨by decide +kernel, rfl, ⟨by decide +kernel, by decide +kernel⟩, by decide +kernel, fun h => absurd h (by decide)⟩
theorem mk_106 : mm_mok (mt 106) := ⟨by decide +kernel, rfl, ⟨by decide +kernel, by decide +kernel⟩, by decide +kernel, fun h => absurd h (by decide)⟩
theorem mk_107 : mm_mok (mt 107) := ⟨by decide +kernel, rfl, ⟨by decide +kernel, by decide +kernel⟩, by decide +kernel, fun h => absurd h (by decide)⟩
theorem mk_108 : mm_mok (mt 108) := ⟨by decide +kernel, rfl, ⟨by decide +kernel, by decide +kernel⟩, by decide +kernel, fun h => absurd h (by decide)⟩
theorem mk_109 : mm_mok (mt 109) := ⟨by decide +kernel, rfl, ⟨by decide +kernel, by decide +kernel⟩, by decide +kernel, fun h => absurd h (by decide)⟩
theorem mk_110 : mm_mok (mt 110) := ⟨by decide +kernel, rfl, ⟨by decide +kernel, by decide +kernel⟩, by decide +kernel, fun h => absurd h (by decide)⟩
theorem mk_111 : mm_mok (mt 111) := ⟨by decide +kernel, rfl, ⟨by decide +kernel, by decide +kernel⟩, by decide +kernel, fun h => absurd h (by decide)⟩
theorem mk_112 : mm_mok (mt 112) := ⟨by decide +kernel, rfl, ⟨by decide +kernel, by decide +kernel⟩, by decide +kernel, fun h => absurd h (by decide)⟩
theorem mk_113 : mm_mok (mt 113) := ⟨by decide +kernel, rfl, ⟨by decide +kernel, by decide +kernel⟩, by decide +kernel, fun h => absurd h (by decide)⟩
theorem mk_114 : mm_mok (mt 114) := ⟨by decide +kernel, rfl, ⟨by decide +kernel, by decide +kernel⟩, by decide +kernel, fun h => absurd h (by decide)⟩
theorem mk_115 : mm_mok (mt 115) := ⟨by decide +kernel, rfl, ⟨by decide +kernel, by decide +kernel⟩, by decide +kernel, fun h => absurd h (by decide)⟩
theorem mk_116 : mm_mok (mt 116) := ⟨by decide +kernel, rfl, ⟨by decide +kernel, by decide +kernel⟩, by decide +kernel, fun h => absurd h (by decide)⟩
theorem mk_117 : mm_mok (mt 117) := ⟨by decide +kernel, rfl, ⟨by decide +kernel, by decide +kernel⟩, by decide +kernel, fun h => absurd h (by decide)⟩
theorem mk_118 : mm_mok (mt 118) := ⟨by decide +kernel, rfl, ⟨by decide +kernel, by decide +kernel⟩, by decide +kernel, fun h => absurd h (by decide)⟩
theorem mk_119 : mm_mok (mt 119) := ⟨by decide +kernel, rfl, ⟨by decide +kernel, by decide +kernel⟩, by decide +kernel, fun h => absurd h (by decide)⟩
theorem mk_120 : mm_mok (mt 120) := ⟨by decide +kernel, rfl, ⟨by decide +kernel, by decide +kernel⟩, by decide +kernel, fun h => absurd h (by decide)⟩
theorem mk_121 : mm_mok (mt 121) := ⟨by decide +kernel, rfl, ⟨by decide +kernel, by decide +kernel⟩, by decide +kernel, fun h => absurd h (by decide)⟩
theorem mk_122 : mm_mok (mt 122) := ⟨by decide +kernel, rfl, ⟨by decide +kernel, by decide +kernel⟩, by decide +kernel, fun h => absurd h (by decide)⟩
theorem mk_123 : mm_mok (mt 123) := ⟨by decide +kernel, rfl, ⟨by decide +kernel, by decide +kernel⟩, by decide +kernel, fun h => absurd h (by decide)⟩
theorem mk_124 : mm_mok (mt 124) := ⟨by decide +kernel, rfl, ⟨by decide +kernel, by decide +kernel⟩, by decide +kernel, fun h => absurd h (by decide)⟩
theorem mk_125 : mm_mok (mt 125) := ⟨by decide +kernel, rfl, ⟨by decide +kernel, by decide +kernel⟩, by decide +kernel, fun h => absurd h (by decide)⟩
theorem mk_126 : mm_mok (mt 126) := ⟨by decide +kernel, rfl, ⟨by decide +kernel, by decide +kernel⟩, by decide +kernel, fun h => absurd h (by decide)⟩
theorem mk_127 : mm_mok (mt 127) := ⟨by decide +kernel, rfl, ⟨by decide +kernel, by decide +kernel⟩, by decide +kernel, fun h => absurd h (by decide)⟩
theorem mk_128 : mm_mok (mt 128) := ⟨by decide +kernel, rfl, ⟨by decide +kernel, by decide +kernel⟩, by decide +kernel, fun h => absurd h (by decide)⟩
theorem mk_129 : mm_mok (mt 129) := ⟨by decide +kernel, rfl, ⟨by decide +kernel, by decide +kernel⟩, by decide +kernel, fun h => absurd h (by decide)⟩
theorem mk_130 : mm_mok (mt 130) := ⟨by decide +kernel, rfl, ⟨by decide +kernel, by decide +kernel⟩, by decide +kernel, fun h => absurd h (by decide)⟩
theorem mk_131 : mm_mok (mt 131) := ⟨by decide +kernel, rfl, ⟨by decide +kernel, by decide +kernel⟩, by decide +kernel, fun h => absurd h (by decide)⟩
theorem mk_132 : mm_mok (mt 132) := ⟨by decide +kernel, rfl, ⟨by decide +kernel, by decide +kernel⟩, by decide +kernel, fun h => absurd h (by decide)⟩
theorem mk_133 : mm_mok (mt 133) := ⟨by decide +kernel, rfl, ⟨by decide +kernel, by decide +kernel⟩, by decide +kernel, fun h => absurd h (by decide)⟩
theorem mk_134 : mm_mok (mt 134) := ⟨by decide +kernel, rfl, ⟨by decide +kernel, by decide +kernel⟩, by decide +kernel, fun h => absurd h (by decide)⟩
theorem mk_135 : mm_mok (mt 135) := ⟨by decide +kernel, rfl, ⟨by decide +kernel, by decide +kernel⟩, by decide +kernel, fun h => absurd h (by decide)⟩
theorem mk_136 : mm_mok (mt 136) := ⟨by decide +kernel, rfl, ⟨by decide +kernel, by decide +kernel⟩, by decide +kernel, fun h => absurd h (by decide)⟩
theorem mk_137 : mm_mok (mt 137) := ⟨by decide +kernel, rfl, ⟨by decide +kernel, by decide +kernel⟩, by decide +kernel, fun h => absurd h (by decide)⟩
theorem mk_138 : mm_mok (mt 138) := ⟨by decide +kernel, rfl, ⟨by decide +kernel, by decide +kernel⟩, by decide +kernel, fun h => absurd h (by decide)⟩
theorem mk_139 : mm_mok (mt 139) := ⟨by decide +kernel, rfl, ⟨by decide +kernel, by decide +kernel⟩, by decide +kernel, fun h => absurd h (by decide)⟩
theorem mk_140 : mm_mok (mt 140) := ⟨by decide +kernel, rfl, ⟨by decide +kernel, by decide +kernel⟩, by decide +kernel, fun h => absurd h (by decide)⟩
theorem mk_141 : mm_mok (mt 141) := ⟨by decide +kernel, rfl, ⟨by decide +kernel, by decide +kernel⟩, by decide +kernel, fun h => absurd h (by decide)⟩
theorem mk_142 : mm_mok (mt 142) := ⟨by decide +kernel, rfl, ⟨by decide +kernel, by decide +kernel⟩, by decide +kernel, fun h => absurd h (by decide)⟩
theorem mk_143 : mm_mok (mt 143) := ⟨by decide +kernel, rfl, ⟨by decide +kernel, by decide +kernel⟩, by decide +kernel, fun h => absurd h (by decide)⟩
theorem mk_144 : mm_mok (mt 144) := ⟨by decide +kernel, rfl, ⟨by decide +kernel, by decide +kernel⟩, by decide +kernel, fun h => absurd h (by decide)⟩
theorem mk_145 : mm_mok (mt 145) := ⟨by decide +kernel, rfl, ⟨by decide +kernel, by decide +kernel⟩, by decide +kernel, fun h => absurd h (by decide)⟩
theorem mk_146 : mm_mok (mt 146) := ⟨by decide +kernel, rfl, ⟨by decide +kernel, by decide +kernel⟩, by decide +kernel, fun h => absurd h (by decide)⟩
theorem mk_147 : mm_mok (mt 147) := ⟨by decide +kernel, rfl, ⟨by decide +kernel, by decide +kernel⟩, by decide +kernel, fun h => absurd h (by decide)⟩
theorem mk_148 : mm_mok (mt 148) := ⟨by decide +kernel, rfl, ⟨by decide +kernel, by decide +kernel⟩, by decide +kernel, fun h => absurd h (by decide)⟩
theorem mk_149 : mm_mok (mt 149) := ⟨by decide +kernel, rfl, ⟨by decide +kernel, by decide +kernel⟩, by decide +kernel, fun h => absurd h (by decide)⟩
theorem mk_150 : mm_mok (mt 150) := ⟨by decide +kernel, rfl, ⟨by decide +kernel, by decide +kernel⟩, by decide +kernel, fun h => absurd h (by decide)⟩
theorem mk_151 : mm_mok (mt 151) := ⟨by decide +kernel, rfl, ⟨by decide +kernel, by decide +kernel⟩, by decide +kernel, fun h => absurd h (by decide)⟩
theorem mk_152 : mm_mok (mt 152) := ⟨by decide +kernel, rfl, ⟨by decide +kernel, by decide +kernel⟩, by decide +kernel, fun h => absurd h (by decide)⟩
theorem mk_153 : mm_mok (mt 153) := ⟨by decide +kernel, rfl, ⟨by decide +kernel, by decide +kernel⟩, by decide +kernel, fun h => absurd h (by decide)⟩
theorem mk_154 : mm_mok (mt 154) := ⟨by decide +kernel, rfl, ⟨by decide +kernel, by decide +kernel⟩, by decide +kernel, fun h => absurd h (by decide)⟩
theorem mk_155 : mm_mok (mt 155) := ⟨by decide +kernel, rfl, ⟨by decide +kernel, by decide +kernel⟩, by decide +kernel, fun h => absurd h (by decide)⟩
theorem mk_156 : mm_mok (mt 156) := ⟨by decide +kernel, rfl, ⟨by decide +kernel, by decide +kernel⟩, by decide +kernel, fun h => absurd h (by decide)⟩
theorem mk_157 : mm_mok (mt 157) := ⟨by decide +kernel, rfl, ⟨by decide +kernel, by decide +kernel⟩, by decide +kernel, fun h => absurd h (by decide)⟩
theorem mk_158 : mm_mok (mt 158) := ⟨by decide +kernel, rfl, ⟨by decide +kernel, by decide +kernel⟩, by decide +kernel, fun h => absurd h (by decide)⟩
theorem mk_159 : mm_mok (mt 159) := ⟨by decide +kernel, rfl, ⟨by decide +kernel, by decide +kernel⟩, by decide +kernel, fun h => absurd h (by decide)⟩
theorem mk_160 : mm_mok (mt 160) := ⟨by decide +kernel, rfl, ⟨by decide +kernel, by decide +kernel⟩, by decide +kernel, fun h => absurd h (by decide)⟩
theorem mk_161 : mm_mok (mt 161) := ⟨by decide +kernel, rfl, ⟨by decide +kernel, by decide +kernel⟩, by decide +kernel, fun h => absurd h (by decide)⟩
theorem mk_162 : mm_mok (mt 162) := ⟨by decide +kernel, rfl, ⟨by decide +kernel, by decide +kernel⟩, by decide +kernel, fun h => absurd h (by decide)⟩
theorem mk_163 : mm_mok (mt 163) := ⟨by decide +kernel, rfl, ⟨by decide +kernel, by decide +kernel⟩, by decide +kernel, fun h => absurd h (by decide)⟩
theorem mk_164 : mm_mok (mt 164) := ⟨by decide +kernel, rfl, ⟨by decide +kernel, by decide +kernel⟩, by decide +kernel, fun h => absurd h (by decide)⟩
theorem mk_165 : mm_mok (mt 165) := ⟨by decide +kernel, rfl, ⟨by decide +kernel, by decide +kernel⟩, by decide +kernel, fun h => absurd h (by decide)⟩
theorem mk_166 : mm_mok (mt 166) := ⟨by decide +kernel, rfl, ⟨by decide +kernel, by decide +kernel⟩, by decide +kernel, fun h => absurd h (by decide)⟩
theorem mk_167 : mm_mok (mt 167) := ⟨by decide +kernel, rfl, ⟨by decide +kernel, by decide +kernel⟩, by decide +kernel, fun h => absurd h (by decide)⟩
theorem mk_168 : mm_mok (mt 168) := ⟨by decide +kernel, rfl, ⟨by decide +kernel, by decide +kernel⟩, by decide +kernel, fun h => absurd h (by decide)⟩
theorem mk_169 : mm_mok (mt 169) := ⟨by decide +kernel, rfl, ⟨by decide +kernel, by decide +kernel⟩, by decide +kernel, fun h => absurd h (by decide)⟩
theorem mk_170 : mm_mok (mt 170) := ⟨by decide +kernel, rfl, ⟨by decide +kernel, by decide +kernel⟩, by decide +kernel, fun h => absurd h (by decide)⟩
theorem mk_171 : mm_mok (mt 171) := ⟨by decide +kernel, rfl, ⟨by decide +kernel, by decide +kernel⟩, by decide +kernel, fun h => absurd h (by decide)⟩
theorem mk_172 : mm_mok (mt 172) := ⟨by decide +kernel, rfl, ⟨by decide +kernel, by decide +kernel⟩, by decide +kernel, fun h => absurd h (by decide)⟩
theorem mk_173 : mm_mok (mt 173) := ⟨by decide +kernel, rfl, ⟨by decide +kernel, by decide +kernel⟩, by decide +kernel, fun h => absurd h (by decide)⟩
theorem mk_174 : mm_mok (mt 174) := ⟨by decide +kernel, rfl, ⟨by decide +kernel, by decide +kernel⟩, by decide +kernel, fun h => absurd h (by decide)⟩
theorem mk_175 : mm_mok (mt 175) := ⟨by decide +kernel, rfl, ⟨by decide +kernel, by decide +kernel⟩, by decide +kernel, fun h => absurd h (by decide)⟩
theorem mk_176 : mm_mok (mt 176) := ⟨by decide +kernel, rfl, ⟨by decide +kernel, by decide +kernel⟩, by decide +kernel, fun h => absurd h (by decide)⟩
theorem mk_177 : mm_mok (mt 177) := ⟨by decide +kernel, rfl, ⟨by decide +kernel, by decide +kernel⟩, by decide +kernel, fun h => absurd h (by decide)⟩
theorem mk_178 : mm_mok (mt 178) := ⟨by decide +kernel, rfl, ⟨by decide +kernel, by decide +kernel⟩, by decide +kernel, fun h => absurd h (by decide)⟩
theorem mk_179 : mm_mok (mt 179) := ⟨by decide +kernel, rfl, ⟨by decide +kernel, by decide +kernel⟩, by decide +kernel, fun h => absurd h (by decide)⟩
theorem mk_180 : mm_mok (mt 180) := ⟨by decide +kernel, rfl, ⟨by decide +kernel, by decide +kernel⟩, by decide +kernel, fun h => absurd h (by decide)⟩
theorem mk_181 : mm_mok (mt 181) := ⟨by decide +kernel, rfl, ⟨by decide +kernel, by decide +kernel⟩, by decide +kernel, fun h => absurd h (by decide)⟩
theorem mk_182 : mm_mok (mt 182) := ⟨by decide +kernel, rfl, ⟨by decide +kernel, by decide +kernel⟩, by decide +kernel, fun h => absurd h (by decide)⟩
theorem mk_183 : mm_mok (mt 183) := ⟨by decide +kernel, rfl, ⟨by decide +kernel, by decide +kernel⟩, by decide +kernel, fun h => absurd h (by decide)⟩
theorem mk_184 : mm_mok (mt 184) := ⟨by decide +kernel, rfl, ⟨by decide +kernel, by decide +kernel⟩, by decide +kernel, fun h => absurd h (by decide)⟩
theorem mk_185 : mm_mok (mt 185) := ⟨by decide +kernel, rfl, ⟨by decide +kernel, by decide +kernel⟩, by decide +kernel, fun h => absurd h (by decide)⟩
theorem mk_186 : mm_mok (mt 186) := ⟨by decide +kernel, rfl, ⟨by decide +kernel, by decide +kernel⟩, by decide +kernel, fun h => absurd h (by decide)⟩
theorem mk_187 : mm_mok (mt 187) := ⟨by decide +kernel, rfl, ⟨by decide +kernel, by decide +kernel⟩, by decide +kernel, fun h => absurd h (by decide)⟩
theorem mk_188 : mm_mok (mt 188) := ⟨by decide +kernel, rfl, ⟨by decide +kernel, by decide +kernel⟩, by decide +kernel, fun h => absurd h (by decide)⟩
theorem mk_189 : mm_mok (mt 189) := ⟨by decide +kernel, rfl, ⟨by decide +kernel, by decide +kernel⟩, by decide +kernel, fun h => absurd h (by decide)⟩
theorem mk_190 : mm_mok (mt 190) := ⟨by decide +kernel, rfl, ⟨by decide +kernel, by decide +kernel⟩, by decide +kernel, fun h => absurd h (by decide)⟩
theorem mk_191 : mm_mok (mt 191) := ⟨by decide +kernel, rfl, ⟨by decide +kernel, by decide +kernel⟩, by decide +kernel, fun h => absurd h (by decide)⟩
theorem mk_192 : mm_mok (mt 192) := ⟨by decide +kernel, rfl, ⟨by decide +kernel, by decide +kernel⟩, by decide +kernel, fun h => absurd h (by decide)⟩
theorem mk_193 : mm_mok (mt 193) := ⟨by decide +kernel, rfl, ⟨by decide +kernel, by decide +kernel⟩, by decide +kernel, fun h => absurd h (by decide)⟩
theorem mk_194 : mm_mok (mt 194) := ⟨by decide +kernel, rfl, ⟨by decide +kernel, by decide +kernel⟩, by decide +kernel, fun h => absurd h (by decide)⟩
theorem mk_195 : mm_mok (mt 195) := ⟨by decide +kernel, rfl, ⟨by decide +kernel, by decide +kernel⟩, by decide +kernel, fun h => absurd h (by decide)⟩
theorem mk_196 : mm_mok (mt 196) := ⟨by decide +kernel, rfl, ⟨by decide +kernel, by decide +kernel⟩, by decide +kernel, fun h => absurd h (by decide)⟩
theorem mk_197 : mm_mok (mt 197) := ⟨by decide +kernel, rfl, ⟨by decide +kernel, by decide +kernel⟩, by decide +kernel, fun h => absurd h (by decide)⟩
theorem mk_198 : mm_mok (mt 198) := ⟨by decide +kernel, rfl, ⟨by decide +kernel, by decide +kernel⟩, by decide +kernel, fun h => absurd h (by decide)⟩
theorem mk_199 : mm_mok (mt 199) := ⟨by decide +kernel, rfl, ⟨by decide +kernel, by decide +kernel⟩, by decide +kernel, fun h => absurd h (by decide)⟩
theorem mk_200 : mm_mok (mt 200) := ⟨by decide +kernel, rfl, ⟨by decide +kernel, by decide +kernel⟩, by decide +kernel, fun h => absurd h (by decide)⟩
theorem mk_201 : mm_mok (mt 201) := ⟨by decide +kernel, rfl, ⟨by decide +kernel, by decide +kernel⟩, by decide +kernel, fun h => absurd h (by decide)⟩
theorem mk_202 : mm_mok (mt 202) := ⟨by decide +kernel, rfl, ⟨by decide +kernel, by decide +kernel⟩, by decide +kernel, fun h => absurd h (by decide)⟩
theorem mk_203 : mm_mok (mt 203) := ⟨by decide +kernel, rfl, ⟨by decide +kernel, by decide +kernel⟩, by decide +kernel, fun h => absurd h (by decide)⟩
theorem mk_204 : mm_mok (mt 204) := ⟨by decide +kernel, rfl, ⟨by decide +kernel, by decide +kernel⟩, by decide +kernel, fun h => absurd h (by decide)⟩
theorem mk_205 : mm_mok (mt 205) := ⟨by decide +kernel, rfl, ⟨by decide +kernel, by decide +kernel⟩, by decide +kernel, fun h => absurd h (by decide)⟩
theorem mk_206 : mm_mok (mt 206) := ⟨by decide +kernel, rfl, ⟨by decide +kernel, by decide +kernel⟩, by decide +kernel, fun h => absurd h (by decide)⟩
theorem mk_207 : mm_mok (mt 207) := ⟨by decide +kernel, rfl, ⟨by decide +kernel, by decide +kernel⟩, by decide +kernel, fun h => absurd h (by decide)⟩
theorem mk_208 : mm_mok (mt 208) := ⟨by decide +kernel, rfl, ⟨by decide +kernel, by decide +kernel⟩, by decide +kernel, fun h => absurd h (by decide)⟩
theorem mk_209 : mm_mok (mt 209) := ⟨by decide +kernel, rfl, ⟨by decide +kernel, by decide +kernel⟩, by decide +kernel, fun h => absurd h (by decide)⟩
theorem mk_210 : mm_mok (mt 210) := ⟨by decide +kernel, rfl, ⟨by decide +kernel, by decide +kernel⟩, by decide +kernel, fun h => absurd h (by decide)⟩
theorem mk_211 : mm_mok (mt 211) := ⟨by decide +kernel, rfl, ⟨by decide +kernel, by decide +kernel⟩, by decide +kernel, fun h => absurd h (by decide)⟩
theorem mk_212 : mm_mok (mt 212) := ⟨by decide +kernel, rfl, ⟨by decide +kernel, by decide +kernel⟩, by decide +kernel, fun h => absurd h (by decide)⟩
theorem mk_213 : mm_mok (mt 213) := ⟨by decide +kernel, rfl, ⟨by decide +kernel, by decide +kernel⟩, by decide +kernel, fun h => absurd h (by decide)⟩
theorem mk_214 : mm_mok (mt 214) := ⟨by decide +kernel, rfl, ⟨by decide +kernel, by decide +kernel⟩, by decide +kernel, fun h => absurd h (by decide)⟩
theorem mk_215 : mm_mok (mt 215) := ⟨by decide +kernel, rfl, ⟨by decide +kernel, by decide +kernel⟩, by decide +kernel, fun h => absurd h (by decide)⟩
theorem mk_216 : mm_mok (mt 216) := ⟨by decide +kernel, rfl, ⟨by decide +kernel, by decide +kernel⟩, by decide +kernel, fun h => absurd h (by decide)⟩
theorem mk_217 : mm_mok (mt 217) := ⟨by decide +kernel, rfl, ⟨by decide +kernel, by decide +kernel⟩, by decide +kernel, fun h => absurd h (by decide)⟩
theorem mk_218 : mm_mok (mt 218) := ⟨by decide +kernel, rfl, ⟨by decide +kernel, by decide +kernel⟩, by decide +kernel, fun h => absurd h (by decide)⟩
theorem mk_219 : mm_mok (mt 219) := ⟨by decide +kernel, rfl, ⟨by decide +kernel, by decide +kernel⟩, by decide +kernel, fun h => absurd h (by decide)⟩
theorem mk_220 : mm_mok (mt 220) := ⟨by decide +kernel, rfl, ⟨by decide +kernel, by decide +kernel⟩, by decide +kernel, fun h => absurd h (by decide)⟩
theorem mk_221 : mm_mok (mt 221) := ⟨by decide +kernel, rfl, ⟨by decide +kernel, by decide +kernel⟩, by decide +kernel, fun h => absurd h (by decide)⟩
theorem mk_222 : mm_mok (mt 222) := ⟨by decide +kernel, rfl, ⟨by decide +kernel, by decide +kernel⟩, by decide +kernel, fun h => absurd h (by decide)⟩
theorem mk_223 : mm_mok (mt 223) := ⟨by decide +kernel, rfl, ⟨by decide +kernel, by decide +kernel⟩, by decide +kernel, fun h => absurd h (by decide)⟩
theorem mk_224 : mm_mok (mt 224) := ⟨by decide +kernel, rfl, ⟨by decide +kernel, by decide +kernel⟩, by decide +kernel, fun h => absurd h (by decide)⟩
theorem mk_225 : mm_mok (mt 225) := ⟨by decide +kernel, rfl, ⟨by decide +kernel, by decide +kernel⟩, by decide +kernel, fun h => absurd h (by decide)⟩
theorem mk_226 : mm_mok (mt 226) := ⟨by decide +kernel, rfl, ⟨by decide +kernel, by decide +kernel⟩, by decide +kernel, fun h => absurd h (by decide)⟩
theorem mk_227 : mm_mok (mt 227) := ⟨by decide +kernel, rfl, ⟨by decide +kernel, by decide +kernel⟩, by decide +kernel, fun h => absurd h (by decide)⟩
theorem mk_228 : mm_mok (mt 228) := ⟨by decide +kernel, rfl, ⟨by decide +kernel, by decide +kernel⟩, by decide +kernel, fun h => absurd h (by decide)⟩
theorem mk_229 : mm_mok (mt 229) := ⟨by decide +kernel, rfl, ⟨by decide +kernel, by decide +kernel⟩, by decide +kernel, fun h => absurd h (by decide)⟩
theorem mk_230 : mm_mok (mt 230) := ⟨by decide +kernel, rfl, ⟨by decide +kernel, by decide +kernel⟩, by decide +kernel, fun h => absurd h (by decide)⟩
theorem mk_231 : mm_mok (mt 231) := ⟨by decide +kernel, rfl, ⟨by decide +kernel, by decide +kernel⟩, by decide +kernel, fun h => absurd h (by decide)⟩
theorem mk_232 : mm_mok (mt 232) := ⟨by decide +kernel, rfl, ⟨by decide +kernel, by decide +kernel⟩, by decide +kernel, fun h => absurd h (by decide)⟩
theorem mk_233 : mm_mok (mt 233) := ⟨by decide +kernel, rfl, ⟨by decide +kernel, by decide +kernel⟩, by decide +kernel, fun h => absurd h (by decide)⟩
theorem mk_234 : mm_mok (mt 234) := ⟨by decide +kernel, rfl, ⟨by decide +kernel, by decide +kernel⟩, by decide +kernel, fun h => absurd h (by decide)⟩
theorem mk_235 : mm_mok (mt 235) := ⟨by decide +kernel, rfl, ⟨by decide +kernel, by decide +kernel⟩, by decide +kernel, fun h => absurd h (by decide)⟩
theorem mk_236 : mm_mok (mt 236) := ⟨by decide +kernel, rfl, ⟨by decide +kernel, by decide +kernel⟩, by decide +kernel, fun h => absurd h (by decide)⟩
theorem mk_237 : mm_mok (mt 237) := ⟨by decide +kernel, rfl, ⟨by decide +kernel, by decide +kernel⟩, by decide +kernel, fun h => absurd h (by decide)⟩
theorem mk_238 : mm_mok (mt 238) := ⟨by decide +kernel, rfl, ⟨by decide +kernel, by decide +kernel⟩, by decide +kernel, fun h => absurd h (by decide)⟩
theorem mk_239 : mm_mok (mt 239) := ⟨by decide +kernel, rfl, ⟨by decide +kernel, by decide +kernel⟩, by decide +kernel, fun h => absurd h (by decide)⟩
theorem mk_240 : mm_mok (mt 240) := ⟨by decide +kernel, rfl, ⟨by decide +kernel, by decide +kernel⟩, by decide +kernel, fun h => absurd h (by decide)⟩
theorem mk_241 : mm_mok (mt 241) := ⟨by decide +kernel, rfl, ⟨by decide +kernel, by decide +kernel⟩, by decide +kernel, fun h => absurd h (by decide)⟩
theorem mk_242 : mm_mok (mt 242) := ⟨by decide +kernel, rfl, ⟨by decide +kernel, by decide +kernel⟩, by decide +kernel, fun h => absurd h (by decide)⟩
theorem mk_243 : mm_mok (mt 243) := ⟨by decide +kernel, rfl, ⟨by decide +kernel, by decide +kernel⟩, by decide +kernel, fun h => absurd h (by decide)⟩
theorem mk_244 : mm_mok (mt 244) := ⟨by decide +kernel, rfl, ⟨by decide +kernel, by decide +kernel⟩, by decide +kernel, fun h => absurd h (by decide)⟩
theorem mk_245 : mm_mok (mt 245) := ⟨by decide +kernel, rfl, ⟨by decide +kernel, by decide +kernel⟩, by decide +kernel, fun h => absurd h (by decide)⟩
theorem mk_246 : mm_mok (mt 246) := ⟨by decide +kernel, rfl, ⟨by decide +kernel, by decide +kernel⟩, by decide +kernel, fun h => absurd h (by decide)⟩
theorem mk_247 : mm_mok (mt 247) := ⟨by decide +kernel, rfl, ⟨by decide +kernel, by decide +kernel⟩, by decide +kernel, fun h => absurd h (by decide)⟩
theorem mk_248 : mm_mok (mt 248) := ⟨by decide +kernel, rfl, ⟨by decide +kernel, by decide +kernel⟩, by decide +kernel, fun h => absurd h (by decide)⟩
theorem mk_249 : mm_mok (mt 249) := ⟨by decide +kernel, rfl, ⟨by decide +kernel, by decide +kernel⟩, by decide +kernel, fun h => absurd h (by decide)⟩
theorem mk_250 : mm_mok (mt 250) := ⟨by decide +kernel, rfl, ⟨by decide +kernel, by decide +kernel⟩, by decide +kernel, fun h => absurd h (by decide)⟩
theorem mk_251 : mm_mok (mt 251) := ⟨by decide +kernel, rfl, ⟨by decide +kernel, by decide +kernel⟩, by decide +kernel, fun h => absurd h (by decide)⟩
theorem mk_252 : mm_mok (mt 252) := ⟨by decide +kernel, rfl, ⟨by decide +kernel, by decide +kernel⟩, by decide +kernel, fun h => absurd h (by decide)⟩
theorem mk_253 : mm_mok (mt 253) := ⟨by decide +kernel, rfl, ⟨by decide +kernel, by decide +kernel⟩, by decide +kernel, fun h => absurd h (by decide)⟩
theorem mk_254 : mm_mok (mt 254) := ⟨by decide +kernel, rfl, ⟨by decide +kernel, by decide +kernel⟩, by decide +kernel, fun h => absurd h (by decide)⟩
theorem mk_255 : mm_mok (mt 255) := ⟨by decide +kernel, rfl, ⟨by decide +kernel, by decide +kernel⟩, by decide +kernel, fun h => absurd h (by decide)⟩
theorem mk_256 : mm_mok (mt 256) := ⟨by decide +kernel, rfl, ⟨by decide +kernel, by decide +kernel⟩, by decide +kernel, fun h => absurd h (by decide)⟩
theorem mk_257 : mm_mok (mt 257) := ⟨by decide +kernel, rfl, ⟨by decide +kernel, by decide +kernel⟩, by decide +kernel, fun h => absurd h (by decide)⟩
theorem mk_258 : mm_mok (mt 258) := ⟨by decide +kernel, rfl, ⟨by decide +kernel, by decide +kernel⟩, by decide +kernel, fun h => absurd h (by decide)⟩
theorem mk_259 : mm_mok (mt 259) := ⟨by decide +kernel, rfl, ⟨by decide +kernel, by decide +kernel⟩, by decide +kernel, fun h => absurd h (by decide)⟩
theorem mk_260 : mm_mok (mt 260) := ⟨by decide +kernel, rfl, ⟨by decide +kernel, by decide +kernel⟩, by decide +kernel, fun h => absurd h (by decide)⟩
theorem mk_261 : mm_mok (mt 261) := ⟨by decide +kernel, rfl, ⟨by decide +kernel, by decide +kernel⟩, by decide +kernel, fun h => absurd h (by decide)⟩
theorem mk_262 : mm_mok (mt 262) := ⟨by decide +kernel, rfl, ⟨by decide +kernel, by decide +kernel⟩, by decide +kernel, fun h => absurd h (by decide)⟩
theorem mk_263 : mm_mok (mt 263) := ⟨by decide +kernel, rfl, ⟨by decide +kernel, by decide +kernel⟩, by decide +kernel, fun h => absurd h (by decide)⟩
theorem mk_264 : mm_mok (mt 264) := ⟨by decide +kernel, rfl, ⟨by decide +kernel, by decide +kernel⟩, by decide +kernel, fun h => absurd h (by decide)⟩
theorem mk_265 : mm_mok (mt 265) := ⟨by decide +kernel, rfl, ⟨by decide +kernel, by decide +kernel⟩, by decide +kernel, fun h => absurd h (by decide)⟩
theorem mk_266 : mm_mok (mt 266) := ⟨by decide +kernel, rfl, ⟨by decide +kernel, by decide +kernel⟩, by decide +kernel, fun h => absurd h (by decide)⟩
theorem mk_267 : mm_mok (mt 267) := ⟨by decide +kernel, rfl, ⟨by decide +kernel, by decide +kernel⟩, by decide +kernel, fun h => absurd h (by decide)⟩
theorem mk_268 : mm_mok (mt 268) := ⟨by decide +kernel, rfl, ⟨by decide +kernel, by decide +kernel⟩, by decide +kernel, fun h => absurd h (by decide)⟩
theorem mk_269 : mm_mok (mt 269) := ⟨by decide +kernel, rfl, ⟨by decide +kernel, by decide +kernel⟩, by decide +kernel, fun h => absurd h (by decide)⟩
theorem mk_270 : mm_mok (mt 270) := ⟨by decide +kernel, rfl, ⟨by decide +kernel, by decide +kernel⟩, by decide +kernel, fun h => absurd h (by decide)⟩
theorem mk_271 : mm_mok (mt 271) := ⟨by decide +kernel, rfl, ⟨by decide +kernel, by decide +kernel⟩, by decide +kernel, fun h => absurd h (by decide)⟩
theorem mk_272 : mm_mok (mt 272) := ⟨by decide +kernel, rfl, ⟨by decide +kernel, by decide +kernel⟩, by decide +kernel, fun h => absurd h (by decide)⟩
theorem mk_273 : mm_mok (mt 273) := ⟨by decide +kernel, rfl, ⟨by decide +kernel, by decide +kernel⟩, by decide +kernel, fun h => absurd h (by decide)⟩
theorem mk_274 : mm_mok (mt 274) := ⟨by decide +kernel, rfl, ⟨by decide +kernel, by decide +kernel⟩, by decide +kernel, fun h => absurd h (by decide)⟩
theorem mk_275 : mm_mok (mt 275) := ⟨by decide +kernel, rfl, ⟨by decide +kernel, by decide +kernel⟩, by decide +kernel, fun h => absurd h (by decide)⟩
theorem mk_276 : mm_mok (mt 276) := ⟨by decide +kernel, rfl, ⟨by decide +kernel, by decide +kernel⟩, by decide +kernel, fun h => absurd h (by decide)⟩
theorem mk_277 : mm_mok (mt 277) := ⟨by decide +kernel, rfl, ⟨by decide +kernel, by decide +kernel⟩, by decide +kernel, fun h => absurd h (by decide)⟩
theorem mk_278 : mm_mok (mt 278) := ⟨by decide +kernel, rfl, ⟨by decide +kernel, by decide +kernel⟩, by decide +kernel, fun h => absurd h (by decide)⟩
theorem mk_279 : mm_mok (mt 279) := ⟨by decide +kernel, rfl, ⟨by decide +kernel, by decide +kernel⟩, by decide +kernel, fun h => absurd h (by decide)⟩
theorem mk_280 : mm_mok (mt 280) := ⟨by decide +kernel, rfl, ⟨by decide +kernel, by decide +kernel⟩, by decide +kernel, fun h => absurd h (by decide)⟩
theorem mk_281 : mm_mok (mt 281) := ⟨by decide +kernel, rfl, ⟨by decide +kernel, by decide +kernel⟩, by decide +kernel, fun h => absurd h (by decide)⟩
theorem mk_282 : mm_mok (mt 282) := ⟨by decide +kernel, rfl, ⟨by decide +kernel, by decide +kernel⟩, by decide +kernel, fun h => absurd h (by decide)⟩
theorem mk_283 : mm_mok (mt 283) := ⟨by decide +kernel, rfl, ⟨by decide +kernel, by decide +kernel⟩, by decide +kernel, fun h => absurd h (by decide)⟩
theorem mk_284 : mm_mok (mt 284) := ⟨by decide +kernel, rfl, ⟨by decide +kernel, by decide +kernel⟩, by decide +kernel, fun h => absurd h (by decide)⟩
theorem mk_285 : mm_mok (mt 285) := ⟨by decide +kernel, rfl, ⟨by decide +kernel, by decide +kernel⟩, by decide +kernel, fun h => absurd h (by decide)⟩
theorem mk_286 : mm_mok (mt 286) := ⟨by decide +kernel, rfl, ⟨by decide +kernel, by decide +kernel⟩, by decide +kernel, fun h => absurd h (by decide)⟩
theorem mk_287 : mm_mok (mt 287) := ⟨by decide +kernel, rfl, ⟨by decide +kernel, by decide +kernel⟩, by decide +kernel, fun h => absurd h (by decide)⟩
theorem mk_288 : mm_mok (mt 288) := ⟨by decide +kernel, rfl, ⟨by decide +kernel, by decide +kernel⟩, by decide +kernel, fun h => absurd h (by decide)⟩
theorem mk_289 : mm_mok (mt 289) := ⟨by decide +kernel, rfl, ⟨by decide +kernel, by decide +kernel⟩, by decide +kernel, fun h => absurd h (by decide)⟩
theorem mk_290 : mm_mok (mt 290) := ⟨by decide +kernel, rfl, ⟨by decide +kernel, by decide +kernel⟩, by decide +kernel, fun h => absurd h (by decide)⟩
theorem mk_291 : mm_mok (mt 291) := ⟨by decide +kernel, rfl, ⟨by decide +kernel, by decide +kernel⟩, by decide +kernel, fun h => absurd h (by decide)⟩
theorem mk_292 : mm_mok (mt 292) := ⟨by decide +kernel, rfl, ⟨by decide +kernel, by decide +kernel⟩, by decide +kernel, fun h => absurd h (by decide)⟩
theorem mk_293 : mm_mok (mt 293) := ⟨by decide +kernel, rfl, ⟨by decide +kernel, by decide +kernel⟩, by decide +kernel, fun h => absurd h (by decide)⟩
theorem mk_294 : mm_mok (mt 294) := ⟨by decide +kernel, rfl, ⟨by decide +kernel, by decide +kernel⟩, by decide +kernel, fun h => absurd h (by decide)⟩
theorem mk_295 : mm_mok (mt 295) := ⟨by decide +kernel, rfl, ⟨by decide +kernel, by decide +kernel⟩, by decide +kernel, fun h => absurd h (by decide)⟩
theorem mk_296 : mm_mok (mt 296) := ⟨by decide +kernel, rfl, ⟨by decide +kernel, by decide +kernel⟩, by decide +kernel, fun h => absurd h (by decide)⟩
theorem mk_297 : mm_mok (mt 297) := ⟨by decide +kernel, rfl, ⟨by decide +kernel, by decide +kernel⟩, by decide +kernel, fun h => absurd h (by decide)⟩
theorem mk_298 : mm_mok (mt 298) := ⟨by decide +kernel, rfl, ⟨by decide +kernel, by decide +kernel⟩, by decide +kernel, fun h => absurd h (by decide)⟩
theorem mk_299 : mm_mok (mt 299) := ⟨by decide +kernel, rfl, ⟨by decide +kernel, by decide +kernel⟩, by decide +kernel, fun h => absurd h (by decide)⟩
theorem mk_300 : mm_mok (mt 300) := ⟨by decide +kernel, rfl, ⟨by decide +kernel, by decide +kernel⟩, by decide +kernel, fun h => absurd h (by decide)⟩
theorem mk_301 : mm_mok (mt 301) := ⟨by decide +kernel, rfl, ⟨by decide +kernel, by decide +kernel⟩, by decide +kernel, fun h => absurd h (by decide)⟩
theorem mk_302 : mm_mok (mt 302) := ⟨by decide +kernel, rfl, ⟨by decide +kernel, by decide +kernel⟩, by decide +kernel, fun h => absurd h (by decide)⟩
theorem mk_303 : mm_mok (mt 303) := ⟨by decide +kernel, rfl, ⟨by decide +kernel, by decide +kernel⟩, by decide +kernel, fun h => absurd h (by decide)⟩
