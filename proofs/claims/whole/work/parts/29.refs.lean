/-! the references, once both objects are made: they never change but told and spare, which change places -/
def am_RT : List (List Nat) := [[18, 20, 21, 25, 26, 34, 52, 53, 57, 58, 72], [19], [], [18], [22, 23, 24], [], [], [], [86, 90, 94], [27, 28, 29, 30, 31, 32, 33], [], [], [], [], [], [], [], [26, 35, 38, 42, 50, 51], [36, 37], [], [], [35, 39, 40, 41], [], [], [], [43, 44, 45, 46, 47, 48, 49], [], [], [], [], [], [], [], [], [], [], [54, 55, 56], [], [], [], [], [59, 60, 61, 62, 63, 64, 65, 66, 67, 68, 69, 70, 71], [], [], [], [], [], [], [], [], [], [], [], [], [], [73, 74, 75, 76, 77, 78, 79, 80, 81, 82, 83, 84, 85], [], [], [], [], [], [], [], [], [], [], [], [], [], [87, 88, 89], [], [], [], [91, 92, 93], [], [], [], [95, 96, 97], [], [], [], [99, 100, 0, 0, 0, 0, 0, 101, 104, 107, 110, 113, 116, 119, 122, 125, 128, 131, 134, 0, 0, 0, 135, 136, 137, 138, 139, 0, 0, 0, 0, 0, 0, 0, 140, 141, 142, 143, 0, 0, 0, 0, 144, 145, 146, 147, 148, 0, 149, 150, 0, 0, 151, 152, 153, 0, 0, 154, 158], [], [], [102, 103], [], [], [105, 106], [], [], [108, 109], [], [], [111, 112], [], [], [114, 115], [], [], [117, 118], [], [], [120, 121], [], [], [123, 124], [], [], [126, 127], [], [], [129, 130], [], [], [132, 133], [], [], [], [1, 2, 3, 4, 5, 6, 7], [], [], [], [], [], [], [], [], [], [], [], [], [], [], [], [], [], [], [155, 156, 157], [], [], [], []]
def am_R (f0 : Nat) (b : Bool) : amR := fun i j => if i < 17 then am_hr0 f0 i j else if i = 17 ∧ j = 9 then (if b then 72 else 58) else if i = 17 ∧ j = 10 then (if b then 58 else 72) else (am_RT.getD (i - 17) []).getD j 0
theorem R17_0 {f0 : Nat} {b : Bool} : am_R f0 b 17 0 = 18 := rfl
theorem R17_1 {f0 : Nat} {b : Bool} : am_R f0 b 17 1 = 20 := rfl
theorem R17_2 {f0 : Nat} {b : Bool} : am_R f0 b 17 2 = 21 := rfl
theorem R17_3 {f0 : Nat} {b : Bool} : am_R f0 b 17 3 = 25 := rfl
theorem R17_4 {f0 : Nat} {b : Bool} : am_R f0 b 17 4 = 26 := rfl
theorem R17_5 {f0 : Nat} {b : Bool} : am_R f0 b 17 5 = 34 := rfl
theorem R17_6 {f0 : Nat} {b : Bool} : am_R f0 b 17 6 = 52 := rfl
theorem R17_7 {f0 : Nat} {b : Bool} : am_R f0 b 17 7 = 53 := rfl
theorem R17_8 {f0 : Nat} {b : Bool} : am_R f0 b 17 8 = 57 := rfl
theorem R17_9 {f0 : Nat} {b : Bool} : am_R f0 b 17 9 = if b then 72 else 58 := rfl
theorem R17_10 {f0 : Nat} {b : Bool} : am_R f0 b 17 10 = if b then 58 else 72 := rfl
theorem R18_0 {f0 : Nat} {b : Bool} : am_R f0 b 18 0 = 19 := rfl
theorem R20_0 {f0 : Nat} {b : Bool} : am_R f0 b 20 0 = 18 := rfl
theorem R21_0 {f0 : Nat} {b : Bool} : am_R f0 b 21 0 = 22 := rfl
theorem R21_1 {f0 : Nat} {b : Bool} : am_R f0 b 21 1 = 23 := rfl
theorem R21_2 {f0 : Nat} {b : Bool} : am_R f0 b 21 2 = 24 := rfl
theorem R25_0 {f0 : Nat} {b : Bool} : am_R f0 b 25 0 = 86 := rfl
theorem R25_1 {f0 : Nat} {b : Bool} : am_R f0 b 25 1 = 90 := rfl
theorem R25_2 {f0 : Nat} {b : Bool} : am_R f0 b 25 2 = 94 := rfl
theorem R26_0 {f0 : Nat} {b : Bool} : am_R f0 b 26 0 = 27 := rfl
theorem R26_1 {f0 : Nat} {b : Bool} : am_R f0 b 26 1 = 28 := rfl
theorem R26_2 {f0 : Nat} {b : Bool} : am_R f0 b 26 2 = 29 := rfl
theorem R26_3 {f0 : Nat} {b : Bool} : am_R f0 b 26 3 = 30 := rfl
theorem R26_4 {f0 : Nat} {b : Bool} : am_R f0 b 26 4 = 31 := rfl
theorem R26_5 {f0 : Nat} {b : Bool} : am_R f0 b 26 5 = 32 := rfl
theorem R26_6 {f0 : Nat} {b : Bool} : am_R f0 b 26 6 = 33 := rfl
theorem R34_0 {f0 : Nat} {b : Bool} : am_R f0 b 34 0 = 26 := rfl
theorem R34_1 {f0 : Nat} {b : Bool} : am_R f0 b 34 1 = 35 := rfl
theorem R34_2 {f0 : Nat} {b : Bool} : am_R f0 b 34 2 = 38 := rfl
theorem R34_3 {f0 : Nat} {b : Bool} : am_R f0 b 34 3 = 42 := rfl
theorem R34_4 {f0 : Nat} {b : Bool} : am_R f0 b 34 4 = 50 := rfl
theorem R34_5 {f0 : Nat} {b : Bool} : am_R f0 b 34 5 = 51 := rfl
theorem R35_0 {f0 : Nat} {b : Bool} : am_R f0 b 35 0 = 36 := rfl
theorem R35_1 {f0 : Nat} {b : Bool} : am_R f0 b 35 1 = 37 := rfl
theorem R38_0 {f0 : Nat} {b : Bool} : am_R f0 b 38 0 = 35 := rfl
theorem R38_1 {f0 : Nat} {b : Bool} : am_R f0 b 38 1 = 39 := rfl
theorem R38_2 {f0 : Nat} {b : Bool} : am_R f0 b 38 2 = 40 := rfl
theorem R38_3 {f0 : Nat} {b : Bool} : am_R f0 b 38 3 = 41 := rfl
theorem R42_0 {f0 : Nat} {b : Bool} : am_R f0 b 42 0 = 43 := rfl
theorem R42_1 {f0 : Nat} {b : Bool} : am_R f0 b 42 1 = 44 := rfl
theorem R42_2 {f0 : Nat} {b : Bool} : am_R f0 b 42 2 = 45 := rfl
theorem R42_3 {f0 : Nat} {b : Bool} : am_R f0 b 42 3 = 46 := rfl
theorem R42_4 {f0 : Nat} {b : Bool} : am_R f0 b 42 4 = 47 := rfl
theorem R42_5 {f0 : Nat} {b : Bool} : am_R f0 b 42 5 = 48 := rfl
theorem R42_6 {f0 : Nat} {b : Bool} : am_R f0 b 42 6 = 49 := rfl
theorem R53_0 {f0 : Nat} {b : Bool} : am_R f0 b 53 0 = 54 := rfl
theorem R53_1 {f0 : Nat} {b : Bool} : am_R f0 b 53 1 = 55 := rfl
theorem R53_2 {f0 : Nat} {b : Bool} : am_R f0 b 53 2 = 56 := rfl
theorem R58_0 {f0 : Nat} {b : Bool} : am_R f0 b 58 0 = 59 := rfl
theorem R58_1 {f0 : Nat} {b : Bool} : am_R f0 b 58 1 = 60 := rfl
theorem R58_2 {f0 : Nat} {b : Bool} : am_R f0 b 58 2 = 61 := rfl
theorem R58_3 {f0 : Nat} {b : Bool} : am_R f0 b 58 3 = 62 := rfl
theorem R58_4 {f0 : Nat} {b : Bool} : am_R f0 b 58 4 = 63 := rfl
theorem R58_5 {f0 : Nat} {b : Bool} : am_R f0 b 58 5 = 64 := rfl
theorem R58_6 {f0 : Nat} {b : Bool} : am_R f0 b 58 6 = 65 := rfl
theorem R58_7 {f0 : Nat} {b : Bool} : am_R f0 b 58 7 = 66 := rfl
theorem R58_8 {f0 : Nat} {b : Bool} : am_R f0 b 58 8 = 67 := rfl
theorem R58_9 {f0 : Nat} {b : Bool} : am_R f0 b 58 9 = 68 := rfl
theorem R58_10 {f0 : Nat} {b : Bool} : am_R f0 b 58 10 = 69 := rfl
theorem R58_11 {f0 : Nat} {b : Bool} : am_R f0 b 58 11 = 70 := rfl
theorem R58_12 {f0 : Nat} {b : Bool} : am_R f0 b 58 12 = 71 := rfl
theorem R72_0 {f0 : Nat} {b : Bool} : am_R f0 b 72 0 = 73 := rfl
theorem R72_1 {f0 : Nat} {b : Bool} : am_R f0 b 72 1 = 74 := rfl
theorem R72_2 {f0 : Nat} {b : Bool} : am_R f0 b 72 2 = 75 := rfl
theorem R72_3 {f0 : Nat} {b : Bool} : am_R f0 b 72 3 = 76 := rfl
theorem R72_4 {f0 : Nat} {b : Bool} : am_R f0 b 72 4 = 77 := rfl
theorem R72_5 {f0 : Nat} {b : Bool} : am_R f0 b 72 5 = 78 := rfl
theorem R72_6 {f0 : Nat} {b : Bool} : am_R f0 b 72 6 = 79 := rfl
theorem R72_7 {f0 : Nat} {b : Bool} : am_R f0 b 72 7 = 80 := rfl
theorem R72_8 {f0 : Nat} {b : Bool} : am_R f0 b 72 8 = 81 := rfl
theorem R72_9 {f0 : Nat} {b : Bool} : am_R f0 b 72 9 = 82 := rfl
theorem R72_10 {f0 : Nat} {b : Bool} : am_R f0 b 72 10 = 83 := rfl
theorem R72_11 {f0 : Nat} {b : Bool} : am_R f0 b 72 11 = 84 := rfl
theorem R72_12 {f0 : Nat} {b : Bool} : am_R f0 b 72 12 = 85 := rfl
theorem R86_0 {f0 : Nat} {b : Bool} : am_R f0 b 86 0 = 87 := rfl
theorem R86_1 {f0 : Nat} {b : Bool} : am_R f0 b 86 1 = 88 := rfl
theorem R86_2 {f0 : Nat} {b : Bool} : am_R f0 b 86 2 = 89 := rfl
theorem R90_0 {f0 : Nat} {b : Bool} : am_R f0 b 90 0 = 91 := rfl
theorem R90_1 {f0 : Nat} {b : Bool} : am_R f0 b 90 1 = 92 := rfl
theorem R90_2 {f0 : Nat} {b : Bool} : am_R f0 b 90 2 = 93 := rfl
theorem R94_0 {f0 : Nat} {b : Bool} : am_R f0 b 94 0 = 95 := rfl
theorem R94_1 {f0 : Nat} {b : Bool} : am_R f0 b 94 1 = 96 := rfl
theorem R94_2 {f0 : Nat} {b : Bool} : am_R f0 b 94 2 = 97 := rfl
theorem R98_0 {f0 : Nat} {b : Bool} : am_R f0 b 98 0 = 99 := rfl
theorem R98_1 {f0 : Nat} {b : Bool} : am_R f0 b 98 1 = 100 := rfl
theorem R98_7 {f0 : Nat} {b : Bool} : am_R f0 b 98 7 = 101 := rfl
theorem R98_8 {f0 : Nat} {b : Bool} : am_R f0 b 98 8 = 104 := rfl
theorem R98_9 {f0 : Nat} {b : Bool} : am_R f0 b 98 9 = 107 := rfl
theorem R98_10 {f0 : Nat} {b : Bool} : am_R f0 b 98 10 = 110 := rfl
theorem R98_11 {f0 : Nat} {b : Bool} : am_R f0 b 98 11 = 113 := rfl
theorem R98_12 {f0 : Nat} {b : Bool} : am_R f0 b 98 12 = 116 := rfl
theorem R98_13 {f0 : Nat} {b : Bool} : am_R f0 b 98 13 = 119 := rfl
theorem R98_14 {f0 : Nat} {b : Bool} : am_R f0 b 98 14 = 122 := rfl
theorem R98_15 {f0 : Nat} {b : Bool} : am_R f0 b 98 15 = 125 := rfl
theorem R98_16 {f0 : Nat} {b : Bool} : am_R f0 b 98 16 = 128 := rfl
theorem R98_17 {f0 : Nat} {b : Bool} : am_R f0 b 98 17 = 131 := rfl
theorem R98_18 {f0 : Nat} {b : Bool} : am_R f0 b 98 18 = 134 := rfl
theorem R98_22 {f0 : Nat} {b : Bool} : am_R f0 b 98 22 = 135 := rfl
theorem R98_23 {f0 : Nat} {b : Bool} : am_R f0 b 98 23 = 136 := rfl
theorem R98_24 {f0 : Nat} {b : Bool} : am_R f0 b 98 24 = 137 := rfl
theorem R98_25 {f0 : Nat} {b : Bool} : am_R f0 b 98 25 = 138 := rfl
theorem R98_26 {f0 : Nat} {b : Bool} : am_R f0 b 98 26 = 139 := rfl
theorem R98_34 {f0 : Nat} {b : Bool} : am_R f0 b 98 34 = 140 := rfl
theorem R98_35 {f0 : Nat} {b : Bool} : am_R f0 b 98 35 = 141 := rfl
theorem R98_36 {f0 : Nat} {b : Bool} : am_R f0 b 98 36 = 142 := rfl
theorem R98_37 {f0 : Nat} {b : Bool} : am_R f0 b 98 37 = 143 := rfl
theorem R98_42 {f0 : Nat} {b : Bool} : am_R f0 b 98 42 = 144 := rfl
theorem R98_43 {f0 : Nat} {b : Bool} : am_R f0 b 98 43 = 145 := rfl
theorem R98_44 {f0 : Nat} {b : Bool} : am_R f0 b 98 44 = 146 := rfl
theorem R98_45 {f0 : Nat} {b : Bool} : am_R f0 b 98 45 = 147 := rfl
theorem R98_46 {f0 : Nat} {b : Bool} : am_R f0 b 98 46 = 148 := rfl
theorem R98_48 {f0 : Nat} {b : Bool} : am_R f0 b 98 48 = 149 := rfl
theorem R98_49 {f0 : Nat} {b : Bool} : am_R f0 b 98 49 = 150 := rfl
theorem R98_52 {f0 : Nat} {b : Bool} : am_R f0 b 98 52 = 151 := rfl
theorem R98_53 {f0 : Nat} {b : Bool} : am_R f0 b 98 53 = 152 := rfl
theorem R98_54 {f0 : Nat} {b : Bool} : am_R f0 b 98 54 = 153 := rfl
theorem R98_57 {f0 : Nat} {b : Bool} : am_R f0 b 98 57 = 154 := rfl
theorem R98_58 {f0 : Nat} {b : Bool} : am_R f0 b 98 58 = 158 := rfl
theorem R101_0 {f0 : Nat} {b : Bool} : am_R f0 b 101 0 = 102 := rfl
theorem R101_1 {f0 : Nat} {b : Bool} : am_R f0 b 101 1 = 103 := rfl
theorem R104_0 {f0 : Nat} {b : Bool} : am_R f0 b 104 0 = 105 := rfl
theorem R104_1 {f0 : Nat} {b : Bool} : am_R f0 b 104 1 = 106 := rfl
theorem R107_0 {f0 : Nat} {b : Bool} : am_R f0 b 107 0 = 108 := rfl
theorem R107_1 {f0 : Nat} {b : Bool} : am_R f0 b 107 1 = 109 := rfl
theorem R110_0 {f0 : Nat} {b : Bool} : am_R f0 b 110 0 = 111 := rfl
theorem R110_1 {f0 : Nat} {b : Bool} : am_R f0 b 110 1 = 112 := rfl
theorem R113_0 {f0 : Nat} {b : Bool} : am_R f0 b 113 0 = 114 := rfl
theorem R113_1 {f0 : Nat} {b : Bool} : am_R f0 b 113 1 = 115 := rfl
theorem R116_0 {f0 : Nat} {b : Bool} : am_R f0 b 116 0 = 117 := rfl
theorem R116_1 {f0 : Nat} {b : Bool} : am_R f0 b 116 1 = 118 := rfl
theorem R119_0 {f0 : Nat} {b : Bool} : am_R f0 b 119 0 = 120 := rfl
theorem R119_1 {f0 : Nat} {b : Bool} : am_R f0 b 119 1 = 121 := rfl
theorem R122_0 {f0 : Nat} {b : Bool} : am_R f0 b 122 0 = 123 := rfl
theorem R122_1 {f0 : Nat} {b : Bool} : am_R f0 b 122 1 = 124 := rfl
theorem R125_0 {f0 : Nat} {b : Bool} : am_R f0 b 125 0 = 126 := rfl
theorem R125_1 {f0 : Nat} {b : Bool} : am_R f0 b 125 1 = 127 := rfl
theorem R128_0 {f0 : Nat} {b : Bool} : am_R f0 b 128 0 = 129 := rfl
theorem R128_1 {f0 : Nat} {b : Bool} : am_R f0 b 128 1 = 130 := rfl
theorem R131_0 {f0 : Nat} {b : Bool} : am_R f0 b 131 0 = 132 := rfl
theorem R131_1 {f0 : Nat} {b : Bool} : am_R f0 b 131 1 = 133 := rfl
theorem R135_0 {f0 : Nat} {b : Bool} : am_R f0 b 135 0 = 1 := rfl
theorem R135_1 {f0 : Nat} {b : Bool} : am_R f0 b 135 1 = 2 := rfl
theorem R135_2 {f0 : Nat} {b : Bool} : am_R f0 b 135 2 = 3 := rfl
theorem R135_3 {f0 : Nat} {b : Bool} : am_R f0 b 135 3 = 4 := rfl
theorem R135_4 {f0 : Nat} {b : Bool} : am_R f0 b 135 4 = 5 := rfl
theorem R135_5 {f0 : Nat} {b : Bool} : am_R f0 b 135 5 = 6 := rfl
theorem R135_6 {f0 : Nat} {b : Bool} : am_R f0 b 135 6 = 7 := rfl
theorem R154_0 {f0 : Nat} {b : Bool} : am_R f0 b 154 0 = 155 := rfl
theorem R154_1 {f0 : Nat} {b : Bool} : am_R f0 b 154 1 = 156 := rfl
theorem R154_2 {f0 : Nat} {b : Bool} : am_R f0 b 154 2 = 157 := rfl
theorem sh_17 : am_shp 17 = 111 := rfl
theorem sh_18 : am_shp 18 = 108 := rfl
theorem sh_19 : am_shp 19 = 3 := rfl
theorem sl_19 : am_slen 19 = 500 := rfl
theorem sh_20 : am_shp 20 = 107 := rfl
theorem sh_21 : am_shp 21 = 103 := rfl
theorem sh_22 : am_shp 22 = 1 := rfl
theorem sl_22 : am_slen 22 = 12 := rfl
theorem sh_23 : am_shp 23 = 1 := rfl
theorem sl_23 : am_slen 23 = 96 := rfl
theorem sh_24 : am_shp 24 = 1 := rfl
theorem sl_24 : am_slen 24 = 96 := rfl
theorem sh_25 : am_shp 25 = 7 := rfl
theorem sl_25 : am_slen 25 = 3 := rfl
theorem sh_26 : am_shp 26 = 101 := rfl
theorem sh_27 : am_shp 27 = 1 := rfl
theorem sl_27 : am_slen 27 = 12 := rfl
theorem sh_28 : am_shp 28 = 1 := rfl
theorem sl_28 : am_slen 28 = 12 := rfl
theorem sh_29 : am_shp 29 = 1 := rfl
theorem sl_29 : am_slen 29 = 12 := rfl
theorem sh_30 : am_shp 30 = 1 := rfl
theorem sl_30 : am_slen 30 = 12 := rfl
theorem sh_31 : am_shp 31 = 1 := rfl
theorem sl_31 : am_slen 31 = 13 := rfl
theorem sh_32 : am_shp 32 = 1 := rfl
theorem sl_32 : am_slen 32 = 12 := rfl
theorem sh_33 : am_shp 33 = 1 := rfl
theorem sl_33 : am_slen 33 = 12 := rfl
theorem sh_34 : am_shp 34 = 106 := rfl
theorem sh_35 : am_shp 35 = 110 := rfl
theorem sh_36 : am_shp 36 = 1 := rfl
theorem sl_36 : am_slen 36 = 6 := rfl
theorem sh_37 : am_shp 37 = 1 := rfl
theorem sl_37 : am_slen 37 = 7 := rfl
theorem sh_38 : am_shp 38 = 102 := rfl
theorem sh_39 : am_shp 39 = 1 := rfl
theorem sl_39 : am_slen 39 = 6 := rfl
theorem sh_40 : am_shp 40 = 2 := rfl
theorem sl_40 : am_slen 40 = 64 := rfl
theorem sh_41 : am_shp 41 = 2 := rfl
theorem sl_41 : am_slen 41 = 64 := rfl
theorem sh_42 : am_shp 42 = 109 := rfl
theorem sh_43 : am_shp 43 = 1 := rfl
theorem sl_43 : am_slen 43 = 24 := rfl
theorem sh_44 : am_shp 44 = 1 := rfl
theorem sl_44 : am_slen 44 = 24 := rfl
theorem sh_45 : am_shp 45 = 1 := rfl
theorem sl_45 : am_slen 45 = 24 := rfl
theorem sh_46 : am_shp 46 = 1 := rfl
theorem sl_46 : am_slen 46 = 24 := rfl
theorem sh_47 : am_shp 47 = 1 := rfl
theorem sl_47 : am_slen 47 = 100 := rfl
theorem sh_48 : am_shp 48 = 1 := rfl
theorem sl_48 : am_slen 48 = 61 := rfl
theorem sh_49 : am_shp 49 = 1 := rfl
theorem sl_49 : am_slen 49 = 61 := rfl
theorem sh_50 : am_shp 50 = 1 := rfl
theorem sl_50 : am_slen 50 = 12 := rfl
theorem sh_51 : am_shp 51 = 1 := rfl
theorem sl_51 : am_slen 51 = 12 := rfl
theorem sh_52 : am_shp 52 = 105 := rfl
theorem sh_53 : am_shp 53 = 100 := rfl
theorem sh_54 : am_shp 54 = 1 := rfl
theorem sl_54 : am_slen 54 = 10 := rfl
theorem sh_55 : am_shp 55 = 1 := rfl
theorem sl_55 : am_slen 55 = 10 := rfl
theorem sh_56 : am_shp 56 = 1 := rfl
theorem sl_56 : am_slen 56 = 8 := rfl
theorem sh_57 : am_shp 57 = 1 := rfl
theorem sl_57 : am_slen 57 = 3 := rfl
theorem sh_58 : am_shp 58 = 104 := rfl
theorem sh_59 : am_shp 59 = 2 := rfl
theorem sl_59 : am_slen 59 = 8 := rfl
theorem sh_60 : am_shp 60 = 1 := rfl
theorem sl_60 : am_slen 60 = 8 := rfl
theorem sh_61 : am_shp 61 = 1 := rfl
theorem sl_61 : am_slen 61 = 8 := rfl
theorem sh_62 : am_shp 62 = 2 := rfl
theorem sl_62 : am_slen 62 = 4 := rfl
theorem sh_63 : am_shp 63 = 1 := rfl
theorem sl_63 : am_slen 63 = 4 := rfl
theorem sh_64 : am_shp 64 = 1 := rfl
theorem sl_64 : am_slen 64 = 12 := rfl
theorem sh_65 : am_shp 65 = 1 := rfl
theorem sl_65 : am_slen 65 = 12 := rfl
theorem sh_66 : am_shp 66 = 1 := rfl
theorem sl_66 : am_slen 66 = 12 := rfl
theorem sh_67 : am_shp 67 = 1 := rfl
theorem sl_67 : am_slen 67 = 12 := rfl
theorem sh_68 : am_shp 68 = 1 := rfl
theorem sl_68 : am_slen 68 = 12 := rfl
theorem sh_69 : am_shp 69 = 1 := rfl
theorem sl_69 : am_slen 69 = 12 := rfl
theorem sh_70 : am_shp 70 = 1 := rfl
theorem sl_70 : am_slen 70 = 12 := rfl
theorem sh_71 : am_shp 71 = 1 := rfl
theorem sl_71 : am_slen 71 = 12 := rfl
theorem sh_72 : am_shp 72 = 104 := rfl
theorem sh_73 : am_shp 73 = 2 := rfl
theorem sl_73 : am_slen 73 = 8 := rfl
theorem sh_74 : am_shp 74 = 1 := rfl
theorem sl_74 : am_slen 74 = 8 := rfl
theorem sh_75 : am_shp 75 = 1 := rfl
theorem sl_75 : am_slen 75 = 8 := rfl
theorem sh_76 : am_shp 76 = 2 := rfl
theorem sl_76 : am_slen 76 = 4 := rfl
theorem sh_77 : am_shp 77 = 1 := rfl
theorem sl_77 : am_slen 77 = 4 := rfl
theorem sh_78 : am_shp 78 = 1 := rfl
theorem sl_78 : am_slen 78 = 12 := rfl
theorem sh_79 : am_shp 79 = 1 := rfl
theorem sl_79 : am_slen 79 = 12 := rfl
theorem sh_80 : am_shp 80 = 1 := rfl
theorem sl_80 : am_slen 80 = 12 := rfl
theorem sh_81 : am_shp 81 = 1 := rfl
theorem sl_81 : am_slen 81 = 12 := rfl
theorem sh_82 : am_shp 82 = 1 := rfl
theorem sl_82 : am_slen 82 = 12 := rfl
theorem sh_83 : am_shp 83 = 1 := rfl
theorem sl_83 : am_slen 83 = 12 := rfl
theorem sh_84 : am_shp 84 = 1 := rfl
theorem sl_84 : am_slen 84 = 12 := rfl
theorem sh_85 : am_shp 85 = 1 := rfl
theorem sl_85 : am_slen 85 = 12 := rfl
theorem sh_86 : am_shp 86 = 103 := rfl
theorem sh_87 : am_shp 87 = 1 := rfl
theorem sl_87 : am_slen 87 = 12 := rfl
theorem sh_88 : am_shp 88 = 1 := rfl
theorem sl_88 : am_slen 88 = 96 := rfl
theorem sh_89 : am_shp 89 = 1 := rfl
theorem sl_89 : am_slen 89 = 96 := rfl
theorem sh_90 : am_shp 90 = 103 := rfl
theorem sh_91 : am_shp 91 = 1 := rfl
theorem sl_91 : am_slen 91 = 12 := rfl
theorem sh_92 : am_shp 92 = 1 := rfl
theorem sl_92 : am_slen 92 = 96 := rfl
theorem sh_93 : am_shp 93 = 1 := rfl
theorem sl_93 : am_slen 93 = 96 := rfl
theorem sh_94 : am_shp 94 = 103 := rfl
theorem sh_95 : am_shp 95 = 1 := rfl
theorem sl_95 : am_slen 95 = 12 := rfl
theorem sh_96 : am_shp 96 = 1 := rfl
theorem sl_96 : am_slen 96 = 96 := rfl
theorem sh_97 : am_shp 97 = 1 := rfl
theorem sl_97 : am_slen 97 = 96 := rfl
theorem sh_98 : am_shp 98 = 112 := rfl
theorem sh_99 : am_shp 99 = 1 := rfl
theorem sl_99 : am_slen 99 = 3 := rfl
theorem sh_100 : am_shp 100 = 3 := rfl
theorem sl_100 : am_slen 100 = 500 := rfl
theorem sh_101 : am_shp 101 = 9 := rfl
theorem sl_101 : am_slen 101 = 2 := rfl
theorem sh_102 : am_shp 102 = 1 := rfl
theorem sl_102 : am_slen 102 = 8 := rfl
theorem sh_103 : am_shp 103 = 1 := rfl
theorem sl_103 : am_slen 103 = 8 := rfl
theorem sh_104 : am_shp 104 = 9 := rfl
theorem sl_104 : am_slen 104 = 2 := rfl
theorem sh_105 : am_shp 105 = 1 := rfl
theorem sl_105 : am_slen 105 = 8 := rfl
theorem sh_106 : am_shp 106 = 1 := rfl
theorem sl_106 : am_slen 106 = 8 := rfl
theorem sh_107 : am_shp 107 = 9 := rfl
theorem sl_107 : am_slen 107 = 2 := rfl
theorem sh_108 : am_shp 108 = 1 := rfl
theorem sl_108 : am_slen 108 = 4 := rfl
theorem sh_109 : am_shp 109 = 1 := rfl
theorem sl_109 : am_slen 109 = 4 := rfl
theorem sh_110 : am_shp 110 = 9 := rfl
theorem sl_110 : am_slen 110 = 2 := rfl
theorem sh_111 : am_shp 111 = 1 := rfl
theorem sl_111 : am_slen 111 = 12 := rfl
theorem sh_112 : am_shp 112 = 1 := rfl
theorem sl_112 : am_slen 112 = 12 := rfl
theorem sh_113 : am_shp 113 = 9 := rfl
theorem sl_113 : am_slen 113 = 2 := rfl
theorem sh_114 : am_shp 114 = 1 := rfl
theorem sl_114 : am_slen 114 = 12 := rfl
theorem sh_115 : am_shp 115 = 1 := rfl
theorem sl_115 : am_slen 115 = 12 := rfl
theorem sh_116 : am_shp 116 = 9 := rfl
theorem sl_116 : am_slen 116 = 2 := rfl
theorem sh_117 : am_shp 117 = 1 := rfl
theorem sl_117 : am_slen 117 = 12 := rfl
theorem sh_118 : am_shp 118 = 1 := rfl
theorem sl_118 : am_slen 118 = 12 := rfl
theorem sh_119 : am_shp 119 = 9 := rfl
theorem sl_119 : am_slen 119 = 2 := rfl
theorem sh_120 : am_shp 120 = 1 := rfl
theorem sl_120 : am_slen 120 = 12 := rfl
theorem sh_121 : am_shp 121 = 1 := rfl
theorem sl_121 : am_slen 121 = 12 := rfl
theorem sh_122 : am_shp 122 = 9 := rfl
theorem sl_122 : am_slen 122 = 2 := rfl
theorem sh_123 : am_shp 123 = 1 := rfl
theorem sl_123 : am_slen 123 = 12 := rfl
theorem sh_124 : am_shp 124 = 1 := rfl
theorem sl_124 : am_slen 124 = 12 := rfl
theorem sh_125 : am_shp 125 = 9 := rfl
theorem sl_125 : am_slen 125 = 2 := rfl
theorem sh_126 : am_shp 126 = 1 := rfl
theorem sl_126 : am_slen 126 = 12 := rfl
theorem sh_127 : am_shp 127 = 1 := rfl
theorem sl_127 : am_slen 127 = 12 := rfl
theorem sh_128 : am_shp 128 = 9 := rfl
theorem sl_128 : am_slen 128 = 2 := rfl
theorem sh_129 : am_shp 129 = 1 := rfl
theorem sl_129 : am_slen 129 = 12 := rfl
theorem sh_130 : am_shp 130 = 1 := rfl
theorem sl_130 : am_slen 130 = 12 := rfl
theorem sh_131 : am_shp 131 = 9 := rfl
theorem sl_131 : am_slen 131 = 2 := rfl
theorem sh_132 : am_shp 132 = 1 := rfl
theorem sl_132 : am_slen 132 = 6 := rfl
theorem sh_133 : am_shp 133 = 1 := rfl
theorem sl_133 : am_slen 133 = 6 := rfl
theorem sh_134 : am_shp 134 = 2 := rfl
theorem sl_134 : am_slen 134 = 12 := rfl
theorem sh_135 : am_shp 135 = 8 := rfl
theorem sl_135 : am_slen 135 = 7 := rfl
theorem sh_136 : am_shp 136 = 1 := rfl
theorem sl_136 : am_slen 136 = 120 := rfl
theorem sh_137 : am_shp 137 = 1 := rfl
theorem sl_137 : am_slen 137 = 120 := rfl
theorem sh_138 : am_shp 138 = 1 := rfl
theorem sl_138 : am_slen 138 = 12 := rfl
theorem sh_139 : am_shp 139 = 1 := rfl
theorem sl_139 : am_slen 139 = 12 := rfl
theorem sh_140 : am_shp 140 = 1 := rfl
theorem sl_140 : am_slen 140 = 12 := rfl
theorem sh_141 : am_shp 141 = 1 := rfl
theorem sl_141 : am_slen 141 = 12 := rfl
theorem sh_142 : am_shp 142 = 1 := rfl
theorem sl_142 : am_slen 142 = 6 := rfl
theorem sh_143 : am_shp 143 = 1 := rfl
theorem sl_143 : am_slen 143 = 6 := rfl
theorem sh_144 : am_shp 144 = 1 := rfl
theorem sl_144 : am_slen 144 = 48 := rfl
theorem sh_145 : am_shp 145 = 1 := rfl
theorem sl_145 : am_slen 145 = 48 := rfl
theorem sh_146 : am_shp 146 = 1 := rfl
theorem sl_146 : am_slen 146 = 48 := rfl
theorem sh_147 : am_shp 147 = 1 := rfl
theorem sl_147 : am_slen 147 = 48 := rfl
theorem sh_148 : am_shp 148 = 1 := rfl
theorem sl_148 : am_slen 148 = 48 := rfl
theorem sh_149 : am_shp 149 = 1 := rfl
theorem sl_149 : am_slen 149 = 100 := rfl
theorem sh_150 : am_shp 150 = 1 := rfl
theorem sl_150 : am_slen 150 = 100 := rfl
theorem sh_151 : am_shp 151 = 1 := rfl
theorem sl_151 : am_slen 151 = 10 := rfl
theorem sh_152 : am_shp 152 = 1 := rfl
theorem sl_152 : am_slen 152 = 10 := rfl
theorem sh_153 : am_shp 153 = 1 := rfl
theorem sl_153 : am_slen 153 = 11 := rfl
theorem sh_154 : am_shp 154 = 9 := rfl
theorem sl_154 : am_slen 154 = 3 := rfl
theorem sh_155 : am_shp 155 = 1 := rfl
theorem sl_155 : am_slen 155 = 267 := rfl
theorem sh_156 : am_shp 156 = 1 := rfl
theorem sl_156 : am_slen 156 = 267 := rfl
theorem sh_157 : am_shp 157 = 1 := rfl
theorem sl_157 : am_slen 157 = 267 := rfl
theorem sh_158 : am_shp 158 = 4 := rfl
theorem sl_158 : am_slen 158 = 3 := rfl
theorem sh_15 : am_shp 15 = 5 := rfl
theorem am_R_new {f0 : Nat} {b : Bool} {n : Nat} (h : 159 ≤ n) : am_row (am_R f0 b) n (fun _ => 0) = am_R f0 b := by
  funext i j
  unfold am_row
  by_cases hi : i = n
  · subst hi
    rw [if_pos rfl]
    unfold am_R
    rw [if_neg (by omega), if_neg (by omega), if_neg (by omega), List.getD_eq_getElem?_getD (l := am_RT), List.getElem?_eq_none (by show am_RT.length ≤ _; have : am_RT.length = 142 := rfl; omega)]
    simp
  · rw [if_neg hi]
