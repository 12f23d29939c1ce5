theorem zw_zg (M : zM) (i j : Nat) : zw (zg M i j) = zg M i j := by simp only [zw, zg, Int32.ofInt_toInt]
theorem zv_zh (M : zM) (i j : Nat) : zv (zh M i j) = zh M i j := by simp only [zv, zh, Int64.ofInt_toInt]
theorem fgn : zfg [] [] := trivial
theorem fgk {a : Option Value} {as bs : List (Option Value)} (h : zfg as bs) : zfg (a :: as) (a :: bs) := ⟨Or.inr rfl, h⟩
theorem fgd {a : Option Value} {as bs : List (Option Value)} (h : zfg as bs) : zfg (a :: as) (none :: bs) := ⟨Or.inl rfl, h⟩
theorem zsh {a : Int} (h0 : 0 ≤ a) (h1 : a < 6) : a.toNat < 6 := by omega
theorem zx_shl (a b : Int) : zw (z_shl a b) = z_shl a b := by simp only [zw, z_shl, Int32.ofInt_toInt]
theorem zx_shr (a b : Int) : zw (z_shr a b) = z_shr a b := by simp only [zw, z_shr, Int32.ofInt_toInt]
theorem zx_ushr (a b : Int) : zw (z_ushr a b) = z_ushr a b := by simp only [zw, z_ushr, Int32.ofInt_toInt]
theorem zx_and (a b : Int) : zw (z_and a b) = z_and a b := by simp only [zw, z_and, Int32.ofInt_toInt]
theorem zx_or (a b : Int) : zw (z_or a b) = z_or a b := by simp only [zw, z_or, Int32.ofInt_toInt]
theorem zx_xor (a b : Int) : zw (z_xor a b) = z_xor a b := by simp only [zw, z_xor, Int32.ofInt_toInt]
theorem zx_div (a b : Int) : zw (z_div a b) = z_div a b := by simp only [zw, z_div, Int32.ofInt_toInt]
theorem zx_rem (a b : Int) : zw (z_rem a b) = z_rem a b := by simp only [zw, z_rem, Int32.ofInt_toInt]
theorem zx_b (a : Int) : zw (z_b a) = z_b a := by simp only [zw, z_b, Int32.ofInt_toInt]
theorem zx_s (a : Int) : zw (z_s a) = z_s a := by simp only [zw, z_s, Int32.ofInt_toInt]
theorem zq_m2000000000 : zw (-2000000000) = -2000000000 := by decide
theorem zq_m63 : zw (-63) = -63 := by decide
theorem zq_m59 : zw (-59) = -59 := by decide
theorem zq_m14 : zw (-14) = -14 := by decide
theorem zq_m13 : zw (-13) = -13 := by decide
theorem zq_m12 : zw (-12) = -12 := by decide
theorem zq_m11 : zw (-11) = -11 := by decide
theorem zq_m6 : zw (-6) = -6 := by decide
theorem zq_m5 : zw (-5) = -5 := by decide
theorem zq_m3 : zw (-3) = -3 := by decide
theorem zq_m2 : zw (-2) = -2 := by decide
theorem zq_m1 : zw (-1) = -1 := by decide
theorem zq_0 : zw (0) = 0 := by decide
theorem zq_1 : zw (1) = 1 := by decide
theorem zq_2 : zw (2) = 2 := by decide
theorem zq_3 : zw (3) = 3 := by decide
theorem zq_4 : zw (4) = 4 := by decide
theorem zq_5 : zw (5) = 5 := by decide
theorem zq_6 : zw (6) = 6 := by decide
theorem zq_7 : zw (7) = 7 := by decide
theorem zq_8 : zw (8) = 8 := by decide
theorem zq_9 : zw (9) = 9 := by decide
theorem zq_10 : zw (10) = 10 := by decide
theorem zq_11 : zw (11) = 11 := by decide
theorem zq_12 : zw (12) = 12 := by decide
theorem zq_16 : zw (16) = 16 := by decide
theorem zq_20 : zw (20) = 20 := by decide
theorem zq_21 : zw (21) = 21 := by decide
theorem zq_24 : zw (24) = 24 := by decide
theorem zq_33 : zw (33) = 33 := by decide
theorem zq_37 : zw (37) = 37 := by decide
theorem zq_38 : zw (38) = 38 := by decide
theorem zq_40 : zw (40) = 40 := by decide
theorem zq_41 : zw (41) = 41 := by decide
theorem zq_42 : zw (42) = 42 := by decide
theorem zq_43 : zw (43) = 43 := by decide
theorem zq_45 : zw (45) = 45 := by decide
theorem zq_47 : zw (47) = 47 := by decide
theorem zq_48 : zw (48) = 48 := by decide
theorem zq_50 : zw (50) = 50 := by decide
theorem zq_57 : zw (57) = 57 := by decide
theorem zq_59 : zw (59) = 59 := by decide
theorem zq_60 : zw (60) = 60 := by decide
theorem zq_61 : zw (61) = 61 := by decide
theorem zq_62 : zw (62) = 62 := by decide
theorem zq_63 : zw (63) = 63 := by decide
theorem zq_80 : zw (80) = 80 := by decide
theorem zq_99 : zw (99) = 99 := by decide
theorem zq_100 : zw (100) = 100 := by decide
theorem zq_120 : zw (120) = 120 := by decide
theorem zq_124 : zw (124) = 124 := by decide
theorem zq_126 : zw (126) = 126 := by decide
theorem zq_255 : zw (255) = 255 := by decide
theorem zqv_m9223372036854775808 : zv (-9223372036854775808) = -9223372036854775808 := by decide
theorem zqv_0 : zv (0) = 0 := by decide
theorem zqv_1 : zv (1) = 1 := by decide
