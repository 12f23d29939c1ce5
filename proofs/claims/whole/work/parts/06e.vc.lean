theorem e_X8_in {d : Nat} {Q : Int → zM → Prop} {M : zM} (v0 : Int) (v1 : Int) (v2 : Int) (h : wp (Ev d) 8 cX8_in (some .boolean) Q 0 [some (zI v0), some (zI v1), some (zI v2)] [] M) : Ev (d + 1) mX8_in [zI v0, zI v1, zI v2] M Q := ⟨kX8_in, Nat.le_of_ble_eq_true rfl, h⟩
theorem v_X8_in_0 {E : zE} {Q : Int → zM → Prop} {M : zM} (v0 : Int) (v1 : Int) (v2 : Int)  (h : (zw v0 < zw v1 → (Q 0 M)) ∧ (¬ zw v0 < zw v1 → ((zw v2 < zw v0 → (Q 0 M)) ∧ (¬ zw v2 < zw v0 → (Q 1 M))))) : wp E 8 cX8_in (some .boolean) Q 0 [some (zI v0), some (zI v1), some (zI v2)] [] M := by
  refine w_iload_n dX8_in_0 rfl ?_
  refine w_iload_n dX8_in_1 rfl ?_
  refine w_icmp_lt (tgt := 14) dX8_in_2 (by decide) rfl rfl (fun q => ?_) (fun q => ?_)
  · have h := h.1 q
    refine w_iconst dX8_in_14 ?_
    exact w_rz rfl dX8_in_15 zq_0 (by decide) h
  · have h := h.2 q
    refine w_iload_n dX8_in_5 rfl ?_
    refine w_iload_n dX8_in_6 rfl ?_
    refine w_icmp_gt (tgt := 14) dX8_in_7 (by decide) rfl rfl (fun q => ?_) (fun q => ?_)
    · have h := h.1 q
      refine w_iconst dX8_in_14 ?_
      exact w_rz rfl dX8_in_15 zq_0 (by decide) h
    · have h := h.2 q
      refine w_iconst dX8_in_10 ?_
      refine w_goto (tgt := 15) dX8_in_11 (by decide) ?_
      exact w_rz rfl dX8_in_15 zq_1 (by decide) h
theorem e_X8_bitsOf {d : Nat} {Q : Int → zM → Prop} {M : zM} (v0 : Int) (h : wp (Ev d) 8 cX8_bitsOf (some .int) Q 0 [some (zI v0), none, none] [] M) : Ev (d + 1) mX8_bitsOf [zI v0] M Q := ⟨kX8_bitsOf, Nat.le_of_ble_eq_true rfl, h⟩
theorem v_X8_bitsOf_0 {E : zE} {Q : Int → zM → Prop} {M : zM} (v0 : Int)  (h : wp E 8 cX8_bitsOf (some .int) Q 4 [none, some (zI 0), some (zI v0)] [] M) : wp E 8 cX8_bitsOf (some .int) Q 0 [some (zI v0), none, none] [] M := by
  refine w_iconst dX8_bitsOf_0 ?_
  refine w_istore_n dX8_bitsOf_1 (Nat.le_of_ble_eq_true rfl) rfl ?_
  refine w_iload_n dX8_bitsOf_2 rfl ?_
  refine w_istore_n dX8_bitsOf_3 (Nat.le_of_ble_eq_true rfl) rfl ?_
  exact w_fgt (fgd (fgk (fgk (fgn)))) h
theorem v_X8_bitsOf_4 {E : zE} {Q : Int → zM → Prop} {M : zM} (v1 : Int) (v2 : Int)  (h : (zw v2 = 0 → (Q (zw v1) M)) ∧ (¬ zw v2 = 0 → (wp E 8 cX8_bitsOf (some .int) Q 4 [none, some (zI (v1 + 1)), some (zI (z_and v2 (v2 - 1)))] [] M))) : wp E 8 cX8_bitsOf (some .int) Q 4 [none, some (zI v1), some (zI v2)] [] M := by
  refine w_iload_n dX8_bitsOf_4 rfl ?_
  refine w_if_eq (tgt := 20) dX8_bitsOf_5 (by decide) rfl (fun q => ?_) (fun q => ?_)
  · have h := h.1 q
    refine w_iload_n dX8_bitsOf_20 rfl ?_
    exact w_ri rfl dX8_bitsOf_21 rfl h
  · have h := h.2 q
    refine w_iinc dX8_bitsOf_8 rfl rfl ?_
    refine w_iload_n dX8_bitsOf_11 rfl ?_
    refine w_iload_n dX8_bitsOf_12 rfl ?_
    refine w_iconst dX8_bitsOf_13 ?_
    refine w_isub dX8_bitsOf_14 ?_
    refine w_iand dX8_bitsOf_15 ?_
    refine w_istore_n dX8_bitsOf_16 (Nat.le_of_ble_eq_true rfl) rfl ?_
    refine w_goto (tgt := 4) dX8_bitsOf_17 (by decide) ?_
    exact w_fgt (fgd (fgk (fgk (fgn)))) h
theorem e_X8_isPerson {d : Nat} {Q : Int → zM → Prop} {M : zM} (v1 : Int) (h : wp (Ev d) 8 cX8_isPerson (some .boolean) Q 0 [some (.ref 1280), some (zI v1)] [] M) : Ev (d + 1) mX8_isPerson [.ref 1280, zI v1] M Q := ⟨kX8_isPerson, Nat.le_of_ble_eq_true rfl, h⟩
theorem v_X8_isPerson_0 {E : zE} {Q : Int → zM → Prop} {M : zM} (v1 : Int)  (h : E mX8_in [zI v1, zI 0, zI ((zg M 1280 1) - 1)] M (fun r1 M2 => (zw r1 = 0 ∨ zw r1 = 1) ∧ (Q (zw r1) M2))) : wp E 8 cX8_isPerson (some .boolean) Q 0 [some (.ref 1280), some (zI v1)] [] M := by
  refine w_iload_n dX8_isPerson_0 rfl ?_
  refine w_iconst dX8_isPerson_1 ?_
  refine w_aload_n dX8_isPerson_2 rfl ?_
  refine w_gfI (ci := 8) (k := 1) dX8_isPerson_3 f8_111 ob_1280 rfl ?_
  refine w_iconst dX8_isPerson_6 ?_
  refine w_isub dX8_isPerson_7 ?_
  refine w_invSi [_, _, _] dX8_isPerson_8 l8_114 kX8_in rfl rfl (Nat.le_of_ble_eq_true rfl) (Or.inr rfl) h (fun r1 M2 h => ?_)
  obtain ⟨c3, h⟩ := h
  exact w_rz rfl dX8_isPerson_11 rfl c3 h
theorem e_X8_isName {d : Nat} {Q : Int → zM → Prop} {M : zM} (v0 : Int) (h : wp (Ev d) 8 cX8_isName (some .boolean) Q 0 [some (zI v0)] [] M) : Ev (d + 1) mX8_isName [zI v0] M Q := ⟨kX8_isName, Nat.le_of_ble_eq_true rfl, h⟩
theorem v_X8_isName_0 {E : zE} {Q : Int → zM → Prop} {M : zM} (v0 : Int)  (h : E mX8_in [zI v0, zI 0, zI 11] M (fun r1 M2 => (zw r1 = 0 ∨ zw r1 = 1) ∧ (Q (zw r1) M2))) : wp E 8 cX8_isName (some .boolean) Q 0 [some (zI v0)] [] M := by
  refine w_iload_n dX8_isName_0 rfl ?_
  refine w_iconst dX8_isName_1 ?_
  refine w_bipush dX8_isName_2 (by decide) ?_
  refine w_invSi [_, _, _] dX8_isName_4 l8_114 kX8_in rfl rfl (Nat.le_of_ble_eq_true rfl) (Or.inr rfl) h (fun r1 M2 h => ?_)
  obtain ⟨c3, h⟩ := h
  exact w_rz rfl dX8_isName_7 rfl c3 h
theorem e_X8_isYear {d : Nat} {Q : Int → zM → Prop} {M : zM} (v0 : Int) (h : wp (Ev d) 8 cX8_isYear (some .boolean) Q 0 [some (zI v0)] [] M) : Ev (d + 1) mX8_isYear [zI v0] M Q := ⟨kX8_isYear, Nat.le_of_ble_eq_true rfl, h⟩
theorem v_X8_isYear_0 {E : zE} {Q : Int → zM → Prop} {M : zM} (v0 : Int)  (h : E mX8_in [zI v0, zI 0, zI 99] M (fun r1 M2 => (zw r1 = 0 ∨ zw r1 = 1) ∧ (Q (zw r1) M2))) : wp E 8 cX8_isYear (some .boolean) Q 0 [some (zI v0)] [] M := by
  refine w_iload_n dX8_isYear_0 rfl ?_
  refine w_iconst dX8_isYear_1 ?_
  refine w_bipush dX8_isYear_2 (by decide) ?_
  refine w_invSi [_, _, _] dX8_isYear_4 l8_114 kX8_in rfl rfl (Nat.le_of_ble_eq_true rfl) (Or.inr rfl) h (fun r1 M2 h => ?_)
  obtain ⟨c3, h⟩ := h
  exact w_rz rfl dX8_isYear_7 rfl c3 h
theorem e_X8_lives {d : Nat} {Q : Int → zM → Prop} {M : zM} (v1 : Int) (v2 : Int) (h : wp (Ev d) 8 cX8_lives (some .boolean) Q 0 [some (.ref 1280), some (zI v1), some (zI v2)] [] M) : Ev (d + 1) mX8_lives [.ref 1280, zI v1, zI v2] M Q := ⟨kX8_lives, Nat.le_of_ble_eq_true rfl, h⟩
theorem v_X8_lives_0 {E : zE} {Q : Int → zM → Prop} {M : zM} (v1 : Int) (v2 : Int)  (h : (0 ≤ zw v1) ∧ ((zw v1 < 12) ∧ ((zw v2 < zg M 1283 (zw v1).toNat → (Q 0 M)) ∧ (¬ zw v2 < zg M 1283 (zw v1).toNat → ((0 ≤ zw v1) ∧ ((zw v1 < 12) ∧ ((zw v2 < zg M 1284 (zw v1).toNat → (Q 1 M)) ∧ (¬ zw v2 < zg M 1284 (zw v1).toNat → (Q 0 M))))))))) : wp E 8 cX8_lives (some .boolean) Q 0 [some (.ref 1280), some (zI v1), some (zI v2)] [] M := by
  refine w_aload_n dX8_lives_0 rfl ?_
  refine w_gfA (ci := 8) (k := 2) dX8_lives_1 f8_7 ob_1280 rfl ?_
  refine w_iload_n dX8_lives_4 rfl ?_
  obtain ⟨c1, h⟩ := h
  obtain ⟨c2, h⟩ := h
  refine w_iald dX8_lives_5 rfl (a8_2 ob_1280) c1 c2 ?_
  refine w_iload_n dX8_lives_6 rfl ?_
  refine w_icmp_gt (tgt := 24) dX8_lives_7 (by decide) (zw_zg _ _ _) rfl (fun q => ?_) (fun q => ?_)
  · have h := h.1 q
    refine w_iconst dX8_lives_24 ?_
    exact w_rz rfl dX8_lives_25 zq_0 (by decide) h
  · have h := h.2 q
    refine w_iload_n dX8_lives_10 rfl ?_
    refine w_aload_n dX8_lives_11 rfl ?_
    refine w_gfA (ci := 8) (k := 3) dX8_lives_12 f8_13 ob_1280 rfl ?_
    refine w_iload_n dX8_lives_15 rfl ?_
    obtain ⟨c3, h⟩ := h
    obtain ⟨c4, h⟩ := h
    refine w_iald dX8_lives_16 rfl (a8_3 ob_1280) c3 c4 ?_
    refine w_icmp_ge (tgt := 24) dX8_lives_17 (by decide) rfl (zw_zg _ _ _) (fun q => ?_) (fun q => ?_)
    · have h := h.2 q
      refine w_iconst dX8_lives_24 ?_
      exact w_rz rfl dX8_lives_25 zq_0 (by decide) h
    · have h := h.1 q
      refine w_iconst dX8_lives_20 ?_
      refine w_goto (tgt := 25) dX8_lives_21 (by decide) ?_
      exact w_rz rfl dX8_lives_25 zq_1 (by decide) h
theorem e_X8_isLife {d : Nat} {Q : Int → zM → Prop} {M : zM} (v0 : Int) (v1 : Int) (h : wp (Ev d) 8 cX8_isLife (some .boolean) Q 0 [some (zI v0), some (zI v1)] [] M) : Ev (d + 1) mX8_isLife [zI v0, zI v1] M Q := ⟨kX8_isLife, Nat.le_of_ble_eq_true rfl, h⟩
theorem v_X8_isLife_0 {E : zE} {Q : Int → zM → Prop} {M : zM} (v0 : Int) (v1 : Int)  (h : E mX8_isYear [zI v0] M (fun r1 M2 => (zw r1 = 0 → (Q 0 M2)) ∧ (¬ zw r1 = 0 → (E mX8_in [zI v1, zI (v0 + 1), zI 100] M2 (fun r3 M4 => (zw r3 = 0 → (Q 0 M4)) ∧ (¬ zw r3 = 0 → (Q 1 M4))))))) : wp E 8 cX8_isLife (some .boolean) Q 0 [some (zI v0), some (zI v1)] [] M := by
  refine w_iload_n dX8_isLife_0 rfl ?_
  refine w_invSi [_] dX8_isLife_1 l8_118 kX8_isYear rfl rfl (Nat.le_of_ble_eq_true rfl) (Or.inr rfl) h (fun r1 M2 h => ?_)
  refine w_if_eq (tgt := 23) dX8_isLife_4 (by decide) rfl (fun q => ?_) (fun q => ?_)
  · have h := h.1 q
    refine w_iconst dX8_isLife_23 ?_
    exact w_rz rfl dX8_isLife_24 zq_0 (by decide) h
  · have h := h.2 q
    refine w_iload_n dX8_isLife_7 rfl ?_
    refine w_iload_n dX8_isLife_8 rfl ?_
    refine w_iconst dX8_isLife_9 ?_
    refine w_iadd dX8_isLife_10 ?_
    refine w_bipush dX8_isLife_11 (by decide) ?_
    refine w_invSi [_, _, _] dX8_isLife_13 l8_114 kX8_in rfl rfl (Nat.le_of_ble_eq_true rfl) (Or.inr rfl) h (fun r3 M4 h => ?_)
    refine w_if_eq (tgt := 23) dX8_isLife_16 (by decide) rfl (fun q => ?_) (fun q => ?_)
    · have h := h.1 q
      refine w_iconst dX8_isLife_23 ?_
      exact w_rz rfl dX8_isLife_24 zq_0 (by decide) h
    · have h := h.2 q
      refine w_iconst dX8_isLife_19 ?_
      refine w_goto (tgt := 24) dX8_isLife_20 (by decide) ?_
      exact w_rz rfl dX8_isLife_24 zq_1 (by decide) h
theorem e_X8_addPerson {d : Nat} {Q : Int → zM → Prop} {M : zM} (v1 : Int) (v2 : Int) (v3 : Int) (h : wp (Ev d) 8 cX8_addPerson (some .int) Q 0 [some (.ref 1280), some (zI v1), some (zI v2), some (zI v3)] [] M) : Ev (d + 1) mX8_addPerson [.ref 1280, zI v1, zI v2, zI v3] M Q := ⟨kX8_addPerson, Nat.le_of_ble_eq_true rfl, h⟩
theorem v_X8_addPerson_0 {E : zE} {Q : Int → zM → Prop} {M : zM} (v1 : Int) (v2 : Int) (v3 : Int)  (h : (0 ≤ zg M 1280 1) ∧ ((zg M 1280 1 < 12) ∧ (∀ M3 : zM, M3 = zs M 1283 (zg M 1280 1).toNat v1 → ((0 ≤ zg M3 1280 1) ∧ ((zg M3 1280 1 < 12) ∧ (∀ M6 : zM, M6 = zs M3 1284 (zg M3 1280 1).toNat v2 → ((0 ≤ zg M6 1280 1) ∧ ((zg M6 1280 1 < 12) ∧ (∀ M9 : zM, M9 = zs M6 1285 (zg M6 1280 1).toNat v3 → (∀ M10 : zM, M10 = zs M9 1280 1 ((zg M9 1280 1) + 1) → (Q (zw ((zg M10 1280 1) - 1)) M10))))))))))) : wp E 8 cX8_addPerson (some .int) Q 0 [some (.ref 1280), some (zI v1), some (zI v2), some (zI v3)] [] M := by
  refine w_aload_n dX8_addPerson_0 rfl ?_
  refine w_gfA (ci := 8) (k := 2) dX8_addPerson_1 f8_7 ob_1280 rfl ?_
  refine w_aload_n dX8_addPerson_4 rfl ?_
  refine w_gfI (ci := 8) (k := 1) dX8_addPerson_5 f8_111 ob_1280 rfl ?_
  refine w_iload_n dX8_addPerson_8 rfl ?_
  obtain ⟨c1, h⟩ := h
  obtain ⟨c2, h⟩ := h
  have h := h _ rfl
  refine w_iast dX8_addPerson_9 (zw_zg _ _ _) (a8_2 ob_1280) c1 c2 ?_
  refine w_aload_n dX8_addPerson_10 rfl ?_
  refine w_gfA (ci := 8) (k := 3) dX8_addPerson_11 f8_13 ob_1280 rfl ?_
  refine w_aload_n dX8_addPerson_14 rfl ?_
  refine w_gfI (ci := 8) (k := 1) dX8_addPerson_15 f8_111 ob_1280 rfl ?_
  refine w_iload_n dX8_addPerson_18 rfl ?_
  obtain ⟨c4, h⟩ := h
  obtain ⟨c5, h⟩ := h
  have h := h _ rfl
  refine w_iast dX8_addPerson_19 (zw_zg _ _ _) (a8_3 ob_1280) c4 c5 ?_
  refine w_aload_n dX8_addPerson_20 rfl ?_
  refine w_gfA (ci := 8) (k := 4) dX8_addPerson_21 f8_16 ob_1280 rfl ?_
  refine w_aload_n dX8_addPerson_24 rfl ?_
  refine w_gfI (ci := 8) (k := 1) dX8_addPerson_25 f8_111 ob_1280 rfl ?_
  refine w_iload_n dX8_addPerson_28 rfl ?_
  obtain ⟨c7, h⟩ := h
  obtain ⟨c8, h⟩ := h
  have h := h _ rfl
  refine w_iast dX8_addPerson_29 (zw_zg _ _ _) (a8_4 ob_1280) c7 c8 ?_
  refine w_aload_n dX8_addPerson_30 rfl ?_
  refine w_dup dX8_addPerson_31 rfl ?_
  refine w_gfI (ci := 8) (k := 1) dX8_addPerson_32 f8_111 ob_1280 rfl ?_
  refine w_iconst dX8_addPerson_35 ?_
  refine w_iadd dX8_addPerson_36 ?_
  have h := h _ rfl
  refine w_pfI (ci := 8) (k := 1) dX8_addPerson_37 f8_111 ob_1280 rfl rfl rfl ?_
  refine w_aload_n dX8_addPerson_40 rfl ?_
  refine w_gfI (ci := 8) (k := 1) dX8_addPerson_41 f8_111 ob_1280 rfl ?_
  refine w_iconst dX8_addPerson_44 ?_
  refine w_isub dX8_addPerson_45 ?_
  exact w_ri rfl dX8_addPerson_46 rfl h
theorem e_X8_person {d : Nat} {Q : Int → zM → Prop} {M : zM} (v1 : Int) (v2 : Int) (h : wp (Ev d) 8 cX8_person (some .int) Q 0 [some (.ref 1280), some (zI v1), some (zI v2)] [] M) : Ev (d + 1) mX8_person [.ref 1280, zI v1, zI v2] M Q := ⟨kX8_person, Nat.le_of_ble_eq_true rfl, h⟩
theorem v_X8_person_0 {E : zE} {Q : Int → zM → Prop} {M : zM} (v1 : Int) (v2 : Int)  (h : E mX8_isLife [zI v1, zI v2] M (fun r1 M2 => (zw r1 = 0 → (Q (-1) M2)) ∧ (¬ zw r1 = 0 → ((zg M2 1280 1 = 12 → (Q (-3) M2)) ∧ (¬ zg M2 1280 1 = 12 → (E mX8_addPerson [.ref 1280, zI v1, zI v2, zI (-1)] M2 (fun r3 M4 => Q (zw r3) M4))))))) : wp E 8 cX8_person (some .int) Q 0 [some (.ref 1280), some (zI v1), some (zI v2)] [] M := by
  refine w_iload_n dX8_person_0 rfl ?_
  refine w_iload_n dX8_person_1 rfl ?_
  refine w_invSi [_, _] dX8_person_2 l8_122 kX8_isLife rfl rfl (Nat.le_of_ble_eq_true rfl) (Or.inr rfl) h (fun r1 M2 h => ?_)
  refine w_if_ne (tgt := 10) dX8_person_5 (by decide) rfl (fun q => ?_) (fun q => ?_)
  · have h := h.2 q
    refine w_aload_n dX8_person_10 rfl ?_
    refine w_gfI (ci := 8) (k := 1) dX8_person_11 f8_111 ob_1280 rfl ?_
    refine w_bipush dX8_person_14 (by decide) ?_
    refine w_icmp_ne (tgt := 24) dX8_person_16 (by decide) (zw_zg _ _ _) zq_12 (fun q => ?_) (fun q => ?_)
    · have h := h.2 q
      refine w_aload_n dX8_person_24 rfl ?_
      refine w_iload_n dX8_person_25 rfl ?_
      refine w_iload_n dX8_person_26 rfl ?_
      refine w_iconst dX8_person_27 ?_
      refine w_invVi [_, _, _] dX8_person_28 l8_126 kX8_addPerson rfl rfl (Nat.le_of_ble_eq_true rfl) (Or.inl rfl) ob_1280 h (fun r3 M4 h => ?_)
      exact w_ri rfl dX8_person_31 rfl h
    · have h := h.1 q
      refine w_bipush dX8_person_19 (by decide) ?_
      refine w_goto (tgt := 31) dX8_person_21 (by decide) ?_
      exact w_ri rfl dX8_person_31 zq_m3 h
  · have h := h.1 q
    refine w_iconst dX8_person_8 ?_
    exact w_ri rfl dX8_person_9 zq_m1 h
theorem e_X8_people {d : Nat} {Q : Int → zM → Prop} {M : zM} (v1 : Int) (v2 : Int) (v3 : Int) (h : wp (Ev d) 8 cX8_people (some .int) Q 0 [some (.ref 1280), some (zI v1), some (zI v2), some (zI v3), none, none, none, none] [] M) : Ev (d + 1) mX8_people [.ref 1280, zI v1, zI v2, zI v3] M Q := ⟨kX8_people, Nat.le_of_ble_eq_true rfl, h⟩
theorem v_X8_people_0 {E : zE} {Q : Int → zM → Prop} {M : zM} (v1 : Int) (v2 : Int) (v3 : Int)  (h : E mX8_isShelf [zI v1] M (fun r1 M2 => (zw r1 = 0 → (Q (-1) M2)) ∧ (¬ zw r1 = 0 → (E mX8_in [zI v3, zI 1, zI 12] M2 (fun r3 M4 => (zw r3 = 0 → (Q (-1) M4)) ∧ (¬ zw r3 = 0 → ((0 ≤ zw v1) ∧ ((zw v1 < 6) ∧ ((zg M4 1324 (zw v1).toNat = (-1) → (wp E 8 cX8_people (some .int) Q 43 [some (.ref 1280), some (zI v1), some (zI v2), some (zI v3), none, none, none, none] [] M4)) ∧ (¬ zg M4 1324 (zw v1).toNat = (-1) → ((0 ≤ zw v1) ∧ ((zw v1 < 6) ∧ ((zg M4 1324 (zw v1).toNat = (-2) → (wp E 8 cX8_people (some .int) Q 43 [some (.ref 1280), some (zI v1), some (zI v2), some (zI v3), none, none, none, none] [] M4)) ∧ (¬ zg M4 1324 (zw v1).toNat = (-2) → (Q (-12) M4))))))))))))))) : wp E 8 cX8_people (some .int) Q 0 [some (.ref 1280), some (zI v1), some (zI v2), some (zI v3), none, none, none, none] [] M := by
  refine w_iload_n dX8_people_0 rfl ?_
  refine w_invSi [_] dX8_people_1 l8_130 kX8_isShelf rfl rfl (Nat.le_of_ble_eq_true rfl) (Or.inr rfl) h (fun r1 M2 h => ?_)
  refine w_if_eq (tgt := 17) dX8_people_4 (by decide) rfl (fun q => ?_) (fun q => ?_)
  · have h := h.1 q
    refine w_iconst dX8_people_17 ?_
    exact w_ri rfl dX8_people_18 zq_m1 h
  · have h := h.2 q
    refine w_iload_n dX8_people_7 rfl ?_
    refine w_iconst dX8_people_8 ?_
    refine w_bipush dX8_people_9 (by decide) ?_
    refine w_invSi [_, _, _] dX8_people_11 l8_114 kX8_in rfl rfl (Nat.le_of_ble_eq_true rfl) (Or.inr rfl) h (fun r3 M4 h => ?_)
    refine w_if_ne (tgt := 19) dX8_people_14 (by decide) rfl (fun q => ?_) (fun q => ?_)
    · have h := h.2 q
      refine w_aload_n dX8_people_19 rfl ?_
      refine w_gfA (ci := 8) (k := 43) dX8_people_20 f8_94 ob_1280 rfl ?_
      refine w_iload_n dX8_people_23 rfl ?_
      obtain ⟨c5, h⟩ := h
      obtain ⟨c6, h⟩ := h
      refine w_iald dX8_people_24 rfl (a8_43 ob_1280) c5 c6 ?_
      refine w_iconst dX8_people_25 ?_
      refine w_icmp_eq (tgt := 43) dX8_people_26 (by decide) (zw_zg _ _ _) zq_m1 (fun q => ?_) (fun q => ?_)
      · have h := h.1 q
        exact w_fgt (fgk (fgk (fgk (fgk (fgd (fgd (fgd (fgd (fgn))))))))) h
      · have h := h.2 q
        refine w_aload_n dX8_people_29 rfl ?_
        refine w_gfA (ci := 8) (k := 43) dX8_people_30 f8_94 ob_1280 rfl ?_
        refine w_iload_n dX8_people_33 rfl ?_
        obtain ⟨c7, h⟩ := h
        obtain ⟨c8, h⟩ := h
        refine w_iald dX8_people_34 rfl (a8_43 ob_1280) c7 c8 ?_
        refine w_bipush dX8_people_35 (by decide) ?_
        refine w_icmp_eq (tgt := 43) dX8_people_37 (by decide) (zw_zg _ _ _) zq_m2 (fun q => ?_) (fun q => ?_)
        · have h := h.1 q
          exact w_fgt (fgk (fgk (fgk (fgk (fgd (fgd (fgd (fgd (fgn))))))))) h
        · have h := h.2 q
          refine w_bipush dX8_people_40 (by decide) ?_
          exact w_ri rfl dX8_people_42 zq_m12 h
    · have h := h.1 q
      refine w_iconst dX8_people_17 ?_
      exact w_ri rfl dX8_people_18 zq_m1 h
theorem v_X8_people_43 {E : zE} {Q : Int → zM → Prop} {M : zM} (v1 : Int) (v2 : Int) (v3 : Int)  (h : (0 ≤ zw v1) ∧ ((zw v1 < 6) ∧ ((zg M 1324 (zw v1).toNat = (-1) → (Q 0 M)) ∧ (¬ zg M 1324 (zw v1).toNat = (-1) → (wp E 8 cX8_people (some .int) Q 58 [some (.ref 1280), some (zI v1), some (zI v2), some (zI v3), some (zI 0), none, none, none] [] M))))) : wp E 8 cX8_people (some .int) Q 43 [some (.ref 1280), some (zI v1), some (zI v2), some (zI v3), none, none, none, none] [] M := by
  refine w_aload_n dX8_people_43 rfl ?_
  refine w_gfA (ci := 8) (k := 43) dX8_people_44 f8_94 ob_1280 rfl ?_
  refine w_iload_n dX8_people_47 rfl ?_
  obtain ⟨c1, h⟩ := h
  obtain ⟨c2, h⟩ := h
  refine w_iald dX8_people_48 rfl (a8_43 ob_1280) c1 c2 ?_
  refine w_iconst dX8_people_49 ?_
  refine w_icmp_ne (tgt := 55) dX8_people_50 (by decide) (zw_zg _ _ _) zq_m1 (fun q => ?_) (fun q => ?_)
  · have h := h.2 q
    refine w_iconst dX8_people_55 ?_
    refine w_istore dX8_people_56 (Nat.le_of_ble_eq_true rfl) rfl ?_
    exact w_fgt (fgk (fgk (fgk (fgk (fgk (fgd (fgd (fgd (fgn))))))))) h
  · have h := h.1 q
    refine w_iconst dX8_people_53 ?_
    exact w_ri rfl dX8_people_54 zq_0 h
theorem v_X8_people_58 {E : zE} {Q : Int → zM → Prop} {M : zM} (v1 : Int) (v2 : Int) (v3 : Int) (v4 : Int)  (h : (zw v4 < zw v3 → ((zw (z_lc ((zw v2) + (zw (3 * v4))) 0) < 0 → (Q (zw v4) M)) ∧ (¬ zw (z_lc ((zw v2) + (zw (3 * v4))) 0) < 0 → ((0 ≤ zw v1) ∧ ((zw v1 < 6) ∧ ((zw (z_lc (((zw v2) + (zw (3 * v4))) + (2)) (zw (zg M 1325 (zw v1).toNat))) < 0 → ((zg M 1280 1 = 12 → (Q (zw v4) M)) ∧ (¬ zg M 1280 1 = 12 → ((0 ≤ zw ((60 * v1) + (zv ((zw v2) + (zw (3 * v4)))))) ∧ ((zw ((60 * v1) + (zv ((zw v2) + (zw (3 * v4))))) < 360) ∧ ((0 ≤ zw (((60 * v1) + (zv ((zw v2) + (zw (3 * v4))))) + 1)) ∧ ((zw (((60 * v1) + (zv ((zw v2) + (zw (3 * v4))))) + 1) < 360) ∧ (E mX8_isLife [zI (zv (zh M 1326 (zw ((60 * v1) + (zv ((zw v2) + (zw (3 * v4)))))).toNat)), zI (zv (zh M 1326 (zw (((60 * v1) + (zv ((zw v2) + (zw (3 * v4))))) + 1)).toNat))] M (fun r7 M8 => (zw r7 = 0 → (Q (zw v4) M8)) ∧ (¬ zw r7 = 0 → ((0 ≤ zw (((60 * v1) + (zv ((zw v2) + (zw (3 * v4))))) + 2)) ∧ ((zw (((60 * v1) + (zv ((zw v2) + (zw (3 * v4))))) + 2) < 360) ∧ (E mX8_in [zI (zv (zh M8 1326 (zw (((60 * v1) + (zv ((zw v2) + (zw (3 * v4))))) + 2)).toNat)), zI (-1), zI 11] M8 (fun r11 M12 => (zw r11 = 0 → (Q (zw v4) M12)) ∧ (¬ zw r11 = 0 → ((0 ≤ zw ((60 * v1) + (zv ((zw v2) + (zw (3 * v4)))))) ∧ ((zw ((60 * v1) + (zv ((zw v2) + (zw (3 * v4))))) < 360) ∧ ((0 ≤ zw (((60 * v1) + (zv ((zw v2) + (zw (3 * v4))))) + 1)) ∧ ((zw (((60 * v1) + (zv ((zw v2) + (zw (3 * v4))))) + 1) < 360) ∧ ((0 ≤ zw (((60 * v1) + (zv ((zw v2) + (zw (3 * v4))))) + 2)) ∧ ((zw (((60 * v1) + (zv ((zw v2) + (zw (3 * v4))))) + 2) < 360) ∧ (E mX8_addPerson [.ref 1280, zI (zv (zh M12 1326 (zw ((60 * v1) + (zv ((zw v2) + (zw (3 * v4)))))).toNat)), zI (zv (zh M12 1326 (zw (((60 * v1) + (zv ((zw v2) + (zw (3 * v4))))) + 1)).toNat)), zI (zv (zh M12 1326 (zw (((60 * v1) + (zv ((zw v2) + (zw (3 * v4))))) + 2)).toNat))] M12 (fun r19 M20 => wp E 8 cX8_people (some .int) Q 58 [some (.ref 1280), some (zI v1), some (zI v2), some (zI v3), some (zI (v4 + 1)), none, none, none] [] M20))))))))))))))))))))))) ∧ (¬ zw (z_lc (((zw v2) + (zw (3 * v4))) + (2)) (zw (zg M 1325 (zw v1).toNat))) < 0 → (Q (zw v4) M)))))))) ∧ (¬ zw v4 < zw v3 → (Q (zw v3) M))) : wp E 8 cX8_people (some .int) Q 58 [some (.ref 1280), some (zI v1), some (zI v2), some (zI v3), some (zI v4), none, none, none] [] M := by
  refine w_iload dX8_people_58 rfl ?_
  refine w_iload_n dX8_people_60 rfl ?_
  refine w_icmp_ge (tgt := 205) dX8_people_61 (by decide) rfl rfl (fun q => ?_) (fun q => ?_)
  · have h := h.2 q
    refine w_iload_n dX8_people_205 rfl ?_
    exact w_ri rfl dX8_people_206 rfl h
  · have h := h.1 q
    refine w_iload_n dX8_people_64 rfl ?_
    refine w_i2l dX8_people_65 ?_
    refine w_iconst dX8_people_66 ?_
    refine w_iload dX8_people_67 rfl ?_
    refine w_imul dX8_people_69 ?_
    refine w_i2l dX8_people_70 ?_
    refine w_ladd dX8_people_71 ?_
    refine w_lstore dX8_people_72 (Nat.le_of_ble_eq_true rfl) rfl ?_
    refine w_lload dX8_people_74 rfl ?_
    refine w_lconst dX8_people_76 ?_
    refine w_lcmp dX8_people_77 ?_
    refine w_if_lt (tgt := 107) dX8_people_78 (by decide) rfl (fun q => ?_) (fun q => ?_)
    · have h := h.1 q
      refine w_iload dX8_people_107 rfl ?_
      exact w_ri rfl dX8_people_109 rfl h
    · have h := h.2 q
      refine w_lload dX8_people_81 rfl ?_
      refine w_ldc2 (n := 2) dX8_people_83 o8_133 ?_
      refine w_ladd dX8_people_86 ?_
      refine w_aload_n dX8_people_87 rfl ?_
      refine w_gfA (ci := 8) (k := 44) dX8_people_88 f8_97 ob_1280 rfl ?_
      refine w_iload_n dX8_people_91 rfl ?_
      obtain ⟨c1, h⟩ := h
      obtain ⟨c2, h⟩ := h
      refine w_iald dX8_people_92 rfl (a8_44 ob_1280) c1 c2 ?_
      refine w_i2l dX8_people_93 ?_
      refine w_lcmp dX8_people_94 ?_
      refine w_if_ge (tgt := 107) dX8_people_95 (by decide) rfl (fun q => ?_) (fun q => ?_)
      · have h := h.2 q
        refine w_iload dX8_people_107 rfl ?_
        exact w_ri rfl dX8_people_109 rfl h
      · have h := h.1 q
        refine w_aload_n dX8_people_98 rfl ?_
        refine w_gfI (ci := 8) (k := 1) dX8_people_99 f8_111 ob_1280 rfl ?_
        refine w_bipush dX8_people_102 (by decide) ?_
        refine w_icmp_ne (tgt := 110) dX8_people_104 (by decide) (zw_zg _ _ _) zq_12 (fun q => ?_) (fun q => ?_)
        · have h := h.2 q
          refine w_bipush dX8_people_110 (by decide) ?_
          refine w_iload_n dX8_people_112 rfl ?_
          refine w_imul dX8_people_113 ?_
          refine w_lload dX8_people_114 rfl ?_
          refine w_l2i dX8_people_116 ?_
          refine w_iadd dX8_people_117 ?_
          refine w_istore dX8_people_118 (Nat.le_of_ble_eq_true rfl) rfl ?_
          refine w_aload_n dX8_people_120 rfl ?_
          refine w_gfA (ci := 8) (k := 45) dX8_people_121 f8_100 ob_1280 rfl ?_
          refine w_iload dX8_people_124 rfl ?_
          obtain ⟨c3, h⟩ := h
          obtain ⟨c4, h⟩ := h
          refine w_lald dX8_people_126 rfl (a8_45 ob_1280) c3 c4 ?_
          refine w_l2i dX8_people_127 ?_
          refine w_aload_n dX8_people_128 rfl ?_
          refine w_gfA (ci := 8) (k := 45) dX8_people_129 f8_100 ob_1280 rfl ?_
          refine w_iload dX8_people_132 rfl ?_
          refine w_iconst dX8_people_134 ?_
          refine w_iadd dX8_people_135 ?_
          obtain ⟨c5, h⟩ := h
          obtain ⟨c6, h⟩ := h
          refine w_lald dX8_people_136 rfl (a8_45 ob_1280) c5 c6 ?_
          refine w_l2i dX8_people_137 ?_
          refine w_invSi [_, _] dX8_people_138 l8_122 kX8_isLife rfl rfl (Nat.le_of_ble_eq_true rfl) (Or.inr rfl) h (fun r7 M8 h => ?_)
          refine w_if_eq (tgt := 163) dX8_people_141 (by decide) rfl (fun q => ?_) (fun q => ?_)
          · have h := h.1 q
            refine w_iload dX8_people_163 rfl ?_
            exact w_ri rfl dX8_people_165 rfl h
          · have h := h.2 q
            refine w_aload_n dX8_people_144 rfl ?_
            refine w_gfA (ci := 8) (k := 45) dX8_people_145 f8_100 ob_1280 rfl ?_
            refine w_iload dX8_people_148 rfl ?_
            refine w_iconst dX8_people_150 ?_
            refine w_iadd dX8_people_151 ?_
            obtain ⟨c9, h⟩ := h
            obtain ⟨c10, h⟩ := h
            refine w_lald dX8_people_152 rfl (a8_45 ob_1280) c9 c10 ?_
            refine w_l2i dX8_people_153 ?_
            refine w_iconst dX8_people_154 ?_
            refine w_bipush dX8_people_155 (by decide) ?_
            refine w_invSi [_, _, _] dX8_people_157 l8_114 kX8_in rfl rfl (Nat.le_of_ble_eq_true rfl) (Or.inr rfl) h (fun r11 M12 h => ?_)
            refine w_if_ne (tgt := 166) dX8_people_160 (by decide) rfl (fun q => ?_) (fun q => ?_)
            · have h := h.2 q
              refine w_aload_n dX8_people_166 rfl ?_
              refine w_aload_n dX8_people_167 rfl ?_
              refine w_gfA (ci := 8) (k := 45) dX8_people_168 f8_100 ob_1280 rfl ?_
              refine w_iload dX8_people_171 rfl ?_
              obtain ⟨c13, h⟩ := h
              obtain ⟨c14, h⟩ := h
              refine w_lald dX8_people_173 rfl (a8_45 ob_1280) c13 c14 ?_
              refine w_l2i dX8_people_174 ?_
              refine w_aload_n dX8_people_175 rfl ?_
              refine w_gfA (ci := 8) (k := 45) dX8_people_176 f8_100 ob_1280 rfl ?_
              refine w_iload dX8_people_179 rfl ?_
              refine w_iconst dX8_people_181 ?_
              refine w_iadd dX8_people_182 ?_
              obtain ⟨c15, h⟩ := h
              obtain ⟨c16, h⟩ := h
              refine w_lald dX8_people_183 rfl (a8_45 ob_1280) c15 c16 ?_
              refine w_l2i dX8_people_184 ?_
              refine w_aload_n dX8_people_185 rfl ?_
              refine w_gfA (ci := 8) (k := 45) dX8_people_186 f8_100 ob_1280 rfl ?_
              refine w_iload dX8_people_189 rfl ?_
              refine w_iconst dX8_people_191 ?_
              refine w_iadd dX8_people_192 ?_
              obtain ⟨c17, h⟩ := h
              obtain ⟨c18, h⟩ := h
              refine w_lald dX8_people_193 rfl (a8_45 ob_1280) c17 c18 ?_
              refine w_l2i dX8_people_194 ?_
              refine w_invVi [_, _, _] dX8_people_195 l8_126 kX8_addPerson rfl rfl (Nat.le_of_ble_eq_true rfl) (Or.inl rfl) ob_1280 h (fun r19 M20 h => ?_)
              refine w_pop dX8_people_198 rfl ?_
              refine w_iinc dX8_people_199 rfl rfl ?_
              refine w_goto (tgt := 58) dX8_people_202 (by decide) ?_
              exact w_fgt (fgk (fgk (fgk (fgk (fgk (fgd (fgd (fgd (fgn))))))))) h
            · have h := h.1 q
              refine w_iload dX8_people_163 rfl ?_
              exact w_ri rfl dX8_people_165 rfl h
        · have h := h.1 q
          refine w_iload dX8_people_107 rfl ?_
          exact w_ri rfl dX8_people_109 rfl h
theorem e_X8_meet {d : Nat} {Q : Int → zM → Prop} {M : zM} (v1 : Int) (v2 : Int) (h : wp (Ev d) 8 cX8_meet (some .int) Q 0 [some (.ref 1280), some (zI v1), some (zI v2)] [] M) : Ev (d + 1) mX8_meet [.ref 1280, zI v1, zI v2] M Q := ⟨kX8_meet, Nat.le_of_ble_eq_true rfl, h⟩
theorem v_X8_meet_0 {E : zE} {Q : Int → zM → Prop} {M : zM} (v1 : Int) (v2 : Int)  (h : (zw v1 < 0 → (Q (-1) M)) ∧ (¬ zw v1 < 0 → (E mX8_isPerson [.ref 1280, zI (z_div v1 100)] M (fun r1 M2 => (zw r1 = 0 → (Q (-1) M2)) ∧ (¬ zw r1 = 0 → (E mX8_isPerson [.ref 1280, zI (z_rem v1 100)] M2 (fun r3 M4 => (zw r3 = 0 → (Q (-1) M4)) ∧ (¬ zw r3 = 0 → ((z_div v1 100 = z_rem v1 100 → (Q (-1) M4)) ∧ (¬ z_div v1 100 = z_rem v1 100 → (E mX8_isYear [zI v2] M4 (fun r5 M6 => (zw r5 = 0 → (Q (-1) M6)) ∧ (¬ zw r5 = 0 → (E mX8_lives [.ref 1280, zI (z_div v1 100), zI v2] M6 (fun r7 M8 => (zw r7 = 0 → (Q (-1) M8)) ∧ (¬ zw r7 = 0 → (E mX8_lives [.ref 1280, zI (z_rem v1 100), zI v2] M8 (fun r9 M10 => (zw r9 = 0 → (Q (-1) M10)) ∧ (¬ zw r9 = 0 → ((zg M10 1280 5 = 16 → (Q (-3) M10)) ∧ (¬ zg M10 1280 5 = 16 → ((0 ≤ zg M10 1280 5) ∧ ((zg M10 1280 5 < 16) ∧ (∀ M13 : zM, M13 = zs M10 1287 (zg M10 1280 5).toNat (z_div v1 100) → ((0 ≤ zg M13 1280 5) ∧ ((zg M13 1280 5 < 16) ∧ (∀ M16 : zM, M16 = zs M13 1288 (zg M13 1280 5).toNat (z_rem v1 100) → ((0 ≤ zg M16 1280 5) ∧ ((zg M16 1280 5 < 16) ∧ (∀ M19 : zM, M19 = zs M16 1289 (zg M16 1280 5).toNat v2 → (∀ M20 : zM, M20 = zs M19 1280 5 ((zg M19 1280 5) + 1) → (Q (zw ((zg M20 1280 5) - 1)) M20)))))))))))))))))))))))))))))))) : wp E 8 cX8_meet (some .int) Q 0 [some (.ref 1280), some (zI v1), some (zI v2)] [] M := by
  refine w_iload_n dX8_meet_0 rfl ?_
  refine w_if_lt (tgt := 68) dX8_meet_1 (by decide) rfl (fun q => ?_) (fun q => ?_)
  · have h := h.1 q
    refine w_iconst dX8_meet_68 ?_
    exact w_ri rfl dX8_meet_69 zq_m1 h
  · have h := h.2 q
    refine w_aload_n dX8_meet_4 rfl ?_
    refine w_iload_n dX8_meet_5 rfl ?_
    refine w_bipush dX8_meet_6 (by decide) ?_
    refine w_idiv dX8_meet_8 (by decide) ?_
    refine w_invVi [_] dX8_meet_9 l8_135 kX8_isPerson rfl rfl (Nat.le_of_ble_eq_true rfl) (Or.inr rfl) ob_1280 h (fun r1 M2 h => ?_)
    refine w_if_eq (tgt := 68) dX8_meet_12 (by decide) rfl (fun q => ?_) (fun q => ?_)
    · have h := h.1 q
      refine w_iconst dX8_meet_68 ?_
      exact w_ri rfl dX8_meet_69 zq_m1 h
    · have h := h.2 q
      refine w_aload_n dX8_meet_15 rfl ?_
      refine w_iload_n dX8_meet_16 rfl ?_
      refine w_bipush dX8_meet_17 (by decide) ?_
      refine w_irem dX8_meet_19 (by decide) ?_
      refine w_invVi [_] dX8_meet_20 l8_135 kX8_isPerson rfl rfl (Nat.le_of_ble_eq_true rfl) (Or.inr rfl) ob_1280 h (fun r3 M4 h => ?_)
      refine w_if_eq (tgt := 68) dX8_meet_23 (by decide) rfl (fun q => ?_) (fun q => ?_)
      · have h := h.1 q
        refine w_iconst dX8_meet_68 ?_
        exact w_ri rfl dX8_meet_69 zq_m1 h
      · have h := h.2 q
        refine w_iload_n dX8_meet_26 rfl ?_
        refine w_bipush dX8_meet_27 (by decide) ?_
        refine w_idiv dX8_meet_29 (by decide) ?_
        refine w_iload_n dX8_meet_30 rfl ?_
        refine w_bipush dX8_meet_31 (by decide) ?_
        refine w_irem dX8_meet_33 (by decide) ?_
        refine w_icmp_eq (tgt := 68) dX8_meet_34 (by decide) (zx_div _ _) (zx_rem _ _) (fun q => ?_) (fun q => ?_)
        · have h := h.1 q
          refine w_iconst dX8_meet_68 ?_
          exact w_ri rfl dX8_meet_69 zq_m1 h
        · have h := h.2 q
          refine w_iload_n dX8_meet_37 rfl ?_
          refine w_invSi [_] dX8_meet_38 l8_118 kX8_isYear rfl rfl (Nat.le_of_ble_eq_true rfl) (Or.inr rfl) h (fun r5 M6 h => ?_)
          refine w_if_eq (tgt := 68) dX8_meet_41 (by decide) rfl (fun q => ?_) (fun q => ?_)
          · have h := h.1 q
            refine w_iconst dX8_meet_68 ?_
            exact w_ri rfl dX8_meet_69 zq_m1 h
          · have h := h.2 q
            refine w_aload_n dX8_meet_44 rfl ?_
            refine w_iload_n dX8_meet_45 rfl ?_
            refine w_bipush dX8_meet_46 (by decide) ?_
            refine w_idiv dX8_meet_48 (by decide) ?_
            refine w_iload_n dX8_meet_49 rfl ?_
            refine w_invVi [_, _] dX8_meet_50 l8_138 kX8_lives rfl rfl (Nat.le_of_ble_eq_true rfl) (Or.inr rfl) ob_1280 h (fun r7 M8 h => ?_)
            refine w_if_eq (tgt := 68) dX8_meet_53 (by decide) rfl (fun q => ?_) (fun q => ?_)
            · have h := h.1 q
              refine w_iconst dX8_meet_68 ?_
              exact w_ri rfl dX8_meet_69 zq_m1 h
            · have h := h.2 q
              refine w_aload_n dX8_meet_56 rfl ?_
              refine w_iload_n dX8_meet_57 rfl ?_
              refine w_bipush dX8_meet_58 (by decide) ?_
              refine w_irem dX8_meet_60 (by decide) ?_
              refine w_iload_n dX8_meet_61 rfl ?_
              refine w_invVi [_, _] dX8_meet_62 l8_138 kX8_lives rfl rfl (Nat.le_of_ble_eq_true rfl) (Or.inr rfl) ob_1280 h (fun r9 M10 h => ?_)
              refine w_if_ne (tgt := 70) dX8_meet_65 (by decide) rfl (fun q => ?_) (fun q => ?_)
              · have h := h.2 q
                refine w_aload_n dX8_meet_70 rfl ?_
                refine w_gfI (ci := 8) (k := 5) dX8_meet_71 f8_141 ob_1280 rfl ?_
                refine w_bipush dX8_meet_74 (by decide) ?_
                refine w_icmp_ne (tgt := 82) dX8_meet_76 (by decide) (zw_zg _ _ _) zq_16 (fun q => ?_) (fun q => ?_)
                · have h := h.2 q
                  refine w_aload_n dX8_meet_82 rfl ?_
                  refine w_gfA (ci := 8) (k := 6) dX8_meet_83 f8_19 ob_1280 rfl ?_
                  refine w_aload_n dX8_meet_86 rfl ?_
                  refine w_gfI (ci := 8) (k := 5) dX8_meet_87 f8_141 ob_1280 rfl ?_
                  refine w_iload_n dX8_meet_90 rfl ?_
                  refine w_bipush dX8_meet_91 (by decide) ?_
                  refine w_idiv dX8_meet_93 (by decide) ?_
                  obtain ⟨c11, h⟩ := h
                  obtain ⟨c12, h⟩ := h
                  have h := h _ rfl
                  refine w_iast dX8_meet_94 (zw_zg _ _ _) (a8_6 ob_1280) c11 c12 ?_
                  refine w_aload_n dX8_meet_95 rfl ?_
                  refine w_gfA (ci := 8) (k := 7) dX8_meet_96 f8_22 ob_1280 rfl ?_
                  refine w_aload_n dX8_meet_99 rfl ?_
                  refine w_gfI (ci := 8) (k := 5) dX8_meet_100 f8_141 ob_1280 rfl ?_
                  refine w_iload_n dX8_meet_103 rfl ?_
                  refine w_bipush dX8_meet_104 (by decide) ?_
                  refine w_irem dX8_meet_106 (by decide) ?_
                  obtain ⟨c14, h⟩ := h
                  obtain ⟨c15, h⟩ := h
                  have h := h _ rfl
                  refine w_iast dX8_meet_107 (zw_zg _ _ _) (a8_7 ob_1280) c14 c15 ?_
                  refine w_aload_n dX8_meet_108 rfl ?_
                  refine w_gfA (ci := 8) (k := 8) dX8_meet_109 f8_25 ob_1280 rfl ?_
                  refine w_aload_n dX8_meet_112 rfl ?_
                  refine w_gfI (ci := 8) (k := 5) dX8_meet_113 f8_141 ob_1280 rfl ?_
                  refine w_iload_n dX8_meet_116 rfl ?_
                  obtain ⟨c17, h⟩ := h
                  obtain ⟨c18, h⟩ := h
                  have h := h _ rfl
                  refine w_iast dX8_meet_117 (zw_zg _ _ _) (a8_8 ob_1280) c17 c18 ?_
                  refine w_aload_n dX8_meet_118 rfl ?_
                  refine w_dup dX8_meet_119 rfl ?_
                  refine w_gfI (ci := 8) (k := 5) dX8_meet_120 f8_141 ob_1280 rfl ?_
                  refine w_iconst dX8_meet_123 ?_
                  refine w_iadd dX8_meet_124 ?_
                  have h := h _ rfl
                  refine w_pfI (ci := 8) (k := 5) dX8_meet_125 f8_141 ob_1280 rfl rfl rfl ?_
                  refine w_aload_n dX8_meet_128 rfl ?_
                  refine w_gfI (ci := 8) (k := 5) dX8_meet_129 f8_141 ob_1280 rfl ?_
                  refine w_iconst dX8_meet_132 ?_
                  refine w_isub dX8_meet_133 ?_
                  exact w_ri rfl dX8_meet_134 rfl h
                · have h := h.1 q
                  refine w_bipush dX8_meet_79 (by decide) ?_
                  exact w_ri rfl dX8_meet_81 zq_m3 h
              · have h := h.1 q
                refine w_iconst dX8_meet_68 ?_
                exact w_ri rfl dX8_meet_69 zq_m1 h
theorem e_X8_hearing {d : Nat} {Q : Int → zM → Prop} {M : zM} (v1 : Int) (h : wp (Ev d) 8 cX8_hearing (some .int) Q 0 [some (.ref 1280), some (zI v1), none] [] M) : Ev (d + 1) mX8_hearing [.ref 1280, zI v1] M Q := ⟨kX8_hearing, Nat.le_of_ble_eq_true rfl, h⟩
theorem v_X8_hearing_0 {E : zE} {Q : Int → zM → Prop} {M : zM} (v1 : Int)  (h : E mX8_in [zI v1, zI 0, zI 1] M (fun r1 M2 => (zw r1 = 0 → (Q (-1) M2)) ∧ (¬ zw r1 = 0 → (∀ M3 : zM, M3 = zs M2 1280 9 v1 → (Q (zg M2 1280 9) M3))))) : wp E 8 cX8_hearing (some .int) Q 0 [some (.ref 1280), some (zI v1), none] [] M := by
  refine w_iload_n dX8_hearing_0 rfl ?_
  refine w_iconst dX8_hearing_1 ?_
  refine w_iconst dX8_hearing_2 ?_
  refine w_invSi [_, _, _] dX8_hearing_3 l8_114 kX8_in rfl rfl (Nat.le_of_ble_eq_true rfl) (Or.inr rfl) h (fun r1 M2 h => ?_)
  refine w_if_ne (tgt := 11) dX8_hearing_6 (by decide) rfl (fun q => ?_) (fun q => ?_)
  · have h := h.2 q
    refine w_aload_n dX8_hearing_11 rfl ?_
    refine w_gfI (ci := 8) (k := 9) dX8_hearing_12 f8_144 ob_1280 rfl ?_
    refine w_istore_n dX8_hearing_15 (Nat.le_of_ble_eq_true rfl) rfl ?_
    refine w_aload_n dX8_hearing_16 rfl ?_
    refine w_iload_n dX8_hearing_17 rfl ?_
    have h := h _ rfl
    refine w_pfI (ci := 8) (k := 9) dX8_hearing_18 f8_144 ob_1280 rfl rfl rfl ?_
    refine w_iload_n dX8_hearing_21 rfl ?_
    exact w_ri rfl dX8_hearing_22 (zw_zg _ _ _) h
  · have h := h.1 q
    refine w_iconst dX8_hearing_9 ?_
    exact w_ri rfl dX8_hearing_10 zq_m1 h
theorem e_X8_name {d : Nat} {Q : Int → zM → Prop} {M : zM} (v1 : Int) (v2 : Int) (h : wp (Ev d) 8 cX8_name (some .int) Q 0 [some (.ref 1280), some (zI v1), some (zI v2), none] [] M) : Ev (d + 1) mX8_name [.ref 1280, zI v1, zI v2] M Q := ⟨kX8_name, Nat.le_of_ble_eq_true rfl, h⟩
theorem v_X8_name_0 {E : zE} {Q : Int → zM → Prop} {M : zM} (v1 : Int) (v2 : Int)  (h : E mX8_isPerson [.ref 1280, zI v1] M (fun r1 M2 => (zw r1 = 0 → (Q (-2000000000) M2)) ∧ (¬ zw r1 = 0 → (E mX8_in [zI v2, zI (-1), zI 11] M2 (fun r3 M4 => (zw r3 = 0 → (Q (-2000000000) M4)) ∧ (¬ zw r3 = 0 → ((0 ≤ zw v1) ∧ ((zw v1 < 12) ∧ ((0 ≤ zw v1) ∧ ((zw v1 < 12) ∧ (∀ M9 : zM, M9 = zs M4 1285 (zw v1).toNat v2 → (Q (zg M4 1285 (zw v1).toNat) M9)))))))))))) : wp E 8 cX8_name (some .int) Q 0 [some (.ref 1280), some (zI v1), some (zI v2), none] [] M := by
  refine w_aload_n dX8_name_0 rfl ?_
  refine w_iload_n dX8_name_1 rfl ?_
  refine w_invVi [_] dX8_name_2 l8_135 kX8_isPerson rfl rfl (Nat.le_of_ble_eq_true rfl) (Or.inr rfl) ob_1280 h (fun r1 M2 h => ?_)
  refine w_if_eq (tgt := 18) dX8_name_5 (by decide) rfl (fun q => ?_) (fun q => ?_)
  · have h := h.1 q
    refine w_ldc (n := -2000000000) dX8_name_18 o8_147 ?_
    exact w_ri rfl dX8_name_20 zq_m2000000000 h
  · have h := h.2 q
    refine w_iload_n dX8_name_8 rfl ?_
    refine w_iconst dX8_name_9 ?_
    refine w_bipush dX8_name_10 (by decide) ?_
    refine w_invSi [_, _, _] dX8_name_12 l8_114 kX8_in rfl rfl (Nat.le_of_ble_eq_true rfl) (Or.inr rfl) h (fun r3 M4 h => ?_)
    refine w_if_ne (tgt := 21) dX8_name_15 (by decide) rfl (fun q => ?_) (fun q => ?_)
    · have h := h.2 q
      refine w_aload_n dX8_name_21 rfl ?_
      refine w_gfA (ci := 8) (k := 4) dX8_name_22 f8_16 ob_1280 rfl ?_
      refine w_iload_n dX8_name_25 rfl ?_
      obtain ⟨c5, h⟩ := h
      obtain ⟨c6, h⟩ := h
      refine w_iald dX8_name_26 rfl (a8_4 ob_1280) c5 c6 ?_
      refine w_istore_n dX8_name_27 (Nat.le_of_ble_eq_true rfl) rfl ?_
      refine w_aload_n dX8_name_28 rfl ?_
      refine w_gfA (ci := 8) (k := 4) dX8_name_29 f8_16 ob_1280 rfl ?_
      refine w_iload_n dX8_name_32 rfl ?_
      refine w_iload_n dX8_name_33 rfl ?_
      obtain ⟨c7, h⟩ := h
      obtain ⟨c8, h⟩ := h
      have h := h _ rfl
      refine w_iast dX8_name_34 rfl (a8_4 ob_1280) c7 c8 ?_
      refine w_iload_n dX8_name_35 rfl ?_
      exact w_ri rfl dX8_name_36 (zw_zg _ _ _) h
    · have h := h.1 q
      refine w_ldc (n := -2000000000) dX8_name_18 o8_147 ?_
      exact w_ri rfl dX8_name_20 zq_m2000000000 h
theorem e_X8_fame {d : Nat} {Q : Int → zM → Prop} {M : zM} (v1 : Int) (v2 : Int) (h : wp (Ev d) 8 cX8_fame (some .int) Q 0 [some (.ref 1280), some (zI v1), some (zI v2), none] [] M) : Ev (d + 1) mX8_fame [.ref 1280, zI v1, zI v2] M Q := ⟨kX8_fame, Nat.le_of_ble_eq_true rfl, h⟩
theorem v_X8_fame_0 {E : zE} {Q : Int → zM → Prop} {M : zM} (v1 : Int) (v2 : Int)  (h : E mX8_isName [zI v1] M (fun r1 M2 => (zw r1 = 0 → (Q (-1) M2)) ∧ (¬ zw r1 = 0 → (E mX8_in [zI v2, zI 0, zI 1] M2 (fun r3 M4 => (zw r3 = 0 → (Q (-1) M4)) ∧ (¬ zw r3 = 0 → ((0 ≤ zw v1) ∧ ((zw v1 < 12) ∧ ((0 ≤ zw v1) ∧ ((zw v1 < 12) ∧ (∀ M9 : zM, M9 = zs M4 1292 (zw v1).toNat v2 → (Q (zg M4 1292 (zw v1).toNat) M9)))))))))))) : wp E 8 cX8_fame (some .int) Q 0 [some (.ref 1280), some (zI v1), some (zI v2), none] [] M := by
  refine w_iload_n dX8_fame_0 rfl ?_
  refine w_invSi [_] dX8_fame_1 l8_148 kX8_isName rfl rfl (Nat.le_of_ble_eq_true rfl) (Or.inr rfl) h (fun r1 M2 h => ?_)
  refine w_if_eq (tgt := 16) dX8_fame_4 (by decide) rfl (fun q => ?_) (fun q => ?_)
  · have h := h.1 q
    refine w_iconst dX8_fame_16 ?_
    exact w_ri rfl dX8_fame_17 zq_m1 h
  · have h := h.2 q
    refine w_iload_n dX8_fame_7 rfl ?_
    refine w_iconst dX8_fame_8 ?_
    refine w_iconst dX8_fame_9 ?_
    refine w_invSi [_, _, _] dX8_fame_10 l8_114 kX8_in rfl rfl (Nat.le_of_ble_eq_true rfl) (Or.inr rfl) h (fun r3 M4 h => ?_)
    refine w_if_ne (tgt := 18) dX8_fame_13 (by decide) rfl (fun q => ?_) (fun q => ?_)
    · have h := h.2 q
      refine w_aload_n dX8_fame_18 rfl ?_
      refine w_gfA (ci := 8) (k := 11) dX8_fame_19 f8_31 ob_1280 rfl ?_
      refine w_iload_n dX8_fame_22 rfl ?_
      obtain ⟨c5, h⟩ := h
      obtain ⟨c6, h⟩ := h
      refine w_iald dX8_fame_23 rfl (a8_11 ob_1280) c5 c6 ?_
      refine w_istore_n dX8_fame_24 (Nat.le_of_ble_eq_true rfl) rfl ?_
      refine w_aload_n dX8_fame_25 rfl ?_
      refine w_gfA (ci := 8) (k := 11) dX8_fame_26 f8_31 ob_1280 rfl ?_
      refine w_iload_n dX8_fame_29 rfl ?_
      refine w_iload_n dX8_fame_30 rfl ?_
      obtain ⟨c7, h⟩ := h
      obtain ⟨c8, h⟩ := h
      have h := h _ rfl
      refine w_iast dX8_fame_31 rfl (a8_11 ob_1280) c7 c8 ?_
      refine w_iload_n dX8_fame_32 rfl ?_
      exact w_ri rfl dX8_fame_33 (zw_zg _ _ _) h
    · have h := h.1 q
      refine w_iconst dX8_fame_16 ?_
      exact w_ri rfl dX8_fame_17 zq_m1 h
theorem e_X8_valueAt {d : Nat} {Q : Int → zM → Prop} {M : zM} (v1 : Int) (v2 : Int) (h : wp (Ev d) 8 cX8_valueAt (some .int) Q 0 [some (.ref 1280), some (zI v1), some (zI v2)] [] M) : Ev (d + 1) mX8_valueAt [.ref 1280, zI v1, zI v2] M Q := ⟨kX8_valueAt, Nat.le_of_ble_eq_true rfl, h⟩
theorem v_X8_valueAt_0 {E : zE} {Q : Int → zM → Prop} {M : zM} (v1 : Int) (v2 : Int)  (h : (zw v1 = 0 → ((0 ≤ zw v2) ∧ ((zw v2 < 12) ∧ (Q (zg M 1284 (zw v2).toNat) M)))) ∧ (¬ zw v1 = 0 → ((0 ≤ zw v2) ∧ ((zw v2 < 12) ∧ (Q (zg M 1291 (zw v2).toNat) M))))) : wp E 8 cX8_valueAt (some .int) Q 0 [some (.ref 1280), some (zI v1), some (zI v2)] [] M := by
  refine w_iload_n dX8_valueAt_0 rfl ?_
  refine w_if_ne (tgt := 13) dX8_valueAt_1 (by decide) rfl (fun q => ?_) (fun q => ?_)
  · have h := h.2 q
    refine w_aload_n dX8_valueAt_13 rfl ?_
    refine w_gfA (ci := 8) (k := 10) dX8_valueAt_14 f8_28 ob_1280 rfl ?_
    refine w_iload_n dX8_valueAt_17 rfl ?_
    obtain ⟨c1, h⟩ := h
    obtain ⟨c2, h⟩ := h
    refine w_iald dX8_valueAt_18 rfl (a8_10 ob_1280) c1 c2 ?_
    exact w_ri rfl dX8_valueAt_19 (zw_zg _ _ _) h
  · have h := h.1 q
    refine w_aload_n dX8_valueAt_4 rfl ?_
    refine w_gfA (ci := 8) (k := 3) dX8_valueAt_5 f8_13 ob_1280 rfl ?_
    refine w_iload_n dX8_valueAt_8 rfl ?_
    obtain ⟨c3, h⟩ := h
    obtain ⟨c4, h⟩ := h
    refine w_iald dX8_valueAt_9 rfl (a8_3 ob_1280) c3 c4 ?_
    refine w_goto (tgt := 19) dX8_valueAt_10 (by decide) ?_
    exact w_ri rfl dX8_valueAt_19 (zw_zg _ _ _) h
theorem e_X8_lays {d : Nat} {Q : Int → zM → Prop} {M : zM} (v1 : Int) (v2 : Int) (v3 : Int) (h : wp (Ev d) 8 cX8_lays (none) Q 0 [some (.ref 1280), some (zI v1), some (zI v2), some (zI v3)] [] M) : Ev (d + 1) mX8_lays [.ref 1280, zI v1, zI v2, zI v3] M Q := ⟨kX8_lays, Nat.le_of_ble_eq_true rfl, h⟩
theorem v_X8_lays_0 {E : zE} {Q : Int → zM → Prop} {M : zM} (v1 : Int) (v2 : Int) (v3 : Int)  (h : (zw v1 = 0 → ((0 ≤ zw v2) ∧ ((zw v2 < 12) ∧ (∀ M6 : zM, M6 = zs M 1284 (zw v2).toNat v3 → (Q 0 M6))))) ∧ (¬ zw v1 = 0 → ((0 ≤ zw v2) ∧ ((zw v2 < 12) ∧ (∀ M3 : zM, M3 = zs M 1291 (zw v2).toNat v3 → (Q 0 M3)))))) : wp E 8 cX8_lays (none) Q 0 [some (.ref 1280), some (zI v1), some (zI v2), some (zI v3)] [] M := by
  refine w_iload_n dX8_lays_0 rfl ?_
  refine w_if_ne (tgt := 14) dX8_lays_1 (by decide) rfl (fun q => ?_) (fun q => ?_)
  · have h := h.2 q
    refine w_aload_n dX8_lays_14 rfl ?_
    refine w_gfA (ci := 8) (k := 10) dX8_lays_15 f8_28 ob_1280 rfl ?_
    refine w_iload_n dX8_lays_18 rfl ?_
    refine w_iload_n dX8_lays_19 rfl ?_
    obtain ⟨c1, h⟩ := h
    obtain ⟨c2, h⟩ := h
    have h := h _ rfl
    refine w_iast dX8_lays_20 rfl (a8_10 ob_1280) c1 c2 ?_
    exact w_rv rfl dX8_lays_21 h
  · have h := h.1 q
    refine w_aload_n dX8_lays_4 rfl ?_
    refine w_gfA (ci := 8) (k := 3) dX8_lays_5 f8_13 ob_1280 rfl ?_
    refine w_iload_n dX8_lays_8 rfl ?_
    refine w_iload_n dX8_lays_9 rfl ?_
    obtain ⟨c4, h⟩ := h
    obtain ⟨c5, h⟩ := h
    have h := h _ rfl
    refine w_iast dX8_lays_10 rfl (a8_3 ob_1280) c4 c5 ?_
    refine w_goto (tgt := 21) dX8_lays_11 (by decide) ?_
    exact w_rv rfl dX8_lays_21 h
theorem e_X8_changes {d : Nat} {Q : Int → zM → Prop} {M : zM} (v1 : Int) (v2 : Int) (v3 : Int) (h : wp (Ev d) 8 cX8_changes (some .int) Q 0 [some (.ref 1280), some (zI v1), some (zI v2), some (zI v3), none, none] [] M) : Ev (d + 1) mX8_changes [.ref 1280, zI v1, zI v2, zI v3] M Q := ⟨kX8_changes, Nat.le_of_ble_eq_true rfl, h⟩
theorem v_X8_changes_0 {E : zE} {Q : Int → zM → Prop} {M : zM} (v1 : Int) (v2 : Int) (v3 : Int)  (h : E mX8_valueAt [.ref 1280, zI v1, zI v2] M (fun r1 M2 => (zw r1 = zw v3 → (Q (zw r1) M2)) ∧ (¬ zw r1 = zw v3 → (∀ M3 : zM, M3 = zs M2 1280 13 0 → ((zg M3 1280 12 = 40 → (wp E 8 cX8_changes (some .int) Q 34 [some (.ref 1280), some (zI v1), some (zI v2), some (zI v3), some (zI r1), some (zI 1)] [] M3)) ∧ (¬ zg M3 1280 12 = 40 → (wp E 8 cX8_changes (some .int) Q 121 [some (.ref 1280), some (zI v1), some (zI v2), some (zI v3), some (zI r1), none] [] M3))))))) : wp E 8 cX8_changes (some .int) Q 0 [some (.ref 1280), some (zI v1), some (zI v2), some (zI v3), none, none] [] M := by
  refine w_aload_n dX8_changes_0 rfl ?_
  refine w_iload_n dX8_changes_1 rfl ?_
  refine w_iload_n dX8_changes_2 rfl ?_
  refine w_invVi [_, _] dX8_changes_3 l8_151 kX8_valueAt rfl rfl (Nat.le_of_ble_eq_true rfl) (Or.inl rfl) ob_1280 h (fun r1 M2 h => ?_)
  refine w_istore dX8_changes_6 (Nat.le_of_ble_eq_true rfl) rfl ?_
  refine w_iload dX8_changes_8 rfl ?_
  refine w_iload_n dX8_changes_10 rfl ?_
  refine w_icmp_ne (tgt := 17) dX8_changes_11 (by decide) rfl rfl (fun q => ?_) (fun q => ?_)
  · have h := h.2 q
    refine w_aload_n dX8_changes_17 rfl ?_
    refine w_iconst dX8_changes_18 ?_
    have h := h _ rfl
    refine w_pfI (ci := 8) (k := 13) dX8_changes_19 f8_155 ob_1280 rfl rfl rfl ?_
    refine w_aload_n dX8_changes_22 rfl ?_
    refine w_gfI (ci := 8) (k := 12) dX8_changes_23 f8_158 ob_1280 rfl ?_
    refine w_bipush dX8_changes_26 (by decide) ?_
    refine w_icmp_ne (tgt := 121) dX8_changes_28 (by decide) (zw_zg _ _ _) zq_40 (fun q => ?_) (fun q => ?_)
    · have h := h.2 q
      exact w_fgt (fgk (fgk (fgk (fgk (fgk (fgd (fgn))))))) h
    · have h := h.1 q
      refine w_iconst dX8_changes_31 ?_
      refine w_istore dX8_changes_32 (Nat.le_of_ble_eq_true rfl) rfl ?_
      exact w_fgt (fgk (fgk (fgk (fgk (fgk (fgk (fgn))))))) h
  · have h := h.1 q
    refine w_iload dX8_changes_14 rfl ?_
    exact w_ri rfl dX8_changes_16 rfl h
theorem v_X8_changes_34 {E : zE} {Q : Int → zM → Prop} {M : zM} (v1 : Int) (v2 : Int) (v3 : Int) (v4 : Int) (v5 : Int)  (h : (zw v5 < 40 → ((0 ≤ zw v5) ∧ ((zw v5 < 40) ∧ ((0 ≤ zw (v5 - 1)) ∧ ((zw (v5 - 1) < 40) ∧ (∀ M6 : zM, M6 = zs M 1295 (zw (v5 - 1)).toNat (zg M 1295 (zw v5).toNat) → ((0 ≤ zw v5) ∧ ((zw v5 < 40) ∧ ((0 ≤ zw (v5 - 1)) ∧ ((zw (v5 - 1) < 40) ∧ (∀ M11 : zM, M11 = zs M6 1296 (zw (v5 - 1)).toNat (zg M6 1296 (zw v5).toNat) → ((0 ≤ zw v5) ∧ ((zw v5 < 40) ∧ ((0 ≤ zw (v5 - 1)) ∧ ((zw (v5 - 1) < 40) ∧ (∀ M16 : zM, M16 = zs M11 1297 (zw (v5 - 1)).toNat (zg M11 1297 (zw v5).toNat) → ((0 ≤ zw v5) ∧ ((zw v5 < 40) ∧ ((0 ≤ zw (v5 - 1)) ∧ ((zw (v5 - 1) < 40) ∧ (∀ M21 : zM, M21 = zs M16 1298 (zw (v5 - 1)).toNat (zg M16 1298 (zw v5).toNat) → (wp E 8 cX8_changes (some .int) Q 34 [some (.ref 1280), some (zI v1), some (zI v2), some (zI v3), some (zI v4), some (zI (v5 + 1))] [] M21)))))))))))))))))))))) ∧ (¬ zw v5 < 40 → (∀ M1 : zM, M1 = zs M 1280 12 ((zg M 1280 12) - 1) → (wp E 8 cX8_changes (some .int) Q 121 [some (.ref 1280), some (zI v1), some (zI v2), some (zI v3), some (zI v4), none] [] M1)))) : wp E 8 cX8_changes (some .int) Q 34 [some (.ref 1280), some (zI v1), some (zI v2), some (zI v3), some (zI v4), some (zI v5)] [] M := by
  refine w_iload dX8_changes_34 rfl ?_
  refine w_bipush dX8_changes_36 (by decide) ?_
  refine w_icmp_ge (tgt := 111) dX8_changes_38 (by decide) rfl zq_40 (fun q => ?_) (fun q => ?_)
  · have h := h.2 q
    refine w_aload_n dX8_changes_111 rfl ?_
    refine w_dup dX8_changes_112 rfl ?_
    refine w_gfI (ci := 8) (k := 12) dX8_changes_113 f8_158 ob_1280 rfl ?_
    refine w_iconst dX8_changes_116 ?_
    refine w_isub dX8_changes_117 ?_
    have h := h _ rfl
    refine w_pfI (ci := 8) (k := 12) dX8_changes_118 f8_158 ob_1280 rfl rfl rfl ?_
    exact w_fgt (fgk (fgk (fgk (fgk (fgk (fgd (fgn))))))) h
  · have h := h.1 q
    refine w_aload_n dX8_changes_41 rfl ?_
    refine w_gfA (ci := 8) (k := 14) dX8_changes_42 f8_34 ob_1280 rfl ?_
    refine w_iload dX8_changes_45 rfl ?_
    refine w_iconst dX8_changes_47 ?_
    refine w_isub dX8_changes_48 ?_
    refine w_aload_n dX8_changes_49 rfl ?_
    refine w_gfA (ci := 8) (k := 14) dX8_changes_50 f8_34 ob_1280 rfl ?_
    refine w_iload dX8_changes_53 rfl ?_
    obtain ⟨c2, h⟩ := h
    obtain ⟨c3, h⟩ := h
    refine w_iald dX8_changes_55 rfl (a8_14 ob_1280) c2 c3 ?_
    obtain ⟨c4, h⟩ := h
    obtain ⟨c5, h⟩ := h
    have h := h _ rfl
    refine w_iast dX8_changes_56 rfl (a8_14 ob_1280) c4 c5 ?_
    refine w_aload_n dX8_changes_57 rfl ?_
    refine w_gfA (ci := 8) (k := 15) dX8_changes_58 f8_37 ob_1280 rfl ?_
    refine w_iload dX8_changes_61 rfl ?_
    refine w_iconst dX8_changes_63 ?_
    refine w_isub dX8_changes_64 ?_
    refine w_aload_n dX8_changes_65 rfl ?_
    refine w_gfA (ci := 8) (k := 15) dX8_changes_66 f8_37 ob_1280 rfl ?_
    refine w_iload dX8_changes_69 rfl ?_
    obtain ⟨c7, h⟩ := h
    obtain ⟨c8, h⟩ := h
    refine w_iald dX8_changes_71 rfl (a8_15 ob_1280) c7 c8 ?_
    obtain ⟨c9, h⟩ := h
    obtain ⟨c10, h⟩ := h
    have h := h _ rfl
    refine w_iast dX8_changes_72 rfl (a8_15 ob_1280) c9 c10 ?_
    refine w_aload_n dX8_changes_73 rfl ?_
    refine w_gfA (ci := 8) (k := 16) dX8_changes_74 f8_40 ob_1280 rfl ?_
    refine w_iload dX8_changes_77 rfl ?_
    refine w_iconst dX8_changes_79 ?_
    refine w_isub dX8_changes_80 ?_
    refine w_aload_n dX8_changes_81 rfl ?_
    refine w_gfA (ci := 8) (k := 16) dX8_changes_82 f8_40 ob_1280 rfl ?_
    refine w_iload dX8_changes_85 rfl ?_
    obtain ⟨c12, h⟩ := h
    obtain ⟨c13, h⟩ := h
    refine w_iald dX8_changes_87 rfl (a8_16 ob_1280) c12 c13 ?_
    obtain ⟨c14, h⟩ := h
    obtain ⟨c15, h⟩ := h
    have h := h _ rfl
    refine w_iast dX8_changes_88 rfl (a8_16 ob_1280) c14 c15 ?_
    refine w_aload_n dX8_changes_89 rfl ?_
    refine w_gfA (ci := 8) (k := 17) dX8_changes_90 f8_43 ob_1280 rfl ?_
    refine w_iload dX8_changes_93 rfl ?_
    refine w_iconst dX8_changes_95 ?_
    refine w_isub dX8_changes_96 ?_
    refine w_aload_n dX8_changes_97 rfl ?_
    refine w_gfA (ci := 8) (k := 17) dX8_changes_98 f8_43 ob_1280 rfl ?_
    refine w_iload dX8_changes_101 rfl ?_
    obtain ⟨c17, h⟩ := h
    obtain ⟨c18, h⟩ := h
    refine w_iald dX8_changes_103 rfl (a8_17 ob_1280) c17 c18 ?_
    obtain ⟨c19, h⟩ := h
    obtain ⟨c20, h⟩ := h
    have h := h _ rfl
    refine w_iast dX8_changes_104 rfl (a8_17 ob_1280) c19 c20 ?_
    refine w_iinc dX8_changes_105 rfl rfl ?_
    refine w_goto (tgt := 34) dX8_changes_108 (by decide) ?_
    exact w_fgt (fgk (fgk (fgk (fgk (fgk (fgk (fgn))))))) h
theorem v_X8_changes_121 {E : zE} {Q : Int → zM → Prop} {M : zM} (v1 : Int) (v2 : Int) (v3 : Int) (v4 : Int)  (h : (0 ≤ zg M 1280 12) ∧ ((zg M 1280 12 < 40) ∧ (∀ M3 : zM, M3 = zs M 1295 (zg M 1280 12).toNat v1 → ((0 ≤ zg M3 1280 12) ∧ ((zg M3 1280 12 < 40) ∧ (∀ M6 : zM, M6 = zs M3 1296 (zg M3 1280 12).toNat v2 → ((0 ≤ zg M6 1280 12) ∧ ((zg M6 1280 12 < 40) ∧ (∀ M9 : zM, M9 = zs M6 1297 (zg M6 1280 12).toNat v4 → ((0 ≤ zg M9 1280 12) ∧ ((zg M9 1280 12 < 40) ∧ (∀ M12 : zM, M12 = zs M9 1298 (zg M9 1280 12).toNat v3 → (∀ M13 : zM, M13 = zs M12 1280 12 ((zg M12 1280 12) + 1) → (E mX8_lays [.ref 1280, zI v1, zI v2, zI v3] M13 (fun r14 M15 => Q (zw v4) M15))))))))))))))) : wp E 8 cX8_changes (some .int) Q 121 [some (.ref 1280), some (zI v1), some (zI v2), some (zI v3), some (zI v4), none] [] M := by
  refine w_aload_n dX8_changes_121 rfl ?_
  refine w_gfA (ci := 8) (k := 14) dX8_changes_122 f8_34 ob_1280 rfl ?_
  refine w_aload_n dX8_changes_125 rfl ?_
  refine w_gfI (ci := 8) (k := 12) dX8_changes_126 f8_158 ob_1280 rfl ?_
  refine w_iload_n dX8_changes_129 rfl ?_
  obtain ⟨c1, h⟩ := h
  obtain ⟨c2, h⟩ := h
  have h := h _ rfl
  refine w_iast dX8_changes_130 (zw_zg _ _ _) (a8_14 ob_1280) c1 c2 ?_
  refine w_aload_n dX8_changes_131 rfl ?_
  refine w_gfA (ci := 8) (k := 15) dX8_changes_132 f8_37 ob_1280 rfl ?_
  refine w_aload_n dX8_changes_135 rfl ?_
  refine w_gfI (ci := 8) (k := 12) dX8_changes_136 f8_158 ob_1280 rfl ?_
  refine w_iload_n dX8_changes_139 rfl ?_
  obtain ⟨c4, h⟩ := h
  obtain ⟨c5, h⟩ := h
  have h := h _ rfl
  refine w_iast dX8_changes_140 (zw_zg _ _ _) (a8_15 ob_1280) c4 c5 ?_
  refine w_aload_n dX8_changes_141 rfl ?_
  refine w_gfA (ci := 8) (k := 16) dX8_changes_142 f8_40 ob_1280 rfl ?_
  refine w_aload_n dX8_changes_145 rfl ?_
  refine w_gfI (ci := 8) (k := 12) dX8_changes_146 f8_158 ob_1280 rfl ?_
  refine w_iload dX8_changes_149 rfl ?_
  obtain ⟨c7, h⟩ := h
  obtain ⟨c8, h⟩ := h
  have h := h _ rfl
  refine w_iast dX8_changes_151 (zw_zg _ _ _) (a8_16 ob_1280) c7 c8 ?_
  refine w_aload_n dX8_changes_152 rfl ?_
  refine w_gfA (ci := 8) (k := 17) dX8_changes_153 f8_43 ob_1280 rfl ?_
  refine w_aload_n dX8_changes_156 rfl ?_
  refine w_gfI (ci := 8) (k := 12) dX8_changes_157 f8_158 ob_1280 rfl ?_
  refine w_iload_n dX8_changes_160 rfl ?_
  obtain ⟨c10, h⟩ := h
  obtain ⟨c11, h⟩ := h
  have h := h _ rfl
  refine w_iast dX8_changes_161 (zw_zg _ _ _) (a8_17 ob_1280) c10 c11 ?_
  refine w_aload_n dX8_changes_162 rfl ?_
  refine w_dup dX8_changes_163 rfl ?_
  refine w_gfI (ci := 8) (k := 12) dX8_changes_164 f8_158 ob_1280 rfl ?_
  refine w_iconst dX8_changes_167 ?_
  refine w_iadd dX8_changes_168 ?_
  have h := h _ rfl
  refine w_pfI (ci := 8) (k := 12) dX8_changes_169 f8_158 ob_1280 rfl rfl rfl ?_
  refine w_aload_n dX8_changes_172 rfl ?_
  refine w_iload_n dX8_changes_173 rfl ?_
  refine w_iload_n dX8_changes_174 rfl ?_
  refine w_iload_n dX8_changes_175 rfl ?_
  refine w_invVv [_, _, _] dX8_changes_176 l8_161 kX8_lays rfl rfl (Nat.le_of_ble_eq_true rfl) rfl ob_1280 h (fun r14 M15 h => ?_)
  refine w_iload dX8_changes_179 rfl ?_
  exact w_ri rfl dX8_changes_181 rfl h
theorem e_X8_undo {d : Nat} {Q : Int → zM → Prop} {M : zM}  (h : wp (Ev d) 8 cX8_undo (some .int) Q 0 [some (.ref 1280)] [] M) : Ev (d + 1) mX8_undo [.ref 1280] M Q := ⟨kX8_undo, Nat.le_of_ble_eq_true rfl, h⟩
theorem v_X8_undo_0 {E : zE} {Q : Int → zM → Prop} {M : zM}   (h : (zg M 1280 12 = 0 → (Q (-5) M)) ∧ (¬ zg M 1280 12 = 0 → (∀ M1 : zM, M1 = zs M 1280 12 ((zg M 1280 12) - 1) → (∀ M2 : zM, M2 = zs M1 1280 13 ((zg M1 1280 13) + 1) → ((0 ≤ zg M2 1280 12) ∧ ((zg M2 1280 12 < 40) ∧ ((0 ≤ zg M2 1280 12) ∧ ((zg M2 1280 12 < 40) ∧ ((0 ≤ zg M2 1280 12) ∧ ((zg M2 1280 12 < 40) ∧ (E mX8_lays [.ref 1280, zI (zg M2 1295 (zg M2 1280 12).toNat), zI (zg M2 1296 (zg M2 1280 12).toNat), zI (zg M2 1297 (zg M2 1280 12).toNat)] M2 (fun r9 M10 => Q (zg M10 1280 12) M10)))))))))))) : wp E 8 cX8_undo (some .int) Q 0 [some (.ref 1280)] [] M := by
  refine w_aload_n dX8_undo_0 rfl ?_
  refine w_gfI (ci := 8) (k := 12) dX8_undo_1 f8_158 ob_1280 rfl ?_
  refine w_if_ne (tgt := 10) dX8_undo_4 (by decide) (zw_zg _ _ _) (fun q => ?_) (fun q => ?_)
  · have h := h.2 q
    refine w_aload_n dX8_undo_10 rfl ?_
    refine w_dup dX8_undo_11 rfl ?_
    refine w_gfI (ci := 8) (k := 12) dX8_undo_12 f8_158 ob_1280 rfl ?_
    refine w_iconst dX8_undo_15 ?_
    refine w_isub dX8_undo_16 ?_
    have h := h _ rfl
    refine w_pfI (ci := 8) (k := 12) dX8_undo_17 f8_158 ob_1280 rfl rfl rfl ?_
    refine w_aload_n dX8_undo_20 rfl ?_
    refine w_dup dX8_undo_21 rfl ?_
    refine w_gfI (ci := 8) (k := 13) dX8_undo_22 f8_155 ob_1280 rfl ?_
    refine w_iconst dX8_undo_25 ?_
    refine w_iadd dX8_undo_26 ?_
    have h := h _ rfl
    refine w_pfI (ci := 8) (k := 13) dX8_undo_27 f8_155 ob_1280 rfl rfl rfl ?_
    refine w_aload_n dX8_undo_30 rfl ?_
    refine w_aload_n dX8_undo_31 rfl ?_
    refine w_gfA (ci := 8) (k := 14) dX8_undo_32 f8_34 ob_1280 rfl ?_
    refine w_aload_n dX8_undo_35 rfl ?_
    refine w_gfI (ci := 8) (k := 12) dX8_undo_36 f8_158 ob_1280 rfl ?_
    obtain ⟨c3, h⟩ := h
    obtain ⟨c4, h⟩ := h
    refine w_iald dX8_undo_39 (zw_zg _ _ _) (a8_14 ob_1280) c3 c4 ?_
    refine w_aload_n dX8_undo_40 rfl ?_
    refine w_gfA (ci := 8) (k := 15) dX8_undo_41 f8_37 ob_1280 rfl ?_
    refine w_aload_n dX8_undo_44 rfl ?_
    refine w_gfI (ci := 8) (k := 12) dX8_undo_45 f8_158 ob_1280 rfl ?_
    obtain ⟨c5, h⟩ := h
    obtain ⟨c6, h⟩ := h
    refine w_iald dX8_undo_48 (zw_zg _ _ _) (a8_15 ob_1280) c5 c6 ?_
    refine w_aload_n dX8_undo_49 rfl ?_
    refine w_gfA (ci := 8) (k := 16) dX8_undo_50 f8_40 ob_1280 rfl ?_
    refine w_aload_n dX8_undo_53 rfl ?_
    refine w_gfI (ci := 8) (k := 12) dX8_undo_54 f8_158 ob_1280 rfl ?_
    obtain ⟨c7, h⟩ := h
    obtain ⟨c8, h⟩ := h
    refine w_iald dX8_undo_57 (zw_zg _ _ _) (a8_16 ob_1280) c7 c8 ?_
    refine w_invVv [_, _, _] dX8_undo_58 l8_161 kX8_lays rfl rfl (Nat.le_of_ble_eq_true rfl) rfl ob_1280 h (fun r9 M10 h => ?_)
    refine w_aload_n dX8_undo_61 rfl ?_
    refine w_gfI (ci := 8) (k := 12) dX8_undo_62 f8_158 ob_1280 rfl ?_
    exact w_ri rfl dX8_undo_65 (zw_zg _ _ _) h
  · have h := h.1 q
    refine w_bipush dX8_undo_7 (by decide) ?_
    exact w_ri rfl dX8_undo_9 zq_m5 h
theorem e_X8_redo {d : Nat} {Q : Int → zM → Prop} {M : zM}  (h : wp (Ev d) 8 cX8_redo (some .int) Q 0 [some (.ref 1280)] [] M) : Ev (d + 1) mX8_redo [.ref 1280] M Q := ⟨kX8_redo, Nat.le_of_ble_eq_true rfl, h⟩
theorem v_X8_redo_0 {E : zE} {Q : Int → zM → Prop} {M : zM}   (h : (zg M 1280 13 = 0 → (Q (-5) M)) ∧ (¬ zg M 1280 13 = 0 → ((0 ≤ zg M 1280 12) ∧ ((zg M 1280 12 < 40) ∧ ((0 ≤ zg M 1280 12) ∧ ((zg M 1280 12 < 40) ∧ ((0 ≤ zg M 1280 12) ∧ ((zg M 1280 12 < 40) ∧ (E mX8_lays [.ref 1280, zI (zg M 1295 (zg M 1280 12).toNat), zI (zg M 1296 (zg M 1280 12).toNat), zI (zg M 1298 (zg M 1280 12).toNat)] M (fun r7 M8 => ∀ M9 : zM, M9 = zs M8 1280 12 ((zg M8 1280 12) + 1) → (∀ M10 : zM, M10 = zs M9 1280 13 ((zg M9 1280 13) - 1) → (Q (zg M10 1280 13) M10)))))))))))) : wp E 8 cX8_redo (some .int) Q 0 [some (.ref 1280)] [] M := by
  refine w_aload_n dX8_redo_0 rfl ?_
  refine w_gfI (ci := 8) (k := 13) dX8_redo_1 f8_155 ob_1280 rfl ?_
  refine w_if_ne (tgt := 10) dX8_redo_4 (by decide) (zw_zg _ _ _) (fun q => ?_) (fun q => ?_)
  · have h := h.2 q
    refine w_aload_n dX8_redo_10 rfl ?_
    refine w_aload_n dX8_redo_11 rfl ?_
    refine w_gfA (ci := 8) (k := 14) dX8_redo_12 f8_34 ob_1280 rfl ?_
    refine w_aload_n dX8_redo_15 rfl ?_
    refine w_gfI (ci := 8) (k := 12) dX8_redo_16 f8_158 ob_1280 rfl ?_
    obtain ⟨c1, h⟩ := h
    obtain ⟨c2, h⟩ := h
    refine w_iald dX8_redo_19 (zw_zg _ _ _) (a8_14 ob_1280) c1 c2 ?_
    refine w_aload_n dX8_redo_20 rfl ?_
    refine w_gfA (ci := 8) (k := 15) dX8_redo_21 f8_37 ob_1280 rfl ?_
    refine w_aload_n dX8_redo_24 rfl ?_
    refine w_gfI (ci := 8) (k := 12) dX8_redo_25 f8_158 ob_1280 rfl ?_
    obtain ⟨c3, h⟩ := h
    obtain ⟨c4, h⟩ := h
    refine w_iald dX8_redo_28 (zw_zg _ _ _) (a8_15 ob_1280) c3 c4 ?_
    refine w_aload_n dX8_redo_29 rfl ?_
    refine w_gfA (ci := 8) (k := 17) dX8_redo_30 f8_43 ob_1280 rfl ?_
    refine w_aload_n dX8_redo_33 rfl ?_
    refine w_gfI (ci := 8) (k := 12) dX8_redo_34 f8_158 ob_1280 rfl ?_
    obtain ⟨c5, h⟩ := h
    obtain ⟨c6, h⟩ := h
    refine w_iald dX8_redo_37 (zw_zg _ _ _) (a8_17 ob_1280) c5 c6 ?_
    refine w_invVv [_, _, _] dX8_redo_38 l8_161 kX8_lays rfl rfl (Nat.le_of_ble_eq_true rfl) rfl ob_1280 h (fun r7 M8 h => ?_)
    refine w_aload_n dX8_redo_41 rfl ?_
    refine w_dup dX8_redo_42 rfl ?_
    refine w_gfI (ci := 8) (k := 12) dX8_redo_43 f8_158 ob_1280 rfl ?_
    refine w_iconst dX8_redo_46 ?_
    refine w_iadd dX8_redo_47 ?_
    have h := h _ rfl
    refine w_pfI (ci := 8) (k := 12) dX8_redo_48 f8_158 ob_1280 rfl rfl rfl ?_
    refine w_aload_n dX8_redo_51 rfl ?_
    refine w_dup dX8_redo_52 rfl ?_
    refine w_gfI (ci := 8) (k := 13) dX8_redo_53 f8_155 ob_1280 rfl ?_
    refine w_iconst dX8_redo_56 ?_
    refine w_isub dX8_redo_57 ?_
    have h := h _ rfl
    refine w_pfI (ci := 8) (k := 13) dX8_redo_58 f8_155 ob_1280 rfl rfl rfl ?_
    refine w_aload_n dX8_redo_61 rfl ?_
    refine w_gfI (ci := 8) (k := 13) dX8_redo_62 f8_155 ob_1280 rfl ?_
    exact w_ri rfl dX8_redo_65 (zw_zg _ _ _) h
  · have h := h.1 q
    refine w_bipush dX8_redo_7 (by decide) ?_
    exact w_ri rfl dX8_redo_9 zq_m5 h
theorem e_X8_mend {d : Nat} {Q : Int → zM → Prop} {M : zM} (v1 : Int) (v2 : Int) (v3 : Int) (h : wp (Ev d) 8 cX8_mend (some .int) Q 0 [some (.ref 1280), some (zI v1), some (zI v2), some (zI v3)] [] M) : Ev (d + 1) mX8_mend [.ref 1280, zI v1, zI v2, zI v3] M Q := ⟨kX8_mend, Nat.le_of_ble_eq_true rfl, h⟩
theorem v_X8_mend_0 {E : zE} {Q : Int → zM → Prop} {M : zM} (v1 : Int) (v2 : Int) (v3 : Int)  (h : (zw v2 = 0 → (E mX8_isPerson [.ref 1280, zI v1] M (fun r7 M8 => (zw r7 = 0 → (Q (-1) M8)) ∧ (¬ zw r7 = 0 → ((0 ≤ zw v1) ∧ ((zw v1 < 12) ∧ (E mX8_in [zI v3, zI ((zg M8 1283 (zw v1).toNat) + 1), zI 100] M8 (fun r11 M12 => (zw r11 = 0 → (Q (-1) M12)) ∧ (¬ zw r11 = 0 → (E mX8_changes [.ref 1280, zI 0, zI v1, zI v3] M12 (fun r13 M14 => Q (zw r13) M14))))))))))) ∧ (¬ zw v2 = 0 → ((zw v2 = 1 → (E mX8_isName [zI v1] M (fun r1 M2 => (zw r1 = 0 → (Q (-1) M2)) ∧ (¬ zw r1 = 0 → (E mX8_in [zI v3, zI 0, zI 9] M2 (fun r3 M4 => (zw r3 = 0 → (Q (-1) M4)) ∧ (¬ zw r3 = 0 → (E mX8_changes [.ref 1280, zI 1, zI v1, zI v3] M4 (fun r5 M6 => Q (zw r5) M6))))))))) ∧ (¬ zw v2 = 1 → (Q (-1) M))))) : wp E 8 cX8_mend (some .int) Q 0 [some (.ref 1280), some (zI v1), some (zI v2), some (zI v3)] [] M := by
  refine w_iload_n dX8_mend_0 rfl ?_
  refine w_if_ne (tgt := 41) dX8_mend_1 (by decide) rfl (fun q => ?_) (fun q => ?_)
  · have h := h.2 q
    refine w_iload_n dX8_mend_41 rfl ?_
    refine w_iconst dX8_mend_42 ?_
    refine w_icmp_ne (tgt := 73) dX8_mend_43 (by decide) rfl zq_1 (fun q => ?_) (fun q => ?_)
    · have h := h.2 q
      refine w_iconst dX8_mend_73 ?_
      exact w_ri rfl dX8_mend_74 zq_m1 h
    · have h := h.1 q
      refine w_iload_n dX8_mend_46 rfl ?_
      refine w_invSi [_] dX8_mend_47 l8_148 kX8_isName rfl rfl (Nat.le_of_ble_eq_true rfl) (Or.inr rfl) h (fun r1 M2 h => ?_)
      refine w_if_eq (tgt := 73) dX8_mend_50 (by decide) rfl (fun q => ?_) (fun q => ?_)
      · have h := h.1 q
        refine w_iconst dX8_mend_73 ?_
        exact w_ri rfl dX8_mend_74 zq_m1 h
      · have h := h.2 q
        refine w_iload_n dX8_mend_53 rfl ?_
        refine w_iconst dX8_mend_54 ?_
        refine w_bipush dX8_mend_55 (by decide) ?_
        refine w_invSi [_, _, _] dX8_mend_57 l8_114 kX8_in rfl rfl (Nat.le_of_ble_eq_true rfl) (Or.inr rfl) h (fun r3 M4 h => ?_)
        refine w_if_eq (tgt := 73) dX8_mend_60 (by decide) rfl (fun q => ?_) (fun q => ?_)
        · have h := h.1 q
          refine w_iconst dX8_mend_73 ?_
          exact w_ri rfl dX8_mend_74 zq_m1 h
        · have h := h.2 q
          refine w_aload_n dX8_mend_63 rfl ?_
          refine w_iconst dX8_mend_64 ?_
          refine w_iload_n dX8_mend_65 rfl ?_
          refine w_iload_n dX8_mend_66 rfl ?_
          refine w_invVi [_, _, _] dX8_mend_67 l8_165 kX8_changes rfl rfl (Nat.le_of_ble_eq_true rfl) (Or.inl rfl) ob_1280 h (fun r5 M6 h => ?_)
          refine w_goto (tgt := 74) dX8_mend_70 (by decide) ?_
          exact w_ri rfl dX8_mend_74 rfl h
  · have h := h.1 q
    refine w_aload_n dX8_mend_4 rfl ?_
    refine w_iload_n dX8_mend_5 rfl ?_
    refine w_invVi [_] dX8_mend_6 l8_135 kX8_isPerson rfl rfl (Nat.le_of_ble_eq_true rfl) (Or.inr rfl) ob_1280 h (fun r7 M8 h => ?_)
    refine w_if_eq (tgt := 39) dX8_mend_9 (by decide) rfl (fun q => ?_) (fun q => ?_)
    · have h := h.1 q
      refine w_iconst dX8_mend_39 ?_
      exact w_ri rfl dX8_mend_40 zq_m1 h
    · have h := h.2 q
      refine w_iload_n dX8_mend_12 rfl ?_
      refine w_aload_n dX8_mend_13 rfl ?_
      refine w_gfA (ci := 8) (k := 2) dX8_mend_14 f8_7 ob_1280 rfl ?_
      refine w_iload_n dX8_mend_17 rfl ?_
      obtain ⟨c9, h⟩ := h
      obtain ⟨c10, h⟩ := h
      refine w_iald dX8_mend_18 rfl (a8_2 ob_1280) c9 c10 ?_
      refine w_iconst dX8_mend_19 ?_
      refine w_iadd dX8_mend_20 ?_
      refine w_bipush dX8_mend_21 (by decide) ?_
      refine w_invSi [_, _, _] dX8_mend_23 l8_114 kX8_in rfl rfl (Nat.le_of_ble_eq_true rfl) (Or.inr rfl) h (fun r11 M12 h => ?_)
      refine w_if_eq (tgt := 39) dX8_mend_26 (by decide) rfl (fun q => ?_) (fun q => ?_)
      · have h := h.1 q
        refine w_iconst dX8_mend_39 ?_
        exact w_ri rfl dX8_mend_40 zq_m1 h
      · have h := h.2 q
        refine w_aload_n dX8_mend_29 rfl ?_
        refine w_iconst dX8_mend_30 ?_
        refine w_iload_n dX8_mend_31 rfl ?_
        refine w_iload_n dX8_mend_32 rfl ?_
        refine w_invVi [_, _, _] dX8_mend_33 l8_165 kX8_changes rfl rfl (Nat.le_of_ble_eq_true rfl) (Or.inl rfl) ob_1280 h (fun r13 M14 h => ?_)
        refine w_goto (tgt := 40) dX8_mend_36 (by decide) ?_
        exact w_ri rfl dX8_mend_40 rfl h
theorem e_X8_isAhead {d : Nat} {Q : Int → zM → Prop} {M : zM} (v1 : Int) (v2 : Int) (h : wp (Ev d) 8 cX8_isAhead (some .boolean) Q 0 [some (.ref 1280), some (zI v1), some (zI v2)] [] M) : Ev (d + 1) mX8_isAhead [.ref 1280, zI v1, zI v2] M Q := ⟨kX8_isAhead, Nat.le_of_ble_eq_true rfl, h⟩
theorem v_X8_isAhead_0 {E : zE} {Q : Int → zM → Prop} {M : zM} (v1 : Int) (v2 : Int)  (h : (0 ≤ zw v1) ∧ ((zw v1 < 12) ∧ ((0 ≤ zw v2) ∧ ((zw v2 < 12) ∧ ((zg M 1283 (zw v1).toNat < zg M 1283 (zw v2).toNat → (Q 1 M)) ∧ (¬ zg M 1283 (zw v1).toNat < zg M 1283 (zw v2).toNat → ((0 ≤ zw v1) ∧ ((zw v1 < 12) ∧ ((0 ≤ zw v2) ∧ ((zw v2 < 12) ∧ ((zg M 1283 (zw v1).toNat = zg M 1283 (zw v2).toNat → ((zw v1 < zw v2 → (Q 1 M)) ∧ (¬ zw v1 < zw v2 → (Q 0 M)))) ∧ (¬ zg M 1283 (zw v1).toNat = zg M 1283 (zw v2).toNat → (Q 0 M))))))))))))) : wp E 8 cX8_isAhead (some .boolean) Q 0 [some (.ref 1280), some (zI v1), some (zI v2)] [] M := by
  refine w_aload_n dX8_isAhead_0 rfl ?_
  refine w_gfA (ci := 8) (k := 2) dX8_isAhead_1 f8_7 ob_1280 rfl ?_
  refine w_iload_n dX8_isAhead_4 rfl ?_
  obtain ⟨c1, h⟩ := h
  obtain ⟨c2, h⟩ := h
  refine w_iald dX8_isAhead_5 rfl (a8_2 ob_1280) c1 c2 ?_
  refine w_aload_n dX8_isAhead_6 rfl ?_
  refine w_gfA (ci := 8) (k := 2) dX8_isAhead_7 f8_7 ob_1280 rfl ?_
  refine w_iload_n dX8_isAhead_10 rfl ?_
  obtain ⟨c3, h⟩ := h
  obtain ⟨c4, h⟩ := h
  refine w_iald dX8_isAhead_11 rfl (a8_2 ob_1280) c3 c4 ?_
  refine w_icmp_lt (tgt := 35) dX8_isAhead_12 (by decide) (zw_zg _ _ _) (zw_zg _ _ _) (fun q => ?_) (fun q => ?_)
  · have h := h.1 q
    refine w_iconst dX8_isAhead_35 ?_
    refine w_goto (tgt := 40) dX8_isAhead_36 (by decide) ?_
    exact w_rz rfl dX8_isAhead_40 zq_1 (by decide) h
  · have h := h.2 q
    refine w_aload_n dX8_isAhead_15 rfl ?_
    refine w_gfA (ci := 8) (k := 2) dX8_isAhead_16 f8_7 ob_1280 rfl ?_
    refine w_iload_n dX8_isAhead_19 rfl ?_
    obtain ⟨c5, h⟩ := h
    obtain ⟨c6, h⟩ := h
    refine w_iald dX8_isAhead_20 rfl (a8_2 ob_1280) c5 c6 ?_
    refine w_aload_n dX8_isAhead_21 rfl ?_
    refine w_gfA (ci := 8) (k := 2) dX8_isAhead_22 f8_7 ob_1280 rfl ?_
    refine w_iload_n dX8_isAhead_25 rfl ?_
    obtain ⟨c7, h⟩ := h
    obtain ⟨c8, h⟩ := h
    refine w_iald dX8_isAhead_26 rfl (a8_2 ob_1280) c7 c8 ?_
    refine w_icmp_ne (tgt := 39) dX8_isAhead_27 (by decide) (zw_zg _ _ _) (zw_zg _ _ _) (fun q => ?_) (fun q => ?_)
    · have h := h.2 q
      refine w_iconst dX8_isAhead_39 ?_
      exact w_rz rfl dX8_isAhead_40 zq_0 (by decide) h
    · have h := h.1 q
      refine w_iload_n dX8_isAhead_30 rfl ?_
      refine w_iload_n dX8_isAhead_31 rfl ?_
      refine w_icmp_ge (tgt := 39) dX8_isAhead_32 (by decide) rfl rfl (fun q => ?_) (fun q => ?_)
      · have h := h.2 q
        refine w_iconst dX8_isAhead_39 ?_
        exact w_rz rfl dX8_isAhead_40 zq_0 (by decide) h
      · have h := h.1 q
        refine w_iconst dX8_isAhead_35 ?_
        refine w_goto (tgt := 40) dX8_isAhead_36 (by decide) ?_
        exact w_rz rfl dX8_isAhead_40 zq_1 (by decide) h
theorem e_X8_placeOf {d : Nat} {Q : Int → zM → Prop} {M : zM} (v1 : Int) (h : wp (Ev d) 8 cX8_placeOf (some .int) Q 0 [some (.ref 1280), some (zI v1), none, none] [] M) : Ev (d + 1) mX8_placeOf [.ref 1280, zI v1] M Q := ⟨kX8_placeOf, Nat.le_of_ble_eq_true rfl, h⟩
theorem v_X8_placeOf_0 {E : zE} {Q : Int → zM → Prop} {M : zM} (v1 : Int)  (h : wp E 8 cX8_placeOf (some .int) Q 4 [some (.ref 1280), some (zI v1), some (zI 0), some (zI 0)] [] M) : wp E 8 cX8_placeOf (some .int) Q 0 [some (.ref 1280), some (zI v1), none, none] [] M := by
  refine w_iconst dX8_placeOf_0 ?_
  refine w_istore_n dX8_placeOf_1 (Nat.le_of_ble_eq_true rfl) rfl ?_
  refine w_iconst dX8_placeOf_2 ?_
  refine w_istore_n dX8_placeOf_3 (Nat.le_of_ble_eq_true rfl) rfl ?_
  exact w_fgt (fgk (fgk (fgk (fgk (fgn))))) h
theorem v_X8_placeOf_4 {E : zE} {Q : Int → zM → Prop} {M : zM} (v1 : Int) (v2 : Int) (v3 : Int)  (h : (zw v3 < zg M 1280 1 → (E mX8_isAhead [.ref 1280, zI v3, zI v1] M (fun r1 M2 => (zw r1 = 0 → (wp E 8 cX8_placeOf (some .int) Q 4 [some (.ref 1280), some (zI v1), some (zI v2), some (zI (v3 + 1))] [] M2)) ∧ (¬ zw r1 = 0 → (wp E 8 cX8_placeOf (some .int) Q 4 [some (.ref 1280), some (zI v1), some (zI (v2 + 1)), some (zI (v3 + 1))] [] M2))))) ∧ (¬ zw v3 < zg M 1280 1 → (Q (zw v2) M))) : wp E 8 cX8_placeOf (some .int) Q 4 [some (.ref 1280), some (zI v1), some (zI v2), some (zI v3)] [] M := by
  refine w_iload_n dX8_placeOf_4 rfl ?_
  refine w_aload_n dX8_placeOf_5 rfl ?_
  refine w_gfI (ci := 8) (k := 1) dX8_placeOf_6 f8_111 ob_1280 rfl ?_
  refine w_icmp_ge (tgt := 30) dX8_placeOf_9 (by decide) rfl (zw_zg _ _ _) (fun q => ?_) (fun q => ?_)
  · have h := h.2 q
    refine w_iload_n dX8_placeOf_30 rfl ?_
    exact w_ri rfl dX8_placeOf_31 rfl h
  · have h := h.1 q
    refine w_aload_n dX8_placeOf_12 rfl ?_
    refine w_iload_n dX8_placeOf_13 rfl ?_
    refine w_iload_n dX8_placeOf_14 rfl ?_
    refine w_invVi [_, _] dX8_placeOf_15 l8_168 kX8_isAhead rfl rfl (Nat.le_of_ble_eq_true rfl) (Or.inr rfl) ob_1280 h (fun r1 M2 h => ?_)
    refine w_if_eq (tgt := 24) dX8_placeOf_18 (by decide) rfl (fun q => ?_) (fun q => ?_)
    · have h := h.1 q
      refine w_iinc dX8_placeOf_24 rfl rfl ?_
      refine w_goto (tgt := 4) dX8_placeOf_27 (by decide) ?_
      exact w_fgt (fgk (fgk (fgk (fgk (fgn))))) h
    · have h := h.2 q
      refine w_iinc dX8_placeOf_21 rfl rfl ?_
      refine w_iinc dX8_placeOf_24 rfl rfl ?_
      refine w_goto (tgt := 4) dX8_placeOf_27 (by decide) ?_
      exact w_fgt (fgk (fgk (fgk (fgk (fgn))))) h
theorem e_X8_personAt {d : Nat} {Q : Int → zM → Prop} {M : zM} (v1 : Int) (h : wp (Ev d) 8 cX8_personAt (some .int) Q 0 [some (.ref 1280), some (zI v1), none] [] M) : Ev (d + 1) mX8_personAt [.ref 1280, zI v1] M Q := ⟨kX8_personAt, Nat.le_of_ble_eq_true rfl, h⟩
theorem v_X8_personAt_0 {E : zE} {Q : Int → zM → Prop} {M : zM} (v1 : Int)  (h : wp E 8 cX8_personAt (some .int) Q 2 [some (.ref 1280), some (zI v1), some (zI 0)] [] M) : wp E 8 cX8_personAt (some .int) Q 0 [some (.ref 1280), some (zI v1), none] [] M := by
  refine w_iconst dX8_personAt_0 ?_
  refine w_istore_n dX8_personAt_1 (Nat.le_of_ble_eq_true rfl) rfl ?_
  exact w_fgt (fgk (fgk (fgk (fgn)))) h
theorem v_X8_personAt_2 {E : zE} {Q : Int → zM → Prop} {M : zM} (v1 : Int) (v2 : Int)  (h : (zw v2 < zg M 1280 1 → (E mX8_placeOf [.ref 1280, zI v2] M (fun r1 M2 => (zw r1 = zw v1 → (Q (zw v2) M2)) ∧ (¬ zw r1 = zw v1 → (wp E 8 cX8_personAt (some .int) Q 2 [some (.ref 1280), some (zI v1), some (zI (v2 + 1))] [] M2))))) ∧ (¬ zw v2 < zg M 1280 1 → (Q (-1) M))) : wp E 8 cX8_personAt (some .int) Q 2 [some (.ref 1280), some (zI v1), some (zI v2)] [] M := by
  refine w_iload_n dX8_personAt_2 rfl ?_
  refine w_aload_n dX8_personAt_3 rfl ?_
  refine w_gfI (ci := 8) (k := 1) dX8_personAt_4 f8_111 ob_1280 rfl ?_
  refine w_icmp_ge (tgt := 27) dX8_personAt_7 (by decide) rfl (zw_zg _ _ _) (fun q => ?_) (fun q => ?_)
  · have h := h.2 q
    refine w_iconst dX8_personAt_27 ?_
    exact w_ri rfl dX8_personAt_28 zq_m1 h
  · have h := h.1 q
    refine w_aload_n dX8_personAt_10 rfl ?_
    refine w_iload_n dX8_personAt_11 rfl ?_
    refine w_invVi [_] dX8_personAt_12 l8_171 kX8_placeOf rfl rfl (Nat.le_of_ble_eq_true rfl) (Or.inl rfl) ob_1280 h (fun r1 M2 h => ?_)
    refine w_iload_n dX8_personAt_15 rfl ?_
    refine w_icmp_ne (tgt := 21) dX8_personAt_16 (by decide) rfl rfl (fun q => ?_) (fun q => ?_)
    · have h := h.2 q
      refine w_iinc dX8_personAt_21 rfl rfl ?_
      refine w_goto (tgt := 2) dX8_personAt_24 (by decide) ?_
      exact w_fgt (fgk (fgk (fgk (fgn)))) h
    · have h := h.1 q
      refine w_iload_n dX8_personAt_19 rfl ?_
      exact w_ri rfl dX8_personAt_20 rfl h
theorem e_X8_counts {d : Nat} {Q : Int → zM → Prop} {M : zM} (v1 : Int) (h : wp (Ev d) 8 cX8_counts (some .boolean) Q 0 [some (.ref 1280), some (zI v1)] [] M) : Ev (d + 1) mX8_counts [.ref 1280, zI v1] M Q := ⟨kX8_counts, Nat.le_of_ble_eq_true rfl, h⟩
theorem v_X8_counts_0 {E : zE} {Q : Int → zM → Prop} {M : zM} (v1 : Int)  (h : (0 ≤ zw v1) ∧ ((zw v1 < 16) ∧ ((0 ≤ zw v1) ∧ ((zw v1 < 16) ∧ (E mX8_lives [.ref 1280, zI (zg M 1287 (zw v1).toNat), zI (zg M 1289 (zw v1).toNat)] M (fun r5 M6 => (zw r5 = 0 → (Q 0 M6)) ∧ (¬ zw r5 = 0 → ((0 ≤ zw v1) ∧ ((zw v1 < 16) ∧ ((0 ≤ zw v1) ∧ ((zw v1 < 16) ∧ (E mX8_lives [.ref 1280, zI (zg M6 1288 (zw v1).toNat), zI (zg M6 1289 (zw v1).toNat)] M6 (fun r11 M12 => (zw r11 = 0 → (Q 0 M12)) ∧ (¬ zw r11 = 0 → (Q 1 M12))))))))))))))) : wp E 8 cX8_counts (some .boolean) Q 0 [some (.ref 1280), some (zI v1)] [] M := by
  refine w_aload_n dX8_counts_0 rfl ?_
  refine w_aload_n dX8_counts_1 rfl ?_
  refine w_gfA (ci := 8) (k := 6) dX8_counts_2 f8_19 ob_1280 rfl ?_
  refine w_iload_n dX8_counts_5 rfl ?_
  obtain ⟨c1, h⟩ := h
  obtain ⟨c2, h⟩ := h
  refine w_iald dX8_counts_6 rfl (a8_6 ob_1280) c1 c2 ?_
  refine w_aload_n dX8_counts_7 rfl ?_
  refine w_gfA (ci := 8) (k := 8) dX8_counts_8 f8_25 ob_1280 rfl ?_
  refine w_iload_n dX8_counts_11 rfl ?_
  obtain ⟨c3, h⟩ := h
  obtain ⟨c4, h⟩ := h
  refine w_iald dX8_counts_12 rfl (a8_8 ob_1280) c3 c4 ?_
  refine w_invVi [_, _] dX8_counts_13 l8_138 kX8_lives rfl rfl (Nat.le_of_ble_eq_true rfl) (Or.inr rfl) ob_1280 h (fun r5 M6 h => ?_)
  refine w_if_eq (tgt := 42) dX8_counts_16 (by decide) rfl (fun q => ?_) (fun q => ?_)
  · have h := h.1 q
    refine w_iconst dX8_counts_42 ?_
    exact w_rz rfl dX8_counts_43 zq_0 (by decide) h
  · have h := h.2 q
    refine w_aload_n dX8_counts_19 rfl ?_
    refine w_aload_n dX8_counts_20 rfl ?_
    refine w_gfA (ci := 8) (k := 7) dX8_counts_21 f8_22 ob_1280 rfl ?_
    refine w_iload_n dX8_counts_24 rfl ?_
    obtain ⟨c7, h⟩ := h
    obtain ⟨c8, h⟩ := h
    refine w_iald dX8_counts_25 rfl (a8_7 ob_1280) c7 c8 ?_
    refine w_aload_n dX8_counts_26 rfl ?_
    refine w_gfA (ci := 8) (k := 8) dX8_counts_27 f8_25 ob_1280 rfl ?_
    refine w_iload_n dX8_counts_30 rfl ?_
    obtain ⟨c9, h⟩ := h
    obtain ⟨c10, h⟩ := h
    refine w_iald dX8_counts_31 rfl (a8_8 ob_1280) c9 c10 ?_
    refine w_invVi [_, _] dX8_counts_32 l8_138 kX8_lives rfl rfl (Nat.le_of_ble_eq_true rfl) (Or.inr rfl) ob_1280 h (fun r11 M12 h => ?_)
    refine w_if_eq (tgt := 42) dX8_counts_35 (by decide) rfl (fun q => ?_) (fun q => ?_)
    · have h := h.1 q
      refine w_iconst dX8_counts_42 ?_
      exact w_rz rfl dX8_counts_43 zq_0 (by decide) h
    · have h := h.2 q
      refine w_iconst dX8_counts_38 ?_
      refine w_goto (tgt := 43) dX8_counts_39 (by decide) ?_
      exact w_rz rfl dX8_counts_43 zq_1 (by decide) h
theorem e_X8_bearersOf {d : Nat} {Q : Int → zM → Prop} {M : zM} (v1 : Int) (h : wp (Ev d) 8 cX8_bearersOf (some .int) Q 0 [some (.ref 1280), some (zI v1), none, none] [] M) : Ev (d + 1) mX8_bearersOf [.ref 1280, zI v1] M Q := ⟨kX8_bearersOf, Nat.le_of_ble_eq_true rfl, h⟩
theorem v_X8_bearersOf_0 {E : zE} {Q : Int → zM → Prop} {M : zM} (v1 : Int)  (h : wp E 8 cX8_bearersOf (some .int) Q 4 [some (.ref 1280), some (zI v1), some (zI 0), some (zI 0)] [] M) : wp E 8 cX8_bearersOf (some .int) Q 0 [some (.ref 1280), some (zI v1), none, none] [] M := by
  refine w_iconst dX8_bearersOf_0 ?_
  refine w_istore_n dX8_bearersOf_1 (Nat.le_of_ble_eq_true rfl) rfl ?_
  refine w_iconst dX8_bearersOf_2 ?_
  refine w_istore_n dX8_bearersOf_3 (Nat.le_of_ble_eq_true rfl) rfl ?_
  exact w_fgt (fgk (fgk (fgk (fgk (fgn))))) h
theorem v_X8_bearersOf_4 {E : zE} {Q : Int → zM → Prop} {M : zM} (v1 : Int) (v2 : Int) (v3 : Int)  (h : (zw v3 < zg M 1280 1 → ((0 ≤ zw v3) ∧ ((zw v3 < 12) ∧ ((zg M 1285 (zw v3).toNat = zw v1 → (wp E 8 cX8_bearersOf (some .int) Q 4 [some (.ref 1280), some (zI v1), some (zI (z_or v2 (z_shl 1 v3))), some (zI (v3 + 1))] [] M)) ∧ (¬ zg M 1285 (zw v3).toNat = zw v1 → (wp E 8 cX8_bearersOf (some .int) Q 4 [some (.ref 1280), some (zI v1), some (zI v2), some (zI (v3 + 1))] [] M)))))) ∧ (¬ zw v3 < zg M 1280 1 → (Q (zw v2) M))) : wp E 8 cX8_bearersOf (some .int) Q 4 [some (.ref 1280), some (zI v1), some (zI v2), some (zI v3)] [] M := by
  refine w_iload_n dX8_bearersOf_4 rfl ?_
  refine w_aload_n dX8_bearersOf_5 rfl ?_
  refine w_gfI (ci := 8) (k := 1) dX8_bearersOf_6 f8_111 ob_1280 rfl ?_
  refine w_icmp_ge (tgt := 34) dX8_bearersOf_9 (by decide) rfl (zw_zg _ _ _) (fun q => ?_) (fun q => ?_)
  · have h := h.2 q
    refine w_iload_n dX8_bearersOf_34 rfl ?_
    exact w_ri rfl dX8_bearersOf_35 rfl h
  · have h := h.1 q
    refine w_aload_n dX8_bearersOf_12 rfl ?_
    refine w_gfA (ci := 8) (k := 4) dX8_bearersOf_13 f8_16 ob_1280 rfl ?_
    refine w_iload_n dX8_bearersOf_16 rfl ?_
    obtain ⟨c1, h⟩ := h
    obtain ⟨c2, h⟩ := h
    refine w_iald dX8_bearersOf_17 rfl (a8_4 ob_1280) c1 c2 ?_
    refine w_iload_n dX8_bearersOf_18 rfl ?_
    refine w_icmp_ne (tgt := 28) dX8_bearersOf_19 (by decide) (zw_zg _ _ _) rfl (fun q => ?_) (fun q => ?_)
    · have h := h.2 q
      refine w_iinc dX8_bearersOf_28 rfl rfl ?_
      refine w_goto (tgt := 4) dX8_bearersOf_31 (by decide) ?_
      exact w_fgt (fgk (fgk (fgk (fgk (fgn))))) h
    · have h := h.1 q
      refine w_iload_n dX8_bearersOf_22 rfl ?_
      refine w_iconst dX8_bearersOf_23 ?_
      refine w_iload_n dX8_bearersOf_24 rfl ?_
      refine w_ishl dX8_bearersOf_25 ?_
      refine w_ior dX8_bearersOf_26 ?_
      refine w_istore_n dX8_bearersOf_27 (Nat.le_of_ble_eq_true rfl) rfl ?_
      refine w_iinc dX8_bearersOf_28 rfl rfl ?_
      refine w_goto (tgt := 4) dX8_bearersOf_31 (by decide) ?_
      exact w_fgt (fgk (fgk (fgk (fgk (fgn))))) h
theorem e_X8_of {d : Nat} {Q : Int → zM → Prop} {M : zM} (v1 : Int) (v2 : Int) (h : wp (Ev d) 8 cX8_of (some .int) Q 0 [some (.ref 1280), some (zI v1), some (zI v2)] [] M) : Ev (d + 1) mX8_of [.ref 1280, zI v1, zI v2] M Q := ⟨kX8_of, Nat.le_of_ble_eq_true rfl, h⟩
theorem v_X8_of_0 {E : zE} {Q : Int → zM → Prop} {M : zM} (v1 : Int) (v2 : Int)  (h : E mX8_in [zI v2, zI 0, zI 3] M (fun r1 M2 => (zw r1 = 0 → (E mX8_in [zI v2, zI 10, zI 12] M2 (fun r3 M4 => (zw r3 = 0 → (E mX8_in [zI v2, zI 20, zI 22] M4 (fun r5 M6 => (zw r5 = 0 → (Q (-2000000000) M6)) ∧ (¬ zw r5 = 0 → (E mX8_in [zI v1, zI 0, zI ((zg M6 1280 5) - 1)] M6 (fun r7 M8 => (zw r7 = 0 → (Q (-2000000000) M8)) ∧ (¬ zw r7 = 0 → ((zw v2 = 20 → ((0 ≤ zw v1) ∧ ((zw v1 < 16) ∧ ((0 ≤ zw v1) ∧ ((zw v1 < 16) ∧ (Q (zw ((100 * (zg M8 1287 (zw v1).toNat)) + (zg M8 1288 (zw v1).toNat))) M8)))))) ∧ (¬ zw v2 = 20 → ((zw v2 = 21 → ((0 ≤ zw v1) ∧ ((zw v1 < 16) ∧ (Q (zg M8 1289 (zw v1).toNat) M8)))) ∧ (¬ zw v2 = 21 → (E mX8_counts [.ref 1280, zI v1] M8 (fun r9 M10 => (zw r9 = 0 → (Q 0 M10)) ∧ (¬ zw r9 = 0 → (Q 1 M10))))))))))))))) ∧ (¬ zw r3 = 0 → (E mX8_isName [zI v1] M4 (fun r17 M18 => (zw r17 = 0 → (Q (-2000000000) M18)) ∧ (¬ zw r17 = 0 → ((zw v2 = 10 → ((0 ≤ zw v1) ∧ ((zw v1 < 12) ∧ (Q (zg M18 1291 (zw v1).toNat) M18)))) ∧ (¬ zw v2 = 10 → ((zw v2 = 11 → ((0 ≤ zw v1) ∧ ((zw v1 < 12) ∧ (Q (zg M18 1292 (zw v1).toNat) M18)))) ∧ (¬ zw v2 = 11 → (E mX8_bearersOf [.ref 1280, zI v1] M18 (fun r19 M20 => Q (zw r19) M20))))))))))))) ∧ (¬ zw r1 = 0 → (E mX8_isPerson [.ref 1280, zI v1] M2 (fun r25 M26 => (zw r25 = 0 → (Q (-2000000000) M26)) ∧ (¬ zw r25 = 0 → ((zw v2 = 0 → ((0 ≤ zw v1) ∧ ((zw v1 < 12) ∧ (Q (zg M26 1283 (zw v1).toNat) M26)))) ∧ (¬ zw v2 = 0 → ((zw v2 = 1 → ((0 ≤ zw v1) ∧ ((zw v1 < 12) ∧ (Q (zg M26 1284 (zw v1).toNat) M26)))) ∧ (¬ zw v2 = 1 → ((zw v2 = 2 → ((0 ≤ zw v1) ∧ ((zw v1 < 12) ∧ (Q (zg M26 1285 (zw v1).toNat) M26)))) ∧ (¬ zw v2 = 2 → (E mX8_placeOf [.ref 1280, zI v1] M26 (fun r27 M28 => Q (zw r27) M28)))))))))))))) : wp E 8 cX8_of (some .int) Q 0 [some (.ref 1280), some (zI v1), some (zI v2)] [] M := by
  refine w_iload_n dX8_of_0 rfl ?_
  refine w_iconst dX8_of_1 ?_
  refine w_iconst dX8_of_2 ?_
  refine w_invSi [_, _, _] dX8_of_3 l8_114 kX8_in rfl rfl (Nat.le_of_ble_eq_true rfl) (Or.inr rfl) h (fun r1 M2 h => ?_)
  refine w_if_eq (tgt := 67) dX8_of_6 (by decide) rfl (fun q => ?_) (fun q => ?_)
  · have h := h.1 q
    refine w_iload_n dX8_of_67 rfl ?_
    refine w_bipush dX8_of_68 (by decide) ?_
    refine w_bipush dX8_of_70 (by decide) ?_
    refine w_invSi [_, _, _] dX8_of_72 l8_114 kX8_in rfl rfl (Nat.le_of_ble_eq_true rfl) (Or.inr rfl) h (fun r3 M4 h => ?_)
    refine w_if_eq (tgt := 126) dX8_of_75 (by decide) rfl (fun q => ?_) (fun q => ?_)
    · have h := h.1 q
      refine w_iload_n dX8_of_126 rfl ?_
      refine w_bipush dX8_of_127 (by decide) ?_
      refine w_bipush dX8_of_129 (by decide) ?_
      refine w_invSi [_, _, _] dX8_of_131 l8_114 kX8_in rfl rfl (Nat.le_of_ble_eq_true rfl) (Or.inr rfl) h (fun r5 M6 h => ?_)
      refine w_if_eq (tgt := 151) dX8_of_134 (by decide) rfl (fun q => ?_) (fun q => ?_)
      · have h := h.1 q
        refine w_ldc (n := -2000000000) dX8_of_151 o8_147 ?_
        exact w_ri rfl dX8_of_153 zq_m2000000000 h
      · have h := h.2 q
        refine w_iload_n dX8_of_137 rfl ?_
        refine w_iconst dX8_of_138 ?_
        refine w_aload_n dX8_of_139 rfl ?_
        refine w_gfI (ci := 8) (k := 5) dX8_of_140 f8_141 ob_1280 rfl ?_
        refine w_iconst dX8_of_143 ?_
        refine w_isub dX8_of_144 ?_
        refine w_invSi [_, _, _] dX8_of_145 l8_114 kX8_in rfl rfl (Nat.le_of_ble_eq_true rfl) (Or.inr rfl) h (fun r7 M8 h => ?_)
        refine w_if_ne (tgt := 154) dX8_of_148 (by decide) rfl (fun q => ?_) (fun q => ?_)
        · have h := h.2 q
          refine w_iload_n dX8_of_154 rfl ?_
          refine w_bipush dX8_of_155 (by decide) ?_
          refine w_icmp_ne (tgt := 179) dX8_of_157 (by decide) rfl zq_20 (fun q => ?_) (fun q => ?_)
          · have h := h.2 q
            refine w_iload_n dX8_of_179 rfl ?_
            refine w_bipush dX8_of_180 (by decide) ?_
            refine w_icmp_ne (tgt := 194) dX8_of_182 (by decide) rfl zq_21 (fun q => ?_) (fun q => ?_)
            · have h := h.2 q
              refine w_aload_n dX8_of_194 rfl ?_
              refine w_iload_n dX8_of_195 rfl ?_
              refine w_invVi [_] dX8_of_196 l8_178 kX8_counts rfl rfl (Nat.le_of_ble_eq_true rfl) (Or.inr rfl) ob_1280 h (fun r9 M10 h => ?_)
              refine w_if_eq (tgt := 206) dX8_of_199 (by decide) rfl (fun q => ?_) (fun q => ?_)
              · have h := h.1 q
                refine w_iconst dX8_of_206 ?_
                exact w_ri rfl dX8_of_207 zq_0 h
              · have h := h.2 q
                refine w_iconst dX8_of_202 ?_
                refine w_goto (tgt := 207) dX8_of_203 (by decide) ?_
                exact w_ri rfl dX8_of_207 zq_1 h
            · have h := h.1 q
              refine w_aload_n dX8_of_185 rfl ?_
              refine w_gfA (ci := 8) (k := 8) dX8_of_186 f8_25 ob_1280 rfl ?_
              refine w_iload_n dX8_of_189 rfl ?_
              obtain ⟨c11, h⟩ := h
              obtain ⟨c12, h⟩ := h
              refine w_iald dX8_of_190 rfl (a8_8 ob_1280) c11 c12 ?_
              refine w_goto (tgt := 207) dX8_of_191 (by decide) ?_
              exact w_ri rfl dX8_of_207 (zw_zg _ _ _) h
          · have h := h.1 q
            refine w_bipush dX8_of_160 (by decide) ?_
            refine w_aload_n dX8_of_162 rfl ?_
            refine w_gfA (ci := 8) (k := 6) dX8_of_163 f8_19 ob_1280 rfl ?_
            refine w_iload_n dX8_of_166 rfl ?_
            obtain ⟨c13, h⟩ := h
            obtain ⟨c14, h⟩ := h
            refine w_iald dX8_of_167 rfl (a8_6 ob_1280) c13 c14 ?_
            refine w_imul dX8_of_168 ?_
            refine w_aload_n dX8_of_169 rfl ?_
            refine w_gfA (ci := 8) (k := 7) dX8_of_170 f8_22 ob_1280 rfl ?_
            refine w_iload_n dX8_of_173 rfl ?_
            obtain ⟨c15, h⟩ := h
            obtain ⟨c16, h⟩ := h
            refine w_iald dX8_of_174 rfl (a8_7 ob_1280) c15 c16 ?_
            refine w_iadd dX8_of_175 ?_
            refine w_goto (tgt := 207) dX8_of_176 (by decide) ?_
            exact w_ri rfl dX8_of_207 rfl h
        · have h := h.1 q
          refine w_ldc (n := -2000000000) dX8_of_151 o8_147 ?_
          exact w_ri rfl dX8_of_153 zq_m2000000000 h
    · have h := h.2 q
      refine w_iload_n dX8_of_78 rfl ?_
      refine w_invSi [_] dX8_of_79 l8_148 kX8_isName rfl rfl (Nat.le_of_ble_eq_true rfl) (Or.inr rfl) h (fun r17 M18 h => ?_)
      refine w_if_ne (tgt := 90) dX8_of_82 (by decide) rfl (fun q => ?_) (fun q => ?_)
      · have h := h.2 q
        refine w_iload_n dX8_of_90 rfl ?_
        refine w_bipush dX8_of_91 (by decide) ?_
        refine w_icmp_ne (tgt := 105) dX8_of_93 (by decide) rfl zq_10 (fun q => ?_) (fun q => ?_)
        · have h := h.2 q
          refine w_iload_n dX8_of_105 rfl ?_
          refine w_bipush dX8_of_106 (by decide) ?_
          refine w_icmp_ne (tgt := 120) dX8_of_108 (by decide) rfl zq_11 (fun q => ?_) (fun q => ?_)
          · have h := h.2 q
            refine w_aload_n dX8_of_120 rfl ?_
            refine w_iload_n dX8_of_121 rfl ?_
            refine w_invVi [_] dX8_of_122 l8_175 kX8_bearersOf rfl rfl (Nat.le_of_ble_eq_true rfl) (Or.inl rfl) ob_1280 h (fun r19 M20 h => ?_)
            exact w_ri rfl dX8_of_125 rfl h
          · have h := h.1 q
            refine w_aload_n dX8_of_111 rfl ?_
            refine w_gfA (ci := 8) (k := 11) dX8_of_112 f8_31 ob_1280 rfl ?_
            refine w_iload_n dX8_of_115 rfl ?_
            obtain ⟨c21, h⟩ := h
            obtain ⟨c22, h⟩ := h
            refine w_iald dX8_of_116 rfl (a8_11 ob_1280) c21 c22 ?_
            refine w_goto (tgt := 125) dX8_of_117 (by decide) ?_
            exact w_ri rfl dX8_of_125 (zw_zg _ _ _) h
        · have h := h.1 q
          refine w_aload_n dX8_of_96 rfl ?_
          refine w_gfA (ci := 8) (k := 10) dX8_of_97 f8_28 ob_1280 rfl ?_
          refine w_iload_n dX8_of_100 rfl ?_
          obtain ⟨c23, h⟩ := h
          obtain ⟨c24, h⟩ := h
          refine w_iald dX8_of_101 rfl (a8_10 ob_1280) c23 c24 ?_
          refine w_goto (tgt := 125) dX8_of_102 (by decide) ?_
          exact w_ri rfl dX8_of_125 (zw_zg _ _ _) h
      · have h := h.1 q
        refine w_ldc (n := -2000000000) dX8_of_85 o8_147 ?_
        refine w_goto (tgt := 125) dX8_of_87 (by decide) ?_
        exact w_ri rfl dX8_of_125 zq_m2000000000 h
  · have h := h.2 q
    refine w_aload_n dX8_of_9 rfl ?_
    refine w_iload_n dX8_of_10 rfl ?_
    refine w_invVi [_] dX8_of_11 l8_135 kX8_isPerson rfl rfl (Nat.le_of_ble_eq_true rfl) (Or.inr rfl) ob_1280 h (fun r25 M26 h => ?_)
    refine w_if_ne (tgt := 20) dX8_of_14 (by decide) rfl (fun q => ?_) (fun q => ?_)
    · have h := h.2 q
      refine w_iload_n dX8_of_20 rfl ?_
      refine w_if_ne (tgt := 33) dX8_of_21 (by decide) rfl (fun q => ?_) (fun q => ?_)
      · have h := h.2 q
        refine w_iload_n dX8_of_33 rfl ?_
        refine w_iconst dX8_of_34 ?_
        refine w_icmp_ne (tgt := 47) dX8_of_35 (by decide) rfl zq_1 (fun q => ?_) (fun q => ?_)
        · have h := h.2 q
          refine w_iload_n dX8_of_47 rfl ?_
          refine w_iconst dX8_of_48 ?_
          refine w_icmp_ne (tgt := 61) dX8_of_49 (by decide) rfl zq_2 (fun q => ?_) (fun q => ?_)
          · have h := h.2 q
            refine w_aload_n dX8_of_61 rfl ?_
            refine w_iload_n dX8_of_62 rfl ?_
            refine w_invVi [_] dX8_of_63 l8_171 kX8_placeOf rfl rfl (Nat.le_of_ble_eq_true rfl) (Or.inl rfl) ob_1280 h (fun r27 M28 h => ?_)
            exact w_ri rfl dX8_of_66 rfl h
          · have h := h.1 q
            refine w_aload_n dX8_of_52 rfl ?_
            refine w_gfA (ci := 8) (k := 4) dX8_of_53 f8_16 ob_1280 rfl ?_
            refine w_iload_n dX8_of_56 rfl ?_
            obtain ⟨c29, h⟩ := h
            obtain ⟨c30, h⟩ := h
            refine w_iald dX8_of_57 rfl (a8_4 ob_1280) c29 c30 ?_
            refine w_goto (tgt := 66) dX8_of_58 (by decide) ?_
            exact w_ri rfl dX8_of_66 (zw_zg _ _ _) h
        · have h := h.1 q
          refine w_aload_n dX8_of_38 rfl ?_
          refine w_gfA (ci := 8) (k := 3) dX8_of_39 f8_13 ob_1280 rfl ?_
          refine w_iload_n dX8_of_42 rfl ?_
          obtain ⟨c31, h⟩ := h
          obtain ⟨c32, h⟩ := h
          refine w_iald dX8_of_43 rfl (a8_3 ob_1280) c31 c32 ?_
          refine w_goto (tgt := 66) dX8_of_44 (by decide) ?_
          exact w_ri rfl dX8_of_66 (zw_zg _ _ _) h
      · have h := h.1 q
        refine w_aload_n dX8_of_24 rfl ?_
        refine w_gfA (ci := 8) (k := 2) dX8_of_25 f8_7 ob_1280 rfl ?_
        refine w_iload_n dX8_of_28 rfl ?_
        obtain ⟨c33, h⟩ := h
        obtain ⟨c34, h⟩ := h
        refine w_iald dX8_of_29 rfl (a8_2 ob_1280) c33 c34 ?_
        refine w_goto (tgt := 66) dX8_of_30 (by decide) ?_
        exact w_ri rfl dX8_of_66 (zw_zg _ _ _) h
    · have h := h.1 q
      refine w_ldc (n := -2000000000) dX8_of_17 o8_147 ?_
      exact w_ri rfl dX8_of_19 zq_m2000000000 h
theorem e_X8_feed {d : Nat} {Q : Int → zM → Prop} {M : zM} (v1 : Int) (h : wp (Ev d) 8 cX8_feed (some .int) Q 0 [some (.ref 1280), some (zI v1)] [] M) : Ev (d + 1) mX8_feed [.ref 1280, zI v1] M Q := ⟨kX8_feed, Nat.le_of_ble_eq_true rfl, h⟩
theorem v_X8_feed_0 {E : zE} {Q : Int → zM → Prop} {M : zM} (v1 : Int)  (h : E mX8_in [zI v1, zI 0, zI 255] M (fun r1 M2 => (zw r1 = 0 → (Q (-1) M2)) ∧ (¬ zw r1 = 0 → ((zg M2 1280 19 = 120 → (Q (-3) M2)) ∧ (¬ zg M2 1280 19 = 120 → ((0 ≤ zg M2 1280 19) ∧ ((zg M2 1280 19 < 120) ∧ (∀ M5 : zM, M5 = zs M2 1299 (zg M2 1280 19).toNat (z_b (z_b v1)) → (∀ M6 : zM, M6 = zs M5 1280 19 ((zg M5 1280 19) + 1) → (Q (zg M6 1280 19) M6)))))))))) : wp E 8 cX8_feed (some .int) Q 0 [some (.ref 1280), some (zI v1)] [] M := by
  refine w_iload_n dX8_feed_0 rfl ?_
  refine w_iconst dX8_feed_1 ?_
  refine w_sipush dX8_feed_2 (by decide) ?_
  refine w_invSi [_, _, _] dX8_feed_5 l8_114 kX8_in rfl rfl (Nat.le_of_ble_eq_true rfl) (Or.inr rfl) h (fun r1 M2 h => ?_)
  refine w_if_ne (tgt := 13) dX8_feed_8 (by decide) rfl (fun q => ?_) (fun q => ?_)
  · have h := h.2 q
    refine w_aload_n dX8_feed_13 rfl ?_
    refine w_gfI (ci := 8) (k := 19) dX8_feed_14 f8_181 ob_1280 rfl ?_
    refine w_bipush dX8_feed_17 (by decide) ?_
    refine w_icmp_ne (tgt := 25) dX8_feed_19 (by decide) (zw_zg _ _ _) zq_120 (fun q => ?_) (fun q => ?_)
    · have h := h.2 q
      refine w_aload_n dX8_feed_25 rfl ?_
      refine w_gfA (ci := 8) (k := 18) dX8_feed_26 f8_46 ob_1280 rfl ?_
      refine w_aload_n dX8_feed_29 rfl ?_
      refine w_gfI (ci := 8) (k := 19) dX8_feed_30 f8_181 ob_1280 rfl ?_
      refine w_iload_n dX8_feed_33 rfl ?_
      refine w_i2b dX8_feed_34 ?_
      obtain ⟨c3, h⟩ := h
      obtain ⟨c4, h⟩ := h
      have h := h _ rfl
      refine w_bast dX8_feed_35 (zw_zg _ _ _) (a8_18 ob_1280) c3 c4 ?_
      refine w_aload_n dX8_feed_36 rfl ?_
      refine w_dup dX8_feed_37 rfl ?_
      refine w_gfI (ci := 8) (k := 19) dX8_feed_38 f8_181 ob_1280 rfl ?_
      refine w_iconst dX8_feed_41 ?_
      refine w_iadd dX8_feed_42 ?_
      have h := h _ rfl
      refine w_pfI (ci := 8) (k := 19) dX8_feed_43 f8_181 ob_1280 rfl rfl rfl ?_
      refine w_aload_n dX8_feed_46 rfl ?_
      refine w_gfI (ci := 8) (k := 19) dX8_feed_47 f8_181 ob_1280 rfl ?_
      exact w_ri rfl dX8_feed_50 (zw_zg _ _ _) h
    · have h := h.1 q
      refine w_bipush dX8_feed_22 (by decide) ?_
      exact w_ri rfl dX8_feed_24 zq_m3 h
  · have h := h.1 q
    refine w_iconst dX8_feed_11 ?_
    exact w_ri rfl dX8_feed_12 zq_m1 h
theorem e_X8_look {d : Nat} {Q : Int → zM → Prop} {M : zM}  (h : wp (Ev d) 8 cX8_look (some .int) Q 0 [some (.ref 1280)] [] M) : Ev (d + 1) mX8_look [.ref 1280] M Q := ⟨kX8_look, Nat.le_of_ble_eq_true rfl, h⟩
theorem v_X8_look_0 {E : zE} {Q : Int → zM → Prop} {M : zM}   (h : (zg M 1280 20 < zg M 1280 19 → ((0 ≤ zg M 1280 20) ∧ ((zg M 1280 20 < 120) ∧ (Q (zg M 1299 (zg M 1280 20).toNat) M)))) ∧ (¬ zg M 1280 20 < zg M 1280 19 → (Q (-1) M))) : wp E 8 cX8_look (some .int) Q 0 [some (.ref 1280)] [] M := by
  refine w_aload_n dX8_look_0 rfl ?_
  refine w_gfI (ci := 8) (k := 20) dX8_look_1 f8_184 ob_1280 rfl ?_
  refine w_aload_n dX8_look_4 rfl ?_
  refine w_gfI (ci := 8) (k := 19) dX8_look_5 f8_181 ob_1280 rfl ?_
  refine w_icmp_ge (tgt := 23) dX8_look_8 (by decide) (zw_zg _ _ _) (zw_zg _ _ _) (fun q => ?_) (fun q => ?_)
  · have h := h.2 q
    refine w_iconst dX8_look_23 ?_
    exact w_ri rfl dX8_look_24 zq_m1 h
  · have h := h.1 q
    refine w_aload_n dX8_look_11 rfl ?_
    refine w_gfA (ci := 8) (k := 18) dX8_look_12 f8_46 ob_1280 rfl ?_
    refine w_aload_n dX8_look_15 rfl ?_
    refine w_gfI (ci := 8) (k := 20) dX8_look_16 f8_184 ob_1280 rfl ?_
    obtain ⟨c1, h⟩ := h
    obtain ⟨c2, h⟩ := h
    refine w_bald dX8_look_19 (zw_zg _ _ _) (a8_18 ob_1280) c1 c2 ?_
    refine w_goto (tgt := 24) dX8_look_20 (by decide) ?_
    exact w_ri rfl dX8_look_24 (zw_zg _ _ _) h
theorem e_X8_faulty {d : Nat} {Q : Int → zM → Prop} {M : zM}  (h : wp (Ev d) 8 cX8_faulty (none) Q 0 [some (.ref 1280)] [] M) : Ev (d + 1) mX8_faulty [.ref 1280] M Q := ⟨kX8_faulty, Nat.le_of_ble_eq_true rfl, h⟩
theorem v_X8_faulty_0 {E : zE} {Q : Int → zM → Prop} {M : zM}   (h : (zg M 1280 21 < 0 → (∀ M1 : zM, M1 = zs M 1280 21 (zg M 1280 20) → (Q 0 M1))) ∧ (¬ zg M 1280 21 < 0 → (Q 0 M))) : wp E 8 cX8_faulty (none) Q 0 [some (.ref 1280)] [] M := by
  refine w_aload_n dX8_faulty_0 rfl ?_
  refine w_gfI (ci := 8) (k := 21) dX8_faulty_1 f8_187 ob_1280 rfl ?_
  refine w_if_ge (tgt := 15) dX8_faulty_4 (by decide) (zw_zg _ _ _) (fun q => ?_) (fun q => ?_)
  · have h := h.2 q
    exact w_rv rfl dX8_faulty_15 h
  · have h := h.1 q
    refine w_aload_n dX8_faulty_7 rfl ?_
    refine w_aload_n dX8_faulty_8 rfl ?_
    refine w_gfI (ci := 8) (k := 20) dX8_faulty_9 f8_184 ob_1280 rfl ?_
    have h := h _ rfl
    refine w_pfI (ci := 8) (k := 21) dX8_faulty_12 f8_187 ob_1280 rfl rfl rfl ?_
    exact w_rv rfl dX8_faulty_15 h
theorem e_X8_addStep {d : Nat} {Q : Int → zM → Prop} {M : zM} (v1 : Int) (v2 : Int) (h : wp (Ev d) 8 cX8_addStep (none) Q 0 [some (.ref 1280), some (zI v1), some (zI v2)] [] M) : Ev (d + 1) mX8_addStep [.ref 1280, zI v1, zI v2] M Q := ⟨kX8_addStep, Nat.le_of_ble_eq_true rfl, h⟩
theorem v_X8_addStep_0 {E : zE} {Q : Int → zM → Prop} {M : zM} (v1 : Int) (v2 : Int)  (h : (0 ≤ zw (130 + (zg M 1280 23))) ∧ ((zw (130 + (zg M 1280 23)) < 260) ∧ (∀ M3 : zM, M3 = zs M 1305 (zw (130 + (zg M 1280 23))).toNat (z_b (z_b v1)) → ((0 ≤ zw (130 + (zg M3 1280 23))) ∧ ((zw (130 + (zg M3 1280 23)) < 260) ∧ (∀ M6 : zM, M6 = zs M3 1306 (zw (130 + (zg M3 1280 23))).toNat v2 → (∀ M7 : zM, M7 = zs M6 1280 23 ((zg M6 1280 23) + 1) → (Q 0 M7)))))))) : wp E 8 cX8_addStep (none) Q 0 [some (.ref 1280), some (zI v1), some (zI v2)] [] M := by
  refine w_aload_n dX8_addStep_0 rfl ?_
  refine w_gfA (ci := 8) (k := 24) dX8_addStep_1 f8_50 ob_1280 rfl ?_
  refine w_sipush dX8_addStep_4 (by decide) ?_
  refine w_aload_n dX8_addStep_7 rfl ?_
  refine w_gfI (ci := 8) (k := 23) dX8_addStep_8 f8_190 ob_1280 rfl ?_
  refine w_iadd dX8_addStep_11 ?_
  refine w_iload_n dX8_addStep_12 rfl ?_
  refine w_i2b dX8_addStep_13 ?_
  obtain ⟨c1, h⟩ := h
  obtain ⟨c2, h⟩ := h
  have h := h _ rfl
  refine w_bast dX8_addStep_14 rfl (a8_24 ob_1280) c1 c2 ?_
  refine w_aload_n dX8_addStep_15 rfl ?_
  refine w_gfA (ci := 8) (k := 25) dX8_addStep_16 f8_53 ob_1280 rfl ?_
  refine w_sipush dX8_addStep_19 (by decide) ?_
  refine w_aload_n dX8_addStep_22 rfl ?_
  refine w_gfI (ci := 8) (k := 23) dX8_addStep_23 f8_190 ob_1280 rfl ?_
  refine w_iadd dX8_addStep_26 ?_
  refine w_iload_n dX8_addStep_27 rfl ?_
  obtain ⟨c4, h⟩ := h
  obtain ⟨c5, h⟩ := h
  have h := h _ rfl
  refine w_iast dX8_addStep_28 rfl (a8_25 ob_1280) c4 c5 ?_
  refine w_aload_n dX8_addStep_29 rfl ?_
  refine w_dup dX8_addStep_30 rfl ?_
  refine w_gfI (ci := 8) (k := 23) dX8_addStep_31 f8_190 ob_1280 rfl ?_
  refine w_iconst dX8_addStep_34 ?_
  refine w_iadd dX8_addStep_35 ?_
  have h := h _ rfl
  refine w_pfI (ci := 8) (k := 23) dX8_addStep_36 f8_190 ob_1280 rfl rfl rfl ?_
  exact w_rv rfl dX8_addStep_39 h
theorem e_X8_nameOf {d : Nat} {Q : Int → zM → Prop} {M : zM} (v0 : Int) (h : wp (Ev d) 8 cX8_nameOf (some .int) Q 0 [some (zI v0)] [] M) : Ev (d + 1) mX8_nameOf [zI v0] M Q := ⟨kX8_nameOf, Nat.le_of_ble_eq_true rfl, h⟩
theorem v_X8_nameOf_0 {E : zE} {Q : Int → zM → Prop} {M : zM} (v0 : Int)  (h : (zw v0 = 97 → (Q 0 M)) ∧ (zw v0 = 100 → (Q 1 M)) ∧ (zw v0 = 102 → (Q 2 M)) ∧ (zw v0 = 105 → (Q 4 M)) ∧ (zw v0 = 110 → (Q 5 M)) ∧ (zw v0 = 119 → (Q 3 M)) ∧ (¬ zw v0 = 97 → ¬ zw v0 = 100 → ¬ zw v0 = 102 → ¬ zw v0 = 105 → ¬ zw v0 = 110 → ¬ zw v0 = 119 → (Q (-1) M))) : wp E 8 cX8_nameOf (some .int) Q 0 [some (zI v0)] [] M := by
  refine w_iload_n dX8_nameOf_0 rfl ?_
  by_cases q0 : zw v0 = 97
  · refine w_lsw (tgt := 60) dX8_nameOf_1 (by decide) (by rw [q0]; decide) ?_
    have h := h.1 q0
    refine w_iconst dX8_nameOf_60 ?_
    exact w_ri rfl dX8_nameOf_61 zq_0 h
  · skip
    by_cases q1 : zw v0 = 100
    · refine w_lsw (tgt := 62) dX8_nameOf_1 (by decide) (by rw [q1]; decide) ?_
      have h := h.2.1 q1
      refine w_iconst dX8_nameOf_62 ?_
      exact w_ri rfl dX8_nameOf_63 zq_1 h
    · skip
      by_cases q2 : zw v0 = 102
      · refine w_lsw (tgt := 64) dX8_nameOf_1 (by decide) (by rw [q2]; decide) ?_
        have h := h.2.2.1 q2
        refine w_iconst dX8_nameOf_64 ?_
        exact w_ri rfl dX8_nameOf_65 zq_2 h
      · skip
        by_cases q3 : zw v0 = 105
        · refine w_lsw (tgt := 68) dX8_nameOf_1 (by decide) (by rw [q3]; decide) ?_
          have h := h.2.2.2.1 q3
          refine w_iconst dX8_nameOf_68 ?_
          exact w_ri rfl dX8_nameOf_69 zq_4 h
        · skip
          by_cases q4 : zw v0 = 110
          · refine w_lsw (tgt := 70) dX8_nameOf_1 (by decide) (by rw [q4]; decide) ?_
            have h := h.2.2.2.2.1 q4
            refine w_iconst dX8_nameOf_70 ?_
            exact w_ri rfl dX8_nameOf_71 zq_5 h
          · skip
            by_cases q5 : zw v0 = 119
            · refine w_lsw (tgt := 66) dX8_nameOf_1 (by decide) (by rw [q5]; decide) ?_
              have h := h.2.2.2.2.2.1 q5
              refine w_iconst dX8_nameOf_66 ?_
              exact w_ri rfl dX8_nameOf_67 zq_3 h
            · skip
              have hz : (1 : Int) + Op.lookupswitch.offset [(97, 59), (100, 61), (102, 63), (105, 67), (110, 69), (119, 65)] (71) (zw v0) = (72 : Nat) := by
                rw [Op.lookupswitch.offset_cons, if_neg (fun z => q0 z.symm), Op.lookupswitch.offset_cons, if_neg (fun z => q1 z.symm), Op.lookupswitch.offset_cons, if_neg (fun z => q2 z.symm), Op.lookupswitch.offset_cons, if_neg (fun z => q3 z.symm), Op.lookupswitch.offset_cons, if_neg (fun z => q4 z.symm), Op.lookupswitch.offset_cons, if_neg (fun z => q5 z.symm), Op.lookupswitch.offset_nil]; rfl
              refine w_lsw (tgt := 72) dX8_nameOf_1 (by decide) hz ?_
              have h := h.2.2.2.2.2.2 q0 q1 q2 q3 q4 q5
              refine w_iconst dX8_nameOf_72 ?_
              exact w_ri rfl dX8_nameOf_73 zq_m1 h
theorem e_X8_opens {d : Nat} {Q : Int → zM → Prop} {M : zM}  (h : wp (Ev d) 8 cX8_opens (some .boolean) Q 0 [some (.ref 1280)] [] M) : Ev (d + 1) mX8_opens [.ref 1280] M Q := ⟨kX8_opens, Nat.le_of_ble_eq_true rfl, h⟩
theorem v_X8_opens_0 {E : zE} {Q : Int → zM → Prop} {M : zM}   (h : (zg M 1280 22 = 6 → (E mX8_faulty [.ref 1280] M (fun r3 M4 => Q 0 M4))) ∧ (¬ zg M 1280 22 = 6 → (∀ M1 : zM, M1 = zs M 1280 22 ((zg M 1280 22) + 1) → (∀ M2 : zM, M2 = zs M1 1280 20 ((zg M1 1280 20) + 1) → (Q 1 M2))))) : wp E 8 cX8_opens (some .boolean) Q 0 [some (.ref 1280)] [] M := by
  refine w_aload_n dX8_opens_0 rfl ?_
  refine w_gfI (ci := 8) (k := 22) dX8_opens_1 f8_193 ob_1280 rfl ?_
  refine w_bipush dX8_opens_4 (by decide) ?_
  refine w_icmp_ne (tgt := 15) dX8_opens_6 (by decide) (zw_zg _ _ _) zq_6 (fun q => ?_) (fun q => ?_)
  · have h := h.2 q
    refine w_aload_n dX8_opens_15 rfl ?_
    refine w_dup dX8_opens_16 rfl ?_
    refine w_gfI (ci := 8) (k := 22) dX8_opens_17 f8_193 ob_1280 rfl ?_
    refine w_iconst dX8_opens_20 ?_
    refine w_iadd dX8_opens_21 ?_
    have h := h _ rfl
    refine w_pfI (ci := 8) (k := 22) dX8_opens_22 f8_193 ob_1280 rfl rfl rfl ?_
    refine w_aload_n dX8_opens_25 rfl ?_
    refine w_dup dX8_opens_26 rfl ?_
    refine w_gfI (ci := 8) (k := 20) dX8_opens_27 f8_184 ob_1280 rfl ?_
    refine w_iconst dX8_opens_30 ?_
    refine w_iadd dX8_opens_31 ?_
    have h := h _ rfl
    refine w_pfI (ci := 8) (k := 20) dX8_opens_32 f8_184 ob_1280 rfl rfl rfl ?_
    refine w_iconst dX8_opens_35 ?_
    exact w_rz rfl dX8_opens_36 zq_1 (by decide) h
  · have h := h.1 q
    refine w_aload_n dX8_opens_9 rfl ?_
    refine w_invVv [] dX8_opens_10 l8_196 kX8_faulty rfl rfl (Nat.le_of_ble_eq_true rfl) rfl ob_1280 h (fun r3 M4 h => ?_)
    refine w_iconst dX8_opens_13 ?_
    exact w_rz rfl dX8_opens_14 zq_0 (by decide) h
theorem e_X8_figure {d : Nat} {Q : Int → zM → Prop} {M : zM}  (h : wp (Ev d) 8 cX8_figure (none) Q 0 [some (.ref 1280), none, none] [] M) : Ev (d + 1) mX8_figure [.ref 1280] M Q := ⟨kX8_figure, Nat.le_of_ble_eq_true rfl, h⟩
theorem v_X8_figure_0 {E : zE} {Q : Int → zM → Prop} {M : zM}   (h : wp E 8 cX8_figure (none) Q 4 [some (.ref 1280), some (zI 0), some (zI 0)] [] M) : wp E 8 cX8_figure (none) Q 0 [some (.ref 1280), none, none] [] M := by
  refine w_iconst dX8_figure_0 ?_
  refine w_istore_n dX8_figure_1 (Nat.le_of_ble_eq_true rfl) rfl ?_
  refine w_iconst dX8_figure_2 ?_
  refine w_istore_n dX8_figure_3 (Nat.le_of_ble_eq_true rfl) rfl ?_
  exact w_fgt (fgk (fgk (fgk (fgn)))) h
theorem v_X8_figure_4 {E : zE} {Q : Int → zM → Prop} {M : zM} (v1 : Int) (v2 : Int)  (h : (zw v2 < 4 → (E mX8_look [.ref 1280] M (fun r1 M2 => E mX8_in [zI r1, zI 48, zI 57] M2 (fun r3 M4 => (zw r3 = 0 → (wp E 8 cX8_figure (none) Q 52 [some (.ref 1280), some (zI v1), some (zI v2)] [] M4)) ∧ (¬ zw r3 = 0 → (E mX8_look [.ref 1280] M4 (fun r5 M6 => ∀ M7 : zM, M7 = zs M6 1280 20 ((zg M6 1280 20) + 1) → (wp E 8 cX8_figure (none) Q 4 [some (.ref 1280), some (zI (((10 * v1) + r5) - 48)), some (zI (v2 + 1))] [] M7)))))))) ∧ (¬ zw v2 < 4 → (wp E 8 cX8_figure (none) Q 52 [some (.ref 1280), some (zI v1), some (zI v2)] [] M))) : wp E 8 cX8_figure (none) Q 4 [some (.ref 1280), some (zI v1), some (zI v2)] [] M := by
  refine w_iload_n dX8_figure_4 rfl ?_
  refine w_iconst dX8_figure_5 ?_
  refine w_icmp_ge (tgt := 52) dX8_figure_6 (by decide) rfl zq_4 (fun q => ?_) (fun q => ?_)
  · have h := h.2 q
    exact w_fgt (fgk (fgk (fgk (fgn)))) h
  · have h := h.1 q
    refine w_aload_n dX8_figure_9 rfl ?_
    refine w_invVi [] dX8_figure_10 l8_199 kX8_look rfl rfl (Nat.le_of_ble_eq_true rfl) (Or.inl rfl) ob_1280 h (fun r1 M2 h => ?_)
    refine w_bipush dX8_figure_13 (by decide) ?_
    refine w_bipush dX8_figure_15 (by decide) ?_
    refine w_invSi [_, _, _] dX8_figure_17 l8_114 kX8_in rfl rfl (Nat.le_of_ble_eq_true rfl) (Or.inr rfl) h (fun r3 M4 h => ?_)
    refine w_if_eq (tgt := 52) dX8_figure_20 (by decide) rfl (fun q => ?_) (fun q => ?_)
    · have h := h.1 q
      exact w_fgt (fgk (fgk (fgk (fgn)))) h
    · have h := h.2 q
      refine w_bipush dX8_figure_23 (by decide) ?_
      refine w_iload_n dX8_figure_25 rfl ?_
      refine w_imul dX8_figure_26 ?_
      refine w_aload_n dX8_figure_27 rfl ?_
      refine w_invVi [] dX8_figure_28 l8_199 kX8_look rfl rfl (Nat.le_of_ble_eq_true rfl) (Or.inl rfl) ob_1280 h (fun r5 M6 h => ?_)
      refine w_iadd dX8_figure_31 ?_
      refine w_bipush dX8_figure_32 (by decide) ?_
      refine w_isub dX8_figure_34 ?_
      refine w_istore_n dX8_figure_35 (Nat.le_of_ble_eq_true rfl) rfl ?_
      refine w_iinc dX8_figure_36 rfl rfl ?_
      refine w_aload_n dX8_figure_39 rfl ?_
      refine w_dup dX8_figure_40 rfl ?_
      refine w_gfI (ci := 8) (k := 20) dX8_figure_41 f8_184 ob_1280 rfl ?_
      refine w_iconst dX8_figure_44 ?_
      refine w_iadd dX8_figure_45 ?_
      have h := h _ rfl
      refine w_pfI (ci := 8) (k := 20) dX8_figure_46 f8_184 ob_1280 rfl rfl rfl ?_
      refine w_goto (tgt := 4) dX8_figure_49 (by decide) ?_
      exact w_fgt (fgk (fgk (fgk (fgn)))) h
theorem v_X8_figure_52 {E : zE} {Q : Int → zM → Prop} {M : zM} (v1 : Int) (v2 : Int)  (h : (zw v2 = 0 → (wp E 8 cX8_figure (none) Q 70 [some (.ref 1280), some (zI v1), none] [] M)) ∧ (¬ zw v2 = 0 → (E mX8_look [.ref 1280] M (fun r1 M2 => E mX8_in [zI r1, zI 48, zI 57] M2 (fun r3 M4 => (zw r3 = 0 → (wp E 8 cX8_figure (none) Q 74 [some (.ref 1280), some (zI v1), none] [] M4)) ∧ (¬ zw r3 = 0 → (wp E 8 cX8_figure (none) Q 70 [some (.ref 1280), some (zI v1), none] [] M4))))))) : wp E 8 cX8_figure (none) Q 52 [some (.ref 1280), some (zI v1), some (zI v2)] [] M := by
  refine w_iload_n dX8_figure_52 rfl ?_
  refine w_if_eq (tgt := 70) dX8_figure_53 (by decide) rfl (fun q => ?_) (fun q => ?_)
  · have h := h.1 q
    exact w_fgt (fgk (fgk (fgd (fgn)))) h
  · have h := h.2 q
    refine w_aload_n dX8_figure_56 rfl ?_
    refine w_invVi [] dX8_figure_57 l8_199 kX8_look rfl rfl (Nat.le_of_ble_eq_true rfl) (Or.inl rfl) ob_1280 h (fun r1 M2 h => ?_)
    refine w_bipush dX8_figure_60 (by decide) ?_
    refine w_bipush dX8_figure_62 (by decide) ?_
    refine w_invSi [_, _, _] dX8_figure_64 l8_114 kX8_in rfl rfl (Nat.le_of_ble_eq_true rfl) (Or.inr rfl) h (fun r3 M4 h => ?_)
    refine w_if_eq (tgt := 74) dX8_figure_67 (by decide) rfl (fun q => ?_) (fun q => ?_)
    · have h := h.1 q
      exact w_fgt (fgk (fgk (fgd (fgn)))) h
    · have h := h.2 q
      exact w_fgt (fgk (fgk (fgd (fgn)))) h
theorem v_X8_figure_70 {E : zE} {Q : Int → zM → Prop} {M : zM} (v1 : Int)  (h : E mX8_faulty [.ref 1280] M (fun r1 M2 => wp E 8 cX8_figure (none) Q 74 [some (.ref 1280), some (zI v1), none] [] M2)) : wp E 8 cX8_figure (none) Q 70 [some (.ref 1280), some (zI v1), none] [] M := by
  refine w_aload_n dX8_figure_70 rfl ?_
  refine w_invVv [] dX8_figure_71 l8_196 kX8_faulty rfl rfl (Nat.le_of_ble_eq_true rfl) rfl ob_1280 h (fun r1 M2 h => ?_)
  exact w_fgt (fgk (fgk (fgd (fgn)))) h
theorem v_X8_figure_74 {E : zE} {Q : Int → zM → Prop} {M : zM} (v1 : Int)  (h : E mX8_addStep [.ref 1280, zI 1, zI v1] M (fun r1 M2 => Q 0 M2)) : wp E 8 cX8_figure (none) Q 74 [some (.ref 1280), some (zI v1), none] [] M := by
  refine w_aload_n dX8_figure_74 rfl ?_
  refine w_iconst dX8_figure_75 ?_
  refine w_iload_n dX8_figure_76 rfl ?_
  refine w_invVv [_, _] dX8_figure_77 l8_203 kX8_addStep rfl rfl (Nat.le_of_ble_eq_true rfl) rfl ob_1280 h (fun r1 M2 h => ?_)
  exact w_rv rfl dX8_figure_80 h
theorem e_X8_operand {d : Nat} {Q : Int → zM → Prop} {M : zM}  (h : wp (Ev d) 8 cX8_operand (none) Q 0 [some (.ref 1280), none] [] M) : Ev (d + 1) mX8_operand [.ref 1280] M Q := ⟨kX8_operand, Nat.le_of_ble_eq_true rfl, h⟩
theorem v_X8_operand_0 {E : zE} {Q : Int → zM → Prop} {M : zM}   (h : E mX8_look [.ref 1280] M (fun r1 M2 => E mX8_nameOf [zI r1] M2 (fun r3 M4 => (zw r3 < 0 → ((zw r1 = 33 → (wp E 8 cX8_operand (none) Q 46 [some (.ref 1280), some (zI r1)] [] M4)) ∧ (¬ zw r1 = 33 → ((zw r1 = 45 → (wp E 8 cX8_operand (none) Q 46 [some (.ref 1280), some (zI r1)] [] M4)) ∧ (¬ zw r1 = 45 → ((zw r1 = 40 → (E mX8_opens [.ref 1280] M4 (fun r7 M8 => (zw r7 = 0 → (Q 0 M8)) ∧ (¬ zw r7 = 0 → (E mX8_either [.ref 1280] M8 (fun r9 M10 => (zg M10 1280 21 < 0 → (E mX8_look [.ref 1280] M10 (fun r11 M12 => (zw r11 = 41 → (∀ M13 : zM, M13 = zs M12 1280 20 ((zg M12 1280 20) + 1) → (∀ M14 : zM, M14 = zs M13 1280 22 ((zg M13 1280 22) - 1) → (Q 0 M14)))) ∧ (¬ zw r11 = 41 → (E mX8_faulty [.ref 1280] M12 (fun r15 M16 => Q 0 M16)))))) ∧ (¬ zg M10 1280 21 < 0 → (Q 0 M10)))))))) ∧ (¬ zw r1 = 40 → (E mX8_figure [.ref 1280] M4 (fun r5 M6 => Q 0 M6))))))))) ∧ (¬ zw r3 < 0 → (E mX8_nameOf [zI r1] M4 (fun r17 M18 => E mX8_addStep [.ref 1280, zI 2, zI r17] M18 (fun r19 M20 => ∀ M21 : zM, M21 = zs M20 1280 20 ((zg M20 1280 20) + 1) → (Q 0 M21)))))))) : wp E 8 cX8_operand (none) Q 0 [some (.ref 1280), none] [] M := by
  refine w_aload_n dX8_operand_0 rfl ?_
  refine w_invVi [] dX8_operand_1 l8_199 kX8_look rfl rfl (Nat.le_of_ble_eq_true rfl) (Or.inl rfl) ob_1280 h (fun r1 M2 h => ?_)
  refine w_istore_n dX8_operand_4 (Nat.le_of_ble_eq_true rfl) rfl ?_
  refine w_iload_n dX8_operand_5 rfl ?_
  refine w_invSi [_] dX8_operand_6 l8_207 kX8_nameOf rfl rfl (Nat.le_of_ble_eq_true rfl) (Or.inl rfl) h (fun r3 M4 h => ?_)
  refine w_if_lt (tgt := 34) dX8_operand_9 (by decide) rfl (fun q => ?_) (fun q => ?_)
  · have h := h.1 q
    refine w_iload_n dX8_operand_34 rfl ?_
    refine w_bipush dX8_operand_35 (by decide) ?_
    refine w_icmp_eq (tgt := 46) dX8_operand_37 (by decide) rfl zq_33 (fun q => ?_) (fun q => ?_)
    · have h := h.1 q
      exact w_fgt (fgk (fgk (fgn))) h
    · have h := h.2 q
      refine w_iload_n dX8_operand_40 rfl ?_
      refine w_bipush dX8_operand_41 (by decide) ?_
      refine w_icmp_ne (tgt := 87) dX8_operand_43 (by decide) rfl zq_45 (fun q => ?_) (fun q => ?_)
      · have h := h.2 q
        refine w_iload_n dX8_operand_87 rfl ?_
        refine w_bipush dX8_operand_88 (by decide) ?_
        refine w_icmp_ne (tgt := 150) dX8_operand_90 (by decide) rfl zq_40 (fun q => ?_) (fun q => ?_)
        · have h := h.2 q
          refine w_aload_n dX8_operand_150 rfl ?_
          refine w_invVv [] dX8_operand_151 l8_220 kX8_figure rfl rfl (Nat.le_of_ble_eq_true rfl) rfl ob_1280 h (fun r5 M6 h => ?_)
          exact w_rv rfl dX8_operand_154 h
        · have h := h.1 q
          refine w_aload_n dX8_operand_93 rfl ?_
          refine w_invVi [] dX8_operand_94 l8_210 kX8_opens rfl rfl (Nat.le_of_ble_eq_true rfl) (Or.inr rfl) ob_1280 h (fun r7 M8 h => ?_)
          refine w_if_ne (tgt := 101) dX8_operand_97 (by decide) rfl (fun q => ?_) (fun q => ?_)
          · have h := h.2 q
            refine w_aload_n dX8_operand_101 rfl ?_
            refine w_invVv [] dX8_operand_102 l8_217 kX8_either rfl rfl (Nat.le_of_ble_eq_true rfl) rfl ob_1280 h (fun r9 M10 h => ?_)
            refine w_aload_n dX8_operand_105 rfl ?_
            refine w_gfI (ci := 8) (k := 21) dX8_operand_106 f8_187 ob_1280 rfl ?_
            refine w_if_lt (tgt := 113) dX8_operand_109 (by decide) (zw_zg _ _ _) (fun q => ?_) (fun q => ?_)
            · have h := h.1 q
              refine w_aload_n dX8_operand_113 rfl ?_
              refine w_invVi [] dX8_operand_114 l8_199 kX8_look rfl rfl (Nat.le_of_ble_eq_true rfl) (Or.inl rfl) ob_1280 h (fun r11 M12 h => ?_)
              refine w_bipush dX8_operand_117 (by decide) ?_
              refine w_icmp_eq (tgt := 127) dX8_operand_119 (by decide) rfl zq_41 (fun q => ?_) (fun q => ?_)
              · have h := h.1 q
                refine w_aload_n dX8_operand_127 rfl ?_
                refine w_dup dX8_operand_128 rfl ?_
                refine w_gfI (ci := 8) (k := 20) dX8_operand_129 f8_184 ob_1280 rfl ?_
                refine w_iconst dX8_operand_132 ?_
                refine w_iadd dX8_operand_133 ?_
                have h := h _ rfl
                refine w_pfI (ci := 8) (k := 20) dX8_operand_134 f8_184 ob_1280 rfl rfl rfl ?_
                refine w_aload_n dX8_operand_137 rfl ?_
                refine w_dup dX8_operand_138 rfl ?_
                refine w_gfI (ci := 8) (k := 22) dX8_operand_139 f8_193 ob_1280 rfl ?_
                refine w_iconst dX8_operand_142 ?_
                refine w_isub dX8_operand_143 ?_
                have h := h _ rfl
                refine w_pfI (ci := 8) (k := 22) dX8_operand_144 f8_193 ob_1280 rfl rfl rfl ?_
                refine w_goto (tgt := 154) dX8_operand_147 (by decide) ?_
                exact w_rv rfl dX8_operand_154 h
              · have h := h.2 q
                refine w_aload_n dX8_operand_122 rfl ?_
                refine w_invVv [] dX8_operand_123 l8_196 kX8_faulty rfl rfl (Nat.le_of_ble_eq_true rfl) rfl ob_1280 h (fun r15 M16 h => ?_)
                exact w_rv rfl dX8_operand_126 h
            · have h := h.2 q
              exact w_rv rfl dX8_operand_112 h
          · have h := h.1 q
            exact w_rv rfl dX8_operand_100 h
      · have h := h.1 q
        exact w_fgt (fgk (fgk (fgn))) h
  · have h := h.2 q
    refine w_aload_n dX8_operand_12 rfl ?_
    refine w_iconst dX8_operand_13 ?_
    refine w_iload_n dX8_operand_14 rfl ?_
    refine w_invSi [_] dX8_operand_15 l8_207 kX8_nameOf rfl rfl (Nat.le_of_ble_eq_true rfl) (Or.inl rfl) h (fun r17 M18 h => ?_)
    refine w_invVv [_, _] dX8_operand_18 l8_203 kX8_addStep rfl rfl (Nat.le_of_ble_eq_true rfl) rfl ob_1280 h (fun r19 M20 h => ?_)
    refine w_aload_n dX8_operand_21 rfl ?_
    refine w_dup dX8_operand_22 rfl ?_
    refine w_gfI (ci := 8) (k := 20) dX8_operand_23 f8_184 ob_1280 rfl ?_
    refine w_iconst dX8_operand_26 ?_
    refine w_iadd dX8_operand_27 ?_
    have h := h _ rfl
    refine w_pfI (ci := 8) (k := 20) dX8_operand_28 f8_184 ob_1280 rfl rfl rfl ?_
    refine w_goto (tgt := 154) dX8_operand_31 (by decide) ?_
    exact w_rv rfl dX8_operand_154 h
theorem v_X8_operand_46 {E : zE} {Q : Int → zM → Prop} {M : zM} (v1 : Int)  (h : E mX8_opens [.ref 1280] M (fun r1 M2 => (zw r1 = 0 → (Q 0 M2)) ∧ (¬ zw r1 = 0 → (E mX8_operand [.ref 1280] M2 (fun r3 M4 => ∀ M5 : zM, M5 = zs M4 1280 22 ((zg M4 1280 22) - 1) → ((zw v1 = 33 → (wp E 8 cX8_operand (none) Q 80 [none, none] [zI 3, .ref 1280] M5)) ∧ (¬ zw v1 = 33 → (wp E 8 cX8_operand (none) Q 80 [none, none] [zI 4, .ref 1280] M5)))))))) : wp E 8 cX8_operand (none) Q 46 [some (.ref 1280), some (zI v1)] [] M := by
  refine w_aload_n dX8_operand_46 rfl ?_
  refine w_invVi [] dX8_operand_47 l8_210 kX8_opens rfl rfl (Nat.le_of_ble_eq_true rfl) (Or.inr rfl) ob_1280 h (fun r1 M2 h => ?_)
  refine w_if_ne (tgt := 54) dX8_operand_50 (by decide) rfl (fun q => ?_) (fun q => ?_)
  · have h := h.2 q
    refine w_aload_n dX8_operand_54 rfl ?_
    refine w_invVv [] dX8_operand_55 l8_214 kX8_operand rfl rfl (Nat.le_of_ble_eq_true rfl) rfl ob_1280 h (fun r3 M4 h => ?_)
    refine w_aload_n dX8_operand_58 rfl ?_
    refine w_dup dX8_operand_59 rfl ?_
    refine w_gfI (ci := 8) (k := 22) dX8_operand_60 f8_193 ob_1280 rfl ?_
    refine w_iconst dX8_operand_63 ?_
    refine w_isub dX8_operand_64 ?_
    have h := h _ rfl
    refine w_pfI (ci := 8) (k := 22) dX8_operand_65 f8_193 ob_1280 rfl rfl rfl ?_
    refine w_aload_n dX8_operand_68 rfl ?_
    refine w_iload_n dX8_operand_69 rfl ?_
    refine w_bipush dX8_operand_70 (by decide) ?_
    refine w_icmp_ne (tgt := 79) dX8_operand_72 (by decide) rfl zq_33 (fun q => ?_) (fun q => ?_)
    · have h := h.2 q
      refine w_iconst dX8_operand_79 ?_
      exact w_fgt (fgd (fgd (fgn))) h
    · have h := h.1 q
      refine w_iconst dX8_operand_75 ?_
      refine w_goto (tgt := 80) dX8_operand_76 (by decide) ?_
      exact w_fgt (fgd (fgd (fgn))) h
  · have h := h.1 q
    exact w_rv rfl dX8_operand_53 h
theorem v_X8_operand_80 {E : zE} {Q : Int → zM → Prop} {M : zM} (s0 : Int)  (h : E mX8_addStep [.ref 1280, zI s0, zI 0] M (fun r1 M2 => Q 0 M2)) : wp E 8 cX8_operand (none) Q 80 [none, none] [zI s0, .ref 1280] M := by
  refine w_iconst dX8_operand_80 ?_
  refine w_invVv [_, _] dX8_operand_81 l8_203 kX8_addStep rfl rfl (Nat.le_of_ble_eq_true rfl) rfl ob_1280 h (fun r1 M2 h => ?_)
  refine w_goto (tgt := 154) dX8_operand_84 (by decide) ?_
  exact w_rv rfl dX8_operand_154 h
theorem e_X8_product {d : Nat} {Q : Int → zM → Prop} {M : zM}  (h : wp (Ev d) 8 cX8_product (none) Q 0 [some (.ref 1280), none] [] M) : Ev (d + 1) mX8_product [.ref 1280] M Q := ⟨kX8_product, Nat.le_of_ble_eq_true rfl, h⟩
theorem v_X8_product_0 {E : zE} {Q : Int → zM → Prop} {M : zM}   (h : E mX8_operand [.ref 1280] M (fun r1 M2 => wp E 8 cX8_product (none) Q 4 [some (.ref 1280), none] [] M2)) : wp E 8 cX8_product (none) Q 0 [some (.ref 1280), none] [] M := by
  refine w_aload_n dX8_product_0 rfl ?_
  refine w_invVv [] dX8_product_1 l8_214 kX8_operand rfl rfl (Nat.le_of_ble_eq_true rfl) rfl ob_1280 h (fun r1 M2 h => ?_)
  exact w_fgt (fgk (fgd (fgn))) h
theorem v_X8_product_4 {E : zE} {Q : Int → zM → Prop} {M : zM}   (h : (zg M 1280 21 < 0 → (E mX8_look [.ref 1280] M (fun r1 M2 => (zw r1 = 42 → (wp E 8 cX8_product (none) Q 38 [some (.ref 1280), none] [] M2)) ∧ (¬ zw r1 = 42 → (E mX8_look [.ref 1280] M2 (fun r3 M4 => (zw r3 = 47 → (wp E 8 cX8_product (none) Q 38 [some (.ref 1280), none] [] M4)) ∧ (¬ zw r3 = 47 → (E mX8_look [.ref 1280] M4 (fun r5 M6 => (zw r5 = 37 → (wp E 8 cX8_product (none) Q 38 [some (.ref 1280), none] [] M6)) ∧ (¬ zw r5 = 37 → (Q 0 M6))))))))))) ∧ (¬ zg M 1280 21 < 0 → (Q 0 M))) : wp E 8 cX8_product (none) Q 4 [some (.ref 1280), none] [] M := by
  refine w_aload_n dX8_product_4 rfl ?_
  refine w_gfI (ci := 8) (k := 21) dX8_product_5 f8_187 ob_1280 rfl ?_
  refine w_if_ge (tgt := 66) dX8_product_8 (by decide) (zw_zg _ _ _) (fun q => ?_) (fun q => ?_)
  · have h := h.2 q
    exact w_rv rfl dX8_product_66 h
  · have h := h.1 q
    refine w_aload_n dX8_product_11 rfl ?_
    refine w_invVi [] dX8_product_12 l8_199 kX8_look rfl rfl (Nat.le_of_ble_eq_true rfl) (Or.inl rfl) ob_1280 h (fun r1 M2 h => ?_)
    refine w_bipush dX8_product_15 (by decide) ?_
    refine w_icmp_eq (tgt := 38) dX8_product_17 (by decide) rfl zq_42 (fun q => ?_) (fun q => ?_)
    · have h := h.1 q
      exact w_fgt (fgk (fgd (fgn))) h
    · have h := h.2 q
      refine w_aload_n dX8_product_20 rfl ?_
      refine w_invVi [] dX8_product_21 l8_199 kX8_look rfl rfl (Nat.le_of_ble_eq_true rfl) (Or.inl rfl) ob_1280 h (fun r3 M4 h => ?_)
      refine w_bipush dX8_product_24 (by decide) ?_
      refine w_icmp_eq (tgt := 38) dX8_product_26 (by decide) rfl zq_47 (fun q => ?_) (fun q => ?_)
      · have h := h.1 q
        exact w_fgt (fgk (fgd (fgn))) h
      · have h := h.2 q
        refine w_aload_n dX8_product_29 rfl ?_
        refine w_invVi [] dX8_product_30 l8_199 kX8_look rfl rfl (Nat.le_of_ble_eq_true rfl) (Or.inl rfl) ob_1280 h (fun r5 M6 h => ?_)
        refine w_bipush dX8_product_33 (by decide) ?_
        refine w_icmp_ne (tgt := 66) dX8_product_35 (by decide) rfl zq_37 (fun q => ?_) (fun q => ?_)
        · have h := h.2 q
          exact w_rv rfl dX8_product_66 h
        · have h := h.1 q
          exact w_fgt (fgk (fgd (fgn))) h
theorem v_X8_product_38 {E : zE} {Q : Int → zM → Prop} {M : zM}   (h : E mX8_look [.ref 1280] M (fun r1 M2 => ∀ M3 : zM, M3 = zs M2 1280 20 ((zg M2 1280 20) + 1) → (E mX8_operand [.ref 1280] M3 (fun r4 M5 => E mX8_addStep [.ref 1280, zI r1, zI 0] M5 (fun r6 M7 => wp E 8 cX8_product (none) Q 4 [some (.ref 1280), none] [] M7))))) : wp E 8 cX8_product (none) Q 38 [some (.ref 1280), none] [] M := by
  refine w_aload_n dX8_product_38 rfl ?_
  refine w_invVi [] dX8_product_39 l8_199 kX8_look rfl rfl (Nat.le_of_ble_eq_true rfl) (Or.inl rfl) ob_1280 h (fun r1 M2 h => ?_)
  refine w_istore_n dX8_product_42 (Nat.le_of_ble_eq_true rfl) rfl ?_
  refine w_aload_n dX8_product_43 rfl ?_
  refine w_dup dX8_product_44 rfl ?_
  refine w_gfI (ci := 8) (k := 20) dX8_product_45 f8_184 ob_1280 rfl ?_
  refine w_iconst dX8_product_48 ?_
  refine w_iadd dX8_product_49 ?_
  have h := h _ rfl
  refine w_pfI (ci := 8) (k := 20) dX8_product_50 f8_184 ob_1280 rfl rfl rfl ?_
  refine w_aload_n dX8_product_53 rfl ?_
  refine w_invVv [] dX8_product_54 l8_214 kX8_operand rfl rfl (Nat.le_of_ble_eq_true rfl) rfl ob_1280 h (fun r4 M5 h => ?_)
  refine w_aload_n dX8_product_57 rfl ?_
  refine w_iload_n dX8_product_58 rfl ?_
  refine w_iconst dX8_product_59 ?_
  refine w_invVv [_, _] dX8_product_60 l8_203 kX8_addStep rfl rfl (Nat.le_of_ble_eq_true rfl) rfl ob_1280 h (fun r6 M7 h => ?_)
  refine w_goto (tgt := 4) dX8_product_63 (by decide) ?_
  exact w_fgt (fgk (fgd (fgn))) h
theorem e_X8_sum {d : Nat} {Q : Int → zM → Prop} {M : zM}  (h : wp (Ev d) 8 cX8_sum (none) Q 0 [some (.ref 1280), none] [] M) : Ev (d + 1) mX8_sum [.ref 1280] M Q := ⟨kX8_sum, Nat.le_of_ble_eq_true rfl, h⟩
theorem v_X8_sum_0 {E : zE} {Q : Int → zM → Prop} {M : zM}   (h : E mX8_product [.ref 1280] M (fun r1 M2 => wp E 8 cX8_sum (none) Q 4 [some (.ref 1280), none] [] M2)) : wp E 8 cX8_sum (none) Q 0 [some (.ref 1280), none] [] M := by
  refine w_aload_n dX8_sum_0 rfl ?_
  refine w_invVv [] dX8_sum_1 l8_223 kX8_product rfl rfl (Nat.le_of_ble_eq_true rfl) rfl ob_1280 h (fun r1 M2 h => ?_)
  exact w_fgt (fgk (fgd (fgn))) h
theorem v_X8_sum_4 {E : zE} {Q : Int → zM → Prop} {M : zM}   (h : (zg M 1280 21 < 0 → (E mX8_look [.ref 1280] M (fun r1 M2 => (zw r1 = 43 → (wp E 8 cX8_sum (none) Q 29 [some (.ref 1280), none] [] M2)) ∧ (¬ zw r1 = 43 → (E mX8_look [.ref 1280] M2 (fun r3 M4 => (zw r3 = 45 → (wp E 8 cX8_sum (none) Q 29 [some (.ref 1280), none] [] M4)) ∧ (¬ zw r3 = 45 → (Q 0 M4)))))))) ∧ (¬ zg M 1280 21 < 0 → (Q 0 M))) : wp E 8 cX8_sum (none) Q 4 [some (.ref 1280), none] [] M := by
  refine w_aload_n dX8_sum_4 rfl ?_
  refine w_gfI (ci := 8) (k := 21) dX8_sum_5 f8_187 ob_1280 rfl ?_
  refine w_if_ge (tgt := 57) dX8_sum_8 (by decide) (zw_zg _ _ _) (fun q => ?_) (fun q => ?_)
  · have h := h.2 q
    exact w_rv rfl dX8_sum_57 h
  · have h := h.1 q
    refine w_aload_n dX8_sum_11 rfl ?_
    refine w_invVi [] dX8_sum_12 l8_199 kX8_look rfl rfl (Nat.le_of_ble_eq_true rfl) (Or.inl rfl) ob_1280 h (fun r1 M2 h => ?_)
    refine w_bipush dX8_sum_15 (by decide) ?_
    refine w_icmp_eq (tgt := 29) dX8_sum_17 (by decide) rfl zq_43 (fun q => ?_) (fun q => ?_)
    · have h := h.1 q
      exact w_fgt (fgk (fgd (fgn))) h
    · have h := h.2 q
      refine w_aload_n dX8_sum_20 rfl ?_
      refine w_invVi [] dX8_sum_21 l8_199 kX8_look rfl rfl (Nat.le_of_ble_eq_true rfl) (Or.inl rfl) ob_1280 h (fun r3 M4 h => ?_)
      refine w_bipush dX8_sum_24 (by decide) ?_
      refine w_icmp_ne (tgt := 57) dX8_sum_26 (by decide) rfl zq_45 (fun q => ?_) (fun q => ?_)
      · have h := h.2 q
        exact w_rv rfl dX8_sum_57 h
      · have h := h.1 q
        exact w_fgt (fgk (fgd (fgn))) h
theorem v_X8_sum_29 {E : zE} {Q : Int → zM → Prop} {M : zM}   (h : E mX8_look [.ref 1280] M (fun r1 M2 => ∀ M3 : zM, M3 = zs M2 1280 20 ((zg M2 1280 20) + 1) → (E mX8_product [.ref 1280] M3 (fun r4 M5 => E mX8_addStep [.ref 1280, zI r1, zI 0] M5 (fun r6 M7 => wp E 8 cX8_sum (none) Q 4 [some (.ref 1280), none] [] M7))))) : wp E 8 cX8_sum (none) Q 29 [some (.ref 1280), none] [] M := by
  refine w_aload_n dX8_sum_29 rfl ?_
  refine w_invVi [] dX8_sum_30 l8_199 kX8_look rfl rfl (Nat.le_of_ble_eq_true rfl) (Or.inl rfl) ob_1280 h (fun r1 M2 h => ?_)
  refine w_istore_n dX8_sum_33 (Nat.le_of_ble_eq_true rfl) rfl ?_
  refine w_aload_n dX8_sum_34 rfl ?_
  refine w_dup dX8_sum_35 rfl ?_
  refine w_gfI (ci := 8) (k := 20) dX8_sum_36 f8_184 ob_1280 rfl ?_
  refine w_iconst dX8_sum_39 ?_
  refine w_iadd dX8_sum_40 ?_
  have h := h _ rfl
  refine w_pfI (ci := 8) (k := 20) dX8_sum_41 f8_184 ob_1280 rfl rfl rfl ?_
  refine w_aload_n dX8_sum_44 rfl ?_
  refine w_invVv [] dX8_sum_45 l8_223 kX8_product rfl rfl (Nat.le_of_ble_eq_true rfl) rfl ob_1280 h (fun r4 M5 h => ?_)
  refine w_aload_n dX8_sum_48 rfl ?_
  refine w_iload_n dX8_sum_49 rfl ?_
  refine w_iconst dX8_sum_50 ?_
  refine w_invVv [_, _] dX8_sum_51 l8_203 kX8_addStep rfl rfl (Nat.le_of_ble_eq_true rfl) rfl ob_1280 h (fun r6 M7 h => ?_)
  refine w_goto (tgt := 4) dX8_sum_54 (by decide) ?_
  exact w_fgt (fgk (fgd (fgn))) h
theorem e_X8_compared {d : Nat} {Q : Int → zM → Prop} {M : zM}  (h : wp (Ev d) 8 cX8_compared (none) Q 0 [some (.ref 1280), none] [] M) : Ev (d + 1) mX8_compared [.ref 1280] M Q := ⟨kX8_compared, Nat.le_of_ble_eq_true rfl, h⟩
theorem v_X8_compared_0 {E : zE} {Q : Int → zM → Prop} {M : zM}   (h : E mX8_sum [.ref 1280] M (fun r1 M2 => E mX8_look [.ref 1280] M2 (fun r3 M4 => (zg M4 1280 21 < 0 → ((zw r3 = 60 → (wp E 8 cX8_compared (none) Q 35 [some (.ref 1280), some (zI r3)] [] M4)) ∧ (¬ zw r3 = 60 → ((zw r3 = 61 → (wp E 8 cX8_compared (none) Q 35 [some (.ref 1280), some (zI r3)] [] M4)) ∧ (¬ zw r3 = 61 → ((zw r3 = 62 → (wp E 8 cX8_compared (none) Q 35 [some (.ref 1280), some (zI r3)] [] M4)) ∧ (¬ zw r3 = 62 → (Q 0 M4)))))))) ∧ (¬ zg M4 1280 21 < 0 → (Q 0 M4))))) : wp E 8 cX8_compared (none) Q 0 [some (.ref 1280), none] [] M := by
  refine w_aload_n dX8_compared_0 rfl ?_
  refine w_invVv [] dX8_compared_1 l8_226 kX8_sum rfl rfl (Nat.le_of_ble_eq_true rfl) rfl ob_1280 h (fun r1 M2 h => ?_)
  refine w_aload_n dX8_compared_4 rfl ?_
  refine w_invVi [] dX8_compared_5 l8_199 kX8_look rfl rfl (Nat.le_of_ble_eq_true rfl) (Or.inl rfl) ob_1280 h (fun r3 M4 h => ?_)
  refine w_istore_n dX8_compared_8 (Nat.le_of_ble_eq_true rfl) rfl ?_
  refine w_aload_n dX8_compared_9 rfl ?_
  refine w_gfI (ci := 8) (k := 21) dX8_compared_10 f8_187 ob_1280 rfl ?_
  refine w_if_ge (tgt := 34) dX8_compared_13 (by decide) (zw_zg _ _ _) (fun q => ?_) (fun q => ?_)
  · have h := h.2 q
    exact w_rv rfl dX8_compared_34 h
  · have h := h.1 q
    refine w_iload_n dX8_compared_16 rfl ?_
    refine w_bipush dX8_compared_17 (by decide) ?_
    refine w_icmp_eq (tgt := 35) dX8_compared_19 (by decide) rfl zq_60 (fun q => ?_) (fun q => ?_)
    · have h := h.1 q
      exact w_fgt (fgk (fgk (fgn))) h
    · have h := h.2 q
      refine w_iload_n dX8_compared_22 rfl ?_
      refine w_bipush dX8_compared_23 (by decide) ?_
      refine w_icmp_eq (tgt := 35) dX8_compared_25 (by decide) rfl zq_61 (fun q => ?_) (fun q => ?_)
      · have h := h.1 q
        exact w_fgt (fgk (fgk (fgn))) h
      · have h := h.2 q
        refine w_iload_n dX8_compared_28 rfl ?_
        refine w_bipush dX8_compared_29 (by decide) ?_
        refine w_icmp_eq (tgt := 35) dX8_compared_31 (by decide) rfl zq_62 (fun q => ?_) (fun q => ?_)
        · have h := h.1 q
          exact w_fgt (fgk (fgk (fgn))) h
        · have h := h.2 q
          exact w_rv rfl dX8_compared_34 h
theorem v_X8_compared_35 {E : zE} {Q : Int → zM → Prop} {M : zM} (v1 : Int)  (h : ∀ M1 : zM, M1 = zs M 1280 20 ((zg M 1280 20) + 1) → (E mX8_sum [.ref 1280] M1 (fun r2 M3 => E mX8_addStep [.ref 1280, zI v1, zI 0] M3 (fun r4 M5 => Q 0 M5)))) : wp E 8 cX8_compared (none) Q 35 [some (.ref 1280), some (zI v1)] [] M := by
  refine w_aload_n dX8_compared_35 rfl ?_
  refine w_dup dX8_compared_36 rfl ?_
  refine w_gfI (ci := 8) (k := 20) dX8_compared_37 f8_184 ob_1280 rfl ?_
  refine w_iconst dX8_compared_40 ?_
  refine w_iadd dX8_compared_41 ?_
  have h := h _ rfl
  refine w_pfI (ci := 8) (k := 20) dX8_compared_42 f8_184 ob_1280 rfl rfl rfl ?_
  refine w_aload_n dX8_compared_45 rfl ?_
  refine w_invVv [] dX8_compared_46 l8_226 kX8_sum rfl rfl (Nat.le_of_ble_eq_true rfl) rfl ob_1280 h (fun r2 M3 h => ?_)
  refine w_aload_n dX8_compared_49 rfl ?_
  refine w_iload_n dX8_compared_50 rfl ?_
  refine w_iconst dX8_compared_51 ?_
  refine w_invVv [_, _] dX8_compared_52 l8_203 kX8_addStep rfl rfl (Nat.le_of_ble_eq_true rfl) rfl ob_1280 h (fun r4 M5 h => ?_)
  exact w_rv rfl dX8_compared_55 h
theorem e_X8_both {d : Nat} {Q : Int → zM → Prop} {M : zM}  (h : wp (Ev d) 8 cX8_both (none) Q 0 [some (.ref 1280)] [] M) : Ev (d + 1) mX8_both [.ref 1280] M Q := ⟨kX8_both, Nat.le_of_ble_eq_true rfl, h⟩
theorem v_X8_both_0 {E : zE} {Q : Int → zM → Prop} {M : zM}   (h : E mX8_compared [.ref 1280] M (fun r1 M2 => wp E 8 cX8_both (none) Q 4 [some (.ref 1280)] [] M2)) : wp E 8 cX8_both (none) Q 0 [some (.ref 1280)] [] M := by
  refine w_aload_n dX8_both_0 rfl ?_
  refine w_invVv [] dX8_both_1 l8_229 kX8_compared rfl rfl (Nat.le_of_ble_eq_true rfl) rfl ob_1280 h (fun r1 M2 h => ?_)
  exact w_fgt (fgk (fgn)) h
theorem v_X8_both_4 {E : zE} {Q : Int → zM → Prop} {M : zM}   (h : (zg M 1280 21 < 0 → (E mX8_look [.ref 1280] M (fun r1 M2 => (zw r1 = 38 → (∀ M3 : zM, M3 = zs M2 1280 20 ((zg M2 1280 20) + 1) → (E mX8_compared [.ref 1280] M3 (fun r4 M5 => E mX8_addStep [.ref 1280, zI 38, zI 0] M5 (fun r6 M7 => wp E 8 cX8_both (none) Q 4 [some (.ref 1280)] [] M7))))) ∧ (¬ zw r1 = 38 → (Q 0 M2))))) ∧ (¬ zg M 1280 21 < 0 → (Q 0 M))) : wp E 8 cX8_both (none) Q 4 [some (.ref 1280)] [] M := by
  refine w_aload_n dX8_both_4 rfl ?_
  refine w_gfI (ci := 8) (k := 21) dX8_both_5 f8_187 ob_1280 rfl ?_
  refine w_if_ge (tgt := 44) dX8_both_8 (by decide) (zw_zg _ _ _) (fun q => ?_) (fun q => ?_)
  · have h := h.2 q
    exact w_rv rfl dX8_both_44 h
  · have h := h.1 q
    refine w_aload_n dX8_both_11 rfl ?_
    refine w_invVi [] dX8_both_12 l8_199 kX8_look rfl rfl (Nat.le_of_ble_eq_true rfl) (Or.inl rfl) ob_1280 h (fun r1 M2 h => ?_)
    refine w_bipush dX8_both_15 (by decide) ?_
    refine w_icmp_ne (tgt := 44) dX8_both_17 (by decide) rfl zq_38 (fun q => ?_) (fun q => ?_)
    · have h := h.2 q
      exact w_rv rfl dX8_both_44 h
    · have h := h.1 q
      refine w_aload_n dX8_both_20 rfl ?_
      refine w_dup dX8_both_21 rfl ?_
      refine w_gfI (ci := 8) (k := 20) dX8_both_22 f8_184 ob_1280 rfl ?_
      refine w_iconst dX8_both_25 ?_
      refine w_iadd dX8_both_26 ?_
      have h := h _ rfl
      refine w_pfI (ci := 8) (k := 20) dX8_both_27 f8_184 ob_1280 rfl rfl rfl ?_
      refine w_aload_n dX8_both_30 rfl ?_
      refine w_invVv [] dX8_both_31 l8_229 kX8_compared rfl rfl (Nat.le_of_ble_eq_true rfl) rfl ob_1280 h (fun r4 M5 h => ?_)
      refine w_aload_n dX8_both_34 rfl ?_
      refine w_bipush dX8_both_35 (by decide) ?_
      refine w_iconst dX8_both_37 ?_
      refine w_invVv [_, _] dX8_both_38 l8_203 kX8_addStep rfl rfl (Nat.le_of_ble_eq_true rfl) rfl ob_1280 h (fun r6 M7 h => ?_)
      refine w_goto (tgt := 4) dX8_both_41 (by decide) ?_
      exact w_fgt (fgk (fgn)) h
theorem e_X8_either {d : Nat} {Q : Int → zM → Prop} {M : zM}  (h : wp (Ev d) 8 cX8_either (none) Q 0 [some (.ref 1280)] [] M) : Ev (d + 1) mX8_either [.ref 1280] M Q := ⟨kX8_either, Nat.le_of_ble_eq_true rfl, h⟩
theorem v_X8_either_0 {E : zE} {Q : Int → zM → Prop} {M : zM}   (h : E mX8_both [.ref 1280] M (fun r1 M2 => wp E 8 cX8_either (none) Q 4 [some (.ref 1280)] [] M2)) : wp E 8 cX8_either (none) Q 0 [some (.ref 1280)] [] M := by
  refine w_aload_n dX8_either_0 rfl ?_
  refine w_invVv [] dX8_either_1 l8_232 kX8_both rfl rfl (Nat.le_of_ble_eq_true rfl) rfl ob_1280 h (fun r1 M2 h => ?_)
  exact w_fgt (fgk (fgn)) h
theorem v_X8_either_4 {E : zE} {Q : Int → zM → Prop} {M : zM}   (h : (zg M 1280 21 < 0 → (E mX8_look [.ref 1280] M (fun r1 M2 => (zw r1 = 124 → (∀ M3 : zM, M3 = zs M2 1280 20 ((zg M2 1280 20) + 1) → (E mX8_both [.ref 1280] M3 (fun r4 M5 => E mX8_addStep [.ref 1280, zI 124, zI 0] M5 (fun r6 M7 => wp E 8 cX8_either (none) Q 4 [some (.ref 1280)] [] M7))))) ∧ (¬ zw r1 = 124 → (Q 0 M2))))) ∧ (¬ zg M 1280 21 < 0 → (Q 0 M))) : wp E 8 cX8_either (none) Q 4 [some (.ref 1280)] [] M := by
  refine w_aload_n dX8_either_4 rfl ?_
  refine w_gfI (ci := 8) (k := 21) dX8_either_5 f8_187 ob_1280 rfl ?_
  refine w_if_ge (tgt := 44) dX8_either_8 (by decide) (zw_zg _ _ _) (fun q => ?_) (fun q => ?_)
  · have h := h.2 q
    exact w_rv rfl dX8_either_44 h
  · have h := h.1 q
    refine w_aload_n dX8_either_11 rfl ?_
    refine w_invVi [] dX8_either_12 l8_199 kX8_look rfl rfl (Nat.le_of_ble_eq_true rfl) (Or.inl rfl) ob_1280 h (fun r1 M2 h => ?_)
    refine w_bipush dX8_either_15 (by decide) ?_
    refine w_icmp_ne (tgt := 44) dX8_either_17 (by decide) rfl zq_124 (fun q => ?_) (fun q => ?_)
    · have h := h.2 q
      exact w_rv rfl dX8_either_44 h
    · have h := h.1 q
      refine w_aload_n dX8_either_20 rfl ?_
      refine w_dup dX8_either_21 rfl ?_
      refine w_gfI (ci := 8) (k := 20) dX8_either_22 f8_184 ob_1280 rfl ?_
      refine w_iconst dX8_either_25 ?_
      refine w_iadd dX8_either_26 ?_
      have h := h _ rfl
      refine w_pfI (ci := 8) (k := 20) dX8_either_27 f8_184 ob_1280 rfl rfl rfl ?_
      refine w_aload_n dX8_either_30 rfl ?_
      refine w_invVv [] dX8_either_31 l8_232 kX8_both rfl rfl (Nat.le_of_ble_eq_true rfl) rfl ob_1280 h (fun r4 M5 h => ?_)
      refine w_aload_n dX8_either_34 rfl ?_
      refine w_bipush dX8_either_35 (by decide) ?_
      refine w_iconst dX8_either_37 ?_
      refine w_invVv [_, _] dX8_either_38 l8_203 kX8_addStep rfl rfl (Nat.le_of_ble_eq_true rfl) rfl ob_1280 h (fun r6 M7 h => ?_)
      refine w_goto (tgt := 4) dX8_either_41 (by decide) ?_
      exact w_fgt (fgk (fgn)) h
theorem e_X8_line {d : Nat} {Q : Int → zM → Prop} {M : zM}  (h : wp (Ev d) 8 cX8_line (none) Q 0 [some (.ref 1280), none] [] M) : Ev (d + 1) mX8_line [.ref 1280] M Q := ⟨kX8_line, Nat.le_of_ble_eq_true rfl, h⟩
theorem v_X8_line_0 {E : zE} {Q : Int → zM → Prop} {M : zM}   (h : (0 ≤ zw (61 + (zg M 1307 1))) ∧ ((zw (61 + (zg M 1307 1)) < 122) ∧ (∀ M3 : zM, M3 = zs M 1308 (zw (61 + (zg M 1307 1))).toNat (z_s (z_s (zg M 1280 23))) → (E mX8_either [.ref 1280] M3 (fun r4 M5 => (zg M5 1280 21 < 0 → (E mX8_look [.ref 1280] M5 (fun r6 M7 => (zw r6 = 63 → (∀ M8 : zM, M8 = zs M7 1280 20 ((zg M7 1280 20) + 1) → ((0 ≤ zw (61 + (zg M 1307 1))) ∧ ((zw (61 + (zg M 1307 1)) < 122) ∧ (∀ M11 : zM, M11 = zs M8 1308 (zw (61 + (zg M 1307 1))).toNat (z_s (z_s (zg M8 1280 23))) → (E mX8_either [.ref 1280] M11 (fun r12 M13 => wp E 8 cX8_line (none) Q 66 [some (.ref 1280), some (zI (61 + (zg M 1307 1)))] [] M13))))))) ∧ (¬ zw r6 = 63 → (wp E 8 cX8_line (none) Q 66 [some (.ref 1280), some (zI (61 + (zg M 1307 1)))] [] M7))))) ∧ (¬ zg M5 1280 21 < 0 → (wp E 8 cX8_line (none) Q 66 [some (.ref 1280), some (zI (61 + (zg M 1307 1)))] [] M5))))))) : wp E 8 cX8_line (none) Q 0 [some (.ref 1280), none] [] M := by
  refine w_bipush dX8_line_0 (by decide) ?_
  refine w_aload_n dX8_line_2 rfl ?_
  refine w_gfA (ci := 8) (k := 26) dX8_line_3 f8_56 ob_1280 rfl ?_
  refine w_iconst dX8_line_6 ?_
  refine w_iald dX8_line_7 zq_1 (a8_26 ob_1280) (by decide) (by decide) ?_
  refine w_iadd dX8_line_8 ?_
  refine w_istore_n dX8_line_9 (Nat.le_of_ble_eq_true rfl) rfl ?_
  refine w_aload_n dX8_line_10 rfl ?_
  refine w_gfA (ci := 8) (k := 27) dX8_line_11 f8_59 ob_1280 rfl ?_
  refine w_iload_n dX8_line_14 rfl ?_
  refine w_aload_n dX8_line_15 rfl ?_
  refine w_gfI (ci := 8) (k := 23) dX8_line_16 f8_190 ob_1280 rfl ?_
  refine w_i2s dX8_line_19 ?_
  obtain ⟨c1, h⟩ := h
  obtain ⟨c2, h⟩ := h
  have h := h _ rfl
  refine w_sast dX8_line_20 rfl (a8_27 ob_1280) c1 c2 ?_
  refine w_aload_n dX8_line_21 rfl ?_
  refine w_invVv [] dX8_line_22 l8_217 kX8_either rfl rfl (Nat.le_of_ble_eq_true rfl) rfl ob_1280 h (fun r4 M5 h => ?_)
  refine w_aload_n dX8_line_25 rfl ?_
  refine w_gfI (ci := 8) (k := 21) dX8_line_26 f8_187 ob_1280 rfl ?_
  refine w_if_ge (tgt := 66) dX8_line_29 (by decide) (zw_zg _ _ _) (fun q => ?_) (fun q => ?_)
  · have h := h.2 q
    exact w_fgt (fgk (fgk (fgn))) h
  · have h := h.1 q
    refine w_aload_n dX8_line_32 rfl ?_
    refine w_invVi [] dX8_line_33 l8_199 kX8_look rfl rfl (Nat.le_of_ble_eq_true rfl) (Or.inl rfl) ob_1280 h (fun r6 M7 h => ?_)
    refine w_bipush dX8_line_36 (by decide) ?_
    refine w_icmp_ne (tgt := 66) dX8_line_38 (by decide) rfl zq_63 (fun q => ?_) (fun q => ?_)
    · have h := h.2 q
      exact w_fgt (fgk (fgk (fgn))) h
    · have h := h.1 q
      refine w_aload_n dX8_line_41 rfl ?_
      refine w_dup dX8_line_42 rfl ?_
      refine w_gfI (ci := 8) (k := 20) dX8_line_43 f8_184 ob_1280 rfl ?_
      refine w_iconst dX8_line_46 ?_
      refine w_iadd dX8_line_47 ?_
      have h := h _ rfl
      refine w_pfI (ci := 8) (k := 20) dX8_line_48 f8_184 ob_1280 rfl rfl rfl ?_
      refine w_aload_n dX8_line_51 rfl ?_
      refine w_gfA (ci := 8) (k := 27) dX8_line_52 f8_59 ob_1280 rfl ?_
      refine w_iload_n dX8_line_55 rfl ?_
      refine w_aload_n dX8_line_56 rfl ?_
      refine w_gfI (ci := 8) (k := 23) dX8_line_57 f8_190 ob_1280 rfl ?_
      refine w_i2s dX8_line_60 ?_
      obtain ⟨c9, h⟩ := h
      obtain ⟨c10, h⟩ := h
      have h := h _ rfl
      refine w_sast dX8_line_61 rfl (a8_27 ob_1280) c9 c10 ?_
      refine w_aload_n dX8_line_62 rfl ?_
      refine w_invVv [] dX8_line_63 l8_217 kX8_either rfl rfl (Nat.le_of_ble_eq_true rfl) rfl ob_1280 h (fun r12 M13 h => ?_)
      exact w_fgt (fgk (fgk (fgn))) h
theorem v_X8_line_66 {E : zE} {Q : Int → zM → Prop} {M : zM} (v1 : Int)  (h : (0 ≤ zw v1) ∧ ((zw v1 < 122) ∧ (∀ M3 : zM, M3 = zs M 1309 (zw v1).toNat (z_s (z_s (zg M 1280 23))) → (∀ M4 : zM, M4 = zs M3 1307 1 ((zg M3 1307 1) + 1) → (Q 0 M4))))) : wp E 8 cX8_line (none) Q 66 [some (.ref 1280), some (zI v1)] [] M := by
  refine w_aload_n dX8_line_66 rfl ?_
  refine w_gfA (ci := 8) (k := 28) dX8_line_67 f8_63 ob_1280 rfl ?_
  refine w_iload_n dX8_line_70 rfl ?_
  refine w_aload_n dX8_line_71 rfl ?_
  refine w_gfI (ci := 8) (k := 23) dX8_line_72 f8_190 ob_1280 rfl ?_
  refine w_i2s dX8_line_75 ?_
  obtain ⟨c1, h⟩ := h
  obtain ⟨c2, h⟩ := h
  have h := h _ rfl
  refine w_sast dX8_line_76 rfl (a8_28 ob_1280) c1 c2 ?_
  refine w_aload_n dX8_line_77 rfl ?_
  refine w_gfA (ci := 8) (k := 26) dX8_line_78 f8_56 ob_1280 rfl ?_
  refine w_iconst dX8_line_81 ?_
  refine w_dup2 dX8_line_82 rfl rfl ?_
  refine w_iald dX8_line_83 zq_1 (a8_26 ob_1280) (by decide) (by decide) ?_
  refine w_iconst dX8_line_84 ?_
  refine w_iadd dX8_line_85 ?_
  have h := h _ rfl
  refine w_iast dX8_line_86 zq_1 (a8_26 ob_1280) (by decide) (by decide) ?_
  exact w_rv rfl dX8_line_87 h
theorem e_X8_readText {d : Nat} {Q : Int → zM → Prop} {M : zM} (v1 : Int) (h : wp (Ev d) 8 cX8_readText (some .int) Q 0 [some (.ref 1280), some (zI v1), none] [] M) : Ev (d + 1) mX8_readText [.ref 1280, zI v1] M Q := ⟨kX8_readText, Nat.le_of_ble_eq_true rfl, h⟩
theorem v_X8_readText_0 {E : zE} {Q : Int → zM → Prop} {M : zM} (v1 : Int)  (h : ∀ M1 : zM, M1 = zs M 1280 20 0 → (∀ M2 : zM, M2 = zs M1 1280 21 (-1) → (∀ M3 : zM, M3 = zs M2 1280 22 0 → (∀ M4 : zM, M4 = zs M3 1280 23 0 → (∀ M5 : zM, M5 = zs M4 1307 1 0 → (E mX8_line [.ref 1280] M5 (fun r6 M7 => wp E 8 cX8_readText (some .int) Q 31 [some (.ref 1280), some (zI v1), none] [] M7))))))) : wp E 8 cX8_readText (some .int) Q 0 [some (.ref 1280), some (zI v1), none] [] M := by
  refine w_aload_n dX8_readText_0 rfl ?_
  refine w_iconst dX8_readText_1 ?_
  have h := h _ rfl
  refine w_pfI (ci := 8) (k := 20) dX8_readText_2 f8_184 ob_1280 rfl rfl rfl ?_
  refine w_aload_n dX8_readText_5 rfl ?_
  refine w_iconst dX8_readText_6 ?_
  have h := h _ rfl
  refine w_pfI (ci := 8) (k := 21) dX8_readText_7 f8_187 ob_1280 rfl rfl rfl ?_
  refine w_aload_n dX8_readText_10 rfl ?_
  refine w_iconst dX8_readText_11 ?_
  have h := h _ rfl
  refine w_pfI (ci := 8) (k := 22) dX8_readText_12 f8_193 ob_1280 rfl rfl rfl ?_
  refine w_aload_n dX8_readText_15 rfl ?_
  refine w_iconst dX8_readText_16 ?_
  have h := h _ rfl
  refine w_pfI (ci := 8) (k := 23) dX8_readText_17 f8_190 ob_1280 rfl rfl rfl ?_
  refine w_aload_n dX8_readText_20 rfl ?_
  refine w_gfA (ci := 8) (k := 26) dX8_readText_21 f8_56 ob_1280 rfl ?_
  refine w_iconst dX8_readText_24 ?_
  refine w_iconst dX8_readText_25 ?_
  have h := h _ rfl
  refine w_iast dX8_readText_26 zq_1 (a8_26 ob_1280) (by decide) (by decide) ?_
  refine w_aload_n dX8_readText_27 rfl ?_
  refine w_invVv [] dX8_readText_28 l8_235 kX8_line rfl rfl (Nat.le_of_ble_eq_true rfl) rfl ob_1280 h (fun r6 M7 h => ?_)
  exact w_fgt (fgk (fgk (fgd (fgn)))) h
theorem v_X8_readText_31 {E : zE} {Q : Int → zM → Prop} {M : zM} (v1 : Int)  (h : (zg M 1280 21 < 0 → (E mX8_look [.ref 1280] M (fun r1 M2 => (zw r1 = 59 → (∀ M3 : zM, M3 = zs M2 1280 20 ((zg M2 1280 20) + 1) → (E mX8_line [.ref 1280] M3 (fun r4 M5 => wp E 8 cX8_readText (some .int) Q 31 [some (.ref 1280), some (zI v1), none] [] M5)))) ∧ (¬ zw r1 = 59 → (wp E 8 cX8_readText (some .int) Q 64 [some (.ref 1280), some (zI v1), none] [] M2))))) ∧ (¬ zg M 1280 21 < 0 → (wp E 8 cX8_readText (some .int) Q 64 [some (.ref 1280), some (zI v1), none] [] M))) : wp E 8 cX8_readText (some .int) Q 31 [some (.ref 1280), some (zI v1), none] [] M := by
  refine w_aload_n dX8_readText_31 rfl ?_
  refine w_gfI (ci := 8) (k := 21) dX8_readText_32 f8_187 ob_1280 rfl ?_
  refine w_if_ge (tgt := 64) dX8_readText_35 (by decide) (zw_zg _ _ _) (fun q => ?_) (fun q => ?_)
  · have h := h.2 q
    exact w_fgt (fgk (fgk (fgd (fgn)))) h
  · have h := h.1 q
    refine w_aload_n dX8_readText_38 rfl ?_
    refine w_invVi [] dX8_readText_39 l8_199 kX8_look rfl rfl (Nat.le_of_ble_eq_true rfl) (Or.inl rfl) ob_1280 h (fun r1 M2 h => ?_)
    refine w_bipush dX8_readText_42 (by decide) ?_
    refine w_icmp_ne (tgt := 64) dX8_readText_44 (by decide) rfl zq_59 (fun q => ?_) (fun q => ?_)
    · have h := h.2 q
      exact w_fgt (fgk (fgk (fgd (fgn)))) h
    · have h := h.1 q
      refine w_aload_n dX8_readText_47 rfl ?_
      refine w_dup dX8_readText_48 rfl ?_
      refine w_gfI (ci := 8) (k := 20) dX8_readText_49 f8_184 ob_1280 rfl ?_
      refine w_iconst dX8_readText_52 ?_
      refine w_iadd dX8_readText_53 ?_
      have h := h _ rfl
      refine w_pfI (ci := 8) (k := 20) dX8_readText_54 f8_184 ob_1280 rfl rfl rfl ?_
      refine w_aload_n dX8_readText_57 rfl ?_
      refine w_invVv [] dX8_readText_58 l8_235 kX8_line rfl rfl (Nat.le_of_ble_eq_true rfl) rfl ob_1280 h (fun r4 M5 h => ?_)
      refine w_goto (tgt := 31) dX8_readText_61 (by decide) ?_
      exact w_fgt (fgk (fgk (fgd (fgn)))) h
theorem v_X8_readText_64 {E : zE} {Q : Int → zM → Prop} {M : zM} (v1 : Int)  (h : (zg M 1280 21 < 0 → ((zg M 1280 20 < zg M 1280 19 → (E mX8_faulty [.ref 1280] M (fun r1 M2 => wp E 8 cX8_readText (some .int) Q 86 [some (.ref 1280), some (zI v1), none] [] M2))) ∧ (¬ zg M 1280 20 < zg M 1280 19 → (wp E 8 cX8_readText (some .int) Q 86 [some (.ref 1280), some (zI v1), none] [] M)))) ∧ (¬ zg M 1280 21 < 0 → (wp E 8 cX8_readText (some .int) Q 86 [some (.ref 1280), some (zI v1), none] [] M))) : wp E 8 cX8_readText (some .int) Q 64 [some (.ref 1280), some (zI v1), none] [] M := by
  refine w_aload_n dX8_readText_64 rfl ?_
  refine w_gfI (ci := 8) (k := 21) dX8_readText_65 f8_187 ob_1280 rfl ?_
  refine w_if_ge (tgt := 86) dX8_readText_68 (by decide) (zw_zg _ _ _) (fun q => ?_) (fun q => ?_)
  · have h := h.2 q
    exact w_fgt (fgk (fgk (fgd (fgn)))) h
  · have h := h.1 q
    refine w_aload_n dX8_readText_71 rfl ?_
    refine w_gfI (ci := 8) (k := 20) dX8_readText_72 f8_184 ob_1280 rfl ?_
    refine w_aload_n dX8_readText_75 rfl ?_
    refine w_gfI (ci := 8) (k := 19) dX8_readText_76 f8_181 ob_1280 rfl ?_
    refine w_icmp_ge (tgt := 86) dX8_readText_79 (by decide) (zw_zg _ _ _) (zw_zg _ _ _) (fun q => ?_) (fun q => ?_)
    · have h := h.2 q
      exact w_fgt (fgk (fgk (fgd (fgn)))) h
    · have h := h.1 q
      refine w_aload_n dX8_readText_82 rfl ?_
      refine w_invVv [] dX8_readText_83 l8_196 kX8_faulty rfl rfl (Nat.le_of_ble_eq_true rfl) rfl ob_1280 h (fun r1 M2 h => ?_)
      exact w_fgt (fgk (fgk (fgd (fgn)))) h
theorem v_X8_readText_86 {E : zE} {Q : Int → zM → Prop} {M : zM} (v1 : Int)  (h : ∀ M1 : zM, M1 = zs M 1280 19 0 → ((zg M1 1280 21 < 0 → (wp E 8 cX8_readText (some .int) Q 105 [some (.ref 1280), some (zI v1), some (zI 0)] [] M1)) ∧ (¬ zg M1 1280 21 < 0 → (Q (zg M1 1280 21) M1)))) : wp E 8 cX8_readText (some .int) Q 86 [some (.ref 1280), some (zI v1), none] [] M := by
  refine w_aload_n dX8_readText_86 rfl ?_
  refine w_iconst dX8_readText_87 ?_
  have h := h _ rfl
  refine w_pfI (ci := 8) (k := 19) dX8_readText_88 f8_181 ob_1280 rfl rfl rfl ?_
  refine w_aload_n dX8_readText_91 rfl ?_
  refine w_gfI (ci := 8) (k := 21) dX8_readText_92 f8_187 ob_1280 rfl ?_
  refine w_if_lt (tgt := 103) dX8_readText_95 (by decide) (zw_zg _ _ _) (fun q => ?_) (fun q => ?_)
  · have h := h.1 q
    refine w_iconst dX8_readText_103 ?_
    refine w_istore_n dX8_readText_104 (Nat.le_of_ble_eq_true rfl) rfl ?_
    exact w_fgt (fgk (fgk (fgk (fgn)))) h
  · have h := h.2 q
    refine w_aload_n dX8_readText_98 rfl ?_
    refine w_gfI (ci := 8) (k := 21) dX8_readText_99 f8_187 ob_1280 rfl ?_
    exact w_ri rfl dX8_readText_102 (zw_zg _ _ _) h
theorem v_X8_readText_105 {E : zE} {Q : Int → zM → Prop} {M : zM} (v1 : Int) (v2 : Int)  (h : (zw v2 < zg M 1280 23 → ((0 ≤ zw (130 + v2)) ∧ ((zw (130 + v2) < 260) ∧ ((0 ≤ zw ((130 * v1) + v2)) ∧ ((zw ((130 * v1) + v2) < 260) ∧ (∀ M8 : zM, M8 = zs M 1305 (zw ((130 * v1) + v2)).toNat (z_b (zg M 1305 (zw (130 + v2)).toNat)) → ((0 ≤ zw (130 + v2)) ∧ ((zw (130 + v2) < 260) ∧ ((0 ≤ zw ((130 * v1) + v2)) ∧ ((zw ((130 * v1) + v2) < 260) ∧ (∀ M13 : zM, M13 = zs M8 1306 (zw ((130 * v1) + v2)).toNat (zg M8 1306 (zw (130 + v2)).toNat) → (wp E 8 cX8_readText (some .int) Q 105 [some (.ref 1280), some (zI v1), some (zI (v2 + 1))] [] M13)))))))))))) ∧ (¬ zw v2 < zg M 1280 23 → ((0 ≤ zw v1) ∧ ((zw v1 < 2) ∧ (∀ M3 : zM, M3 = zs M 1307 (zw v1).toNat (zg M 1307 1) → (wp E 8 cX8_readText (some .int) Q 177 [some (.ref 1280), some (zI v1), some (zI 0)] [] M3)))))) : wp E 8 cX8_readText (some .int) Q 105 [some (.ref 1280), some (zI v1), some (zI v2)] [] M := by
  refine w_iload_n dX8_readText_105 rfl ?_
  refine w_aload_n dX8_readText_106 rfl ?_
  refine w_gfI (ci := 8) (k := 23) dX8_readText_107 f8_190 ob_1280 rfl ?_
  refine w_icmp_ge (tgt := 163) dX8_readText_110 (by decide) rfl (zw_zg _ _ _) (fun q => ?_) (fun q => ?_)
  · have h := h.2 q
    refine w_aload_n dX8_readText_163 rfl ?_
    refine w_gfA (ci := 8) (k := 26) dX8_readText_164 f8_56 ob_1280 rfl ?_
    refine w_iload_n dX8_readText_167 rfl ?_
    refine w_aload_n dX8_readText_168 rfl ?_
    refine w_gfA (ci := 8) (k := 26) dX8_readText_169 f8_56 ob_1280 rfl ?_
    refine w_iconst dX8_readText_172 ?_
    refine w_iald dX8_readText_173 zq_1 (a8_26 ob_1280) (by decide) (by decide) ?_
    obtain ⟨c1, h⟩ := h
    obtain ⟨c2, h⟩ := h
    have h := h _ rfl
    refine w_iast dX8_readText_174 rfl (a8_26 ob_1280) c1 c2 ?_
    refine w_iconst dX8_readText_175 ?_
    refine w_istore_n dX8_readText_176 (Nat.le_of_ble_eq_true rfl) rfl ?_
    exact w_fgt (fgk (fgk (fgk (fgn)))) h
  · have h := h.1 q
    refine w_aload_n dX8_readText_113 rfl ?_
    refine w_gfA (ci := 8) (k := 24) dX8_readText_114 f8_50 ob_1280 rfl ?_
    refine w_sipush dX8_readText_117 (by decide) ?_
    refine w_iload_n dX8_readText_120 rfl ?_
    refine w_imul dX8_readText_121 ?_
    refine w_iload_n dX8_readText_122 rfl ?_
    refine w_iadd dX8_readText_123 ?_
    refine w_aload_n dX8_readText_124 rfl ?_
    refine w_gfA (ci := 8) (k := 24) dX8_readText_125 f8_50 ob_1280 rfl ?_
    refine w_sipush dX8_readText_128 (by decide) ?_
    refine w_iload_n dX8_readText_131 rfl ?_
    refine w_iadd dX8_readText_132 ?_
    obtain ⟨c4, h⟩ := h
    obtain ⟨c5, h⟩ := h
    refine w_bald dX8_readText_133 rfl (a8_24 ob_1280) c4 c5 ?_
    obtain ⟨c6, h⟩ := h
    obtain ⟨c7, h⟩ := h
    have h := h _ rfl
    refine w_bast dX8_readText_134 rfl (a8_24 ob_1280) c6 c7 ?_
    refine w_aload_n dX8_readText_135 rfl ?_
    refine w_gfA (ci := 8) (k := 25) dX8_readText_136 f8_53 ob_1280 rfl ?_
    refine w_sipush dX8_readText_139 (by decide) ?_
    refine w_iload_n dX8_readText_142 rfl ?_
    refine w_imul dX8_readText_143 ?_
    refine w_iload_n dX8_readText_144 rfl ?_
    refine w_iadd dX8_readText_145 ?_
    refine w_aload_n dX8_readText_146 rfl ?_
    refine w_gfA (ci := 8) (k := 25) dX8_readText_147 f8_53 ob_1280 rfl ?_
    refine w_sipush dX8_readText_150 (by decide) ?_
    refine w_iload_n dX8_readText_153 rfl ?_
    refine w_iadd dX8_readText_154 ?_
    obtain ⟨c9, h⟩ := h
    obtain ⟨c10, h⟩ := h
    refine w_iald dX8_readText_155 rfl (a8_25 ob_1280) c9 c10 ?_
    obtain ⟨c11, h⟩ := h
    obtain ⟨c12, h⟩ := h
    have h := h _ rfl
    refine w_iast dX8_readText_156 rfl (a8_25 ob_1280) c11 c12 ?_
    refine w_iinc dX8_readText_157 rfl rfl ?_
    refine w_goto (tgt := 105) dX8_readText_160 (by decide) ?_
    exact w_fgt (fgk (fgk (fgk (fgn)))) h
theorem v_X8_readText_177 {E : zE} {Q : Int → zM → Prop} {M : zM} (v1 : Int) (v2 : Int)  (h : (0 ≤ zw v1) ∧ ((zw v1 < 2) ∧ ((zw v2 < zg M 1307 (zw v1).toNat → ((0 ≤ zw (61 + v2)) ∧ ((zw (61 + v2) < 122) ∧ ((0 ≤ zw ((61 * v1) + v2)) ∧ ((zw ((61 * v1) + v2) < 122) ∧ (∀ M7 : zM, M7 = zs M 1308 (zw ((61 * v1) + v2)).toNat (z_s (zg M 1308 (zw (61 + v2)).toNat)) → ((0 ≤ zw (61 + v2)) ∧ ((zw (61 + v2) < 122) ∧ ((0 ≤ zw ((61 * v1) + v2)) ∧ ((zw ((61 * v1) + v2) < 122) ∧ (∀ M12 : zM, M12 = zs M7 1309 (zw ((61 * v1) + v2)).toNat (z_s (zg M7 1309 (zw (61 + v2)).toNat)) → (wp E 8 cX8_readText (some .int) Q 177 [some (.ref 1280), some (zI v1), some (zI (v2 + 1))] [] M12)))))))))))) ∧ (¬ zw v2 < zg M 1307 (zw v1).toNat → (Q (-1) M))))) : wp E 8 cX8_readText (some .int) Q 177 [some (.ref 1280), some (zI v1), some (zI v2)] [] M := by
  refine w_iload_n dX8_readText_177 rfl ?_
  refine w_aload_n dX8_readText_178 rfl ?_
  refine w_gfA (ci := 8) (k := 26) dX8_readText_179 f8_56 ob_1280 rfl ?_
  refine w_iload_n dX8_readText_182 rfl ?_
  obtain ⟨c1, h⟩ := h
  obtain ⟨c2, h⟩ := h
  refine w_iald dX8_readText_183 rfl (a8_26 ob_1280) c1 c2 ?_
  refine w_icmp_ge (tgt := 233) dX8_readText_184 (by decide) rfl (zw_zg _ _ _) (fun q => ?_) (fun q => ?_)
  · have h := h.2 q
    refine w_iconst dX8_readText_233 ?_
    exact w_ri rfl dX8_readText_234 zq_m1 h
  · have h := h.1 q
    refine w_aload_n dX8_readText_187 rfl ?_
    refine w_gfA (ci := 8) (k := 27) dX8_readText_188 f8_59 ob_1280 rfl ?_
    refine w_bipush dX8_readText_191 (by decide) ?_
    refine w_iload_n dX8_readText_193 rfl ?_
    refine w_imul dX8_readText_194 ?_
    refine w_iload_n dX8_readText_195 rfl ?_
    refine w_iadd dX8_readText_196 ?_
    refine w_aload_n dX8_readText_197 rfl ?_
    refine w_gfA (ci := 8) (k := 27) dX8_readText_198 f8_59 ob_1280 rfl ?_
    refine w_bipush dX8_readText_201 (by decide) ?_
    refine w_iload_n dX8_readText_203 rfl ?_
    refine w_iadd dX8_readText_204 ?_
    obtain ⟨c3, h⟩ := h
    obtain ⟨c4, h⟩ := h
    refine w_sald dX8_readText_205 rfl (a8_27 ob_1280) c3 c4 ?_
    obtain ⟨c5, h⟩ := h
    obtain ⟨c6, h⟩ := h
    have h := h _ rfl
    refine w_sast dX8_readText_206 rfl (a8_27 ob_1280) c5 c6 ?_
    refine w_aload_n dX8_readText_207 rfl ?_
    refine w_gfA (ci := 8) (k := 28) dX8_readText_208 f8_63 ob_1280 rfl ?_
    refine w_bipush dX8_readText_211 (by decide) ?_
    refine w_iload_n dX8_readText_213 rfl ?_
    refine w_imul dX8_readText_214 ?_
    refine w_iload_n dX8_readText_215 rfl ?_
    refine w_iadd dX8_readText_216 ?_
    refine w_aload_n dX8_readText_217 rfl ?_
    refine w_gfA (ci := 8) (k := 28) dX8_readText_218 f8_63 ob_1280 rfl ?_
    refine w_bipush dX8_readText_221 (by decide) ?_
    refine w_iload_n dX8_readText_223 rfl ?_
    refine w_iadd dX8_readText_224 ?_
    obtain ⟨c8, h⟩ := h
    obtain ⟨c9, h⟩ := h
    refine w_sald dX8_readText_225 rfl (a8_28 ob_1280) c8 c9 ?_
    obtain ⟨c10, h⟩ := h
    obtain ⟨c11, h⟩ := h
    have h := h _ rfl
    refine w_sast dX8_readText_226 rfl (a8_28 ob_1280) c10 c11 ?_
    refine w_iinc dX8_readText_227 rfl rfl ?_
    refine w_goto (tgt := 177) dX8_readText_230 (by decide) ?_
    exact w_fgt (fgk (fgk (fgk (fgn)))) h
theorem e_X8_twoOf {d : Nat} {Q : Int → zM → Prop} {M : zM} (v0 : Int) (v1 : Int) (v2 : Int) (h : wp (Ev d) 8 cX8_twoOf (some .int) Q 0 [some (zI v0), some (zI v1), some (zI v2)] [] M) : Ev (d + 1) mX8_twoOf [zI v0, zI v1, zI v2] M Q := ⟨kX8_twoOf, Nat.le_of_ble_eq_true rfl, h⟩
theorem v_X8_twoOf_0 {E : zE} {Q : Int → zM → Prop} {M : zM} (v0 : Int) (v1 : Int) (v2 : Int)  (h : (zw v0 = 37 → ((zw v2 = 0 → (Q 0 M)) ∧ (¬ zw v2 = 0 → ((zw v2 = (-1) → (Q 0 M)) ∧ (¬ zw v2 = (-1) → ((¬ zw v2 = 0) ∧ (Q (z_rem v1 v2) M))))))) ∧ (zw v0 = 38 → ((zw v1 = 0 → (Q 0 M)) ∧ (¬ zw v1 = 0 → ((zw v2 = 0 → (Q 0 M)) ∧ (¬ zw v2 = 0 → (Q 1 M)))))) ∧ (zw v0 = 42 → (Q (zw (v1 * v2)) M)) ∧ (zw v0 = 43 → (Q (zw (v1 + v2)) M)) ∧ (zw v0 = 45 → (Q (zw (v1 - v2)) M)) ∧ (zw v0 = 47 → ((zw v2 = 0 → (Q 0 M)) ∧ (¬ zw v2 = 0 → ((zw v2 = (-1) → (Q (zw (-v1)) M)) ∧ (¬ zw v2 = (-1) → ((¬ zw v2 = 0) ∧ (Q (z_div v1 v2) M))))))) ∧ (zw v0 = 60 → ((zw v1 < zw v2 → (Q 1 M)) ∧ (¬ zw v1 < zw v2 → (Q 0 M)))) ∧ (zw v0 = 61 → ((zw v1 = zw v2 → (Q 1 M)) ∧ (¬ zw v1 = zw v2 → (Q 0 M)))) ∧ (zw v0 = 62 → ((zw v2 < zw v1 → (Q 1 M)) ∧ (¬ zw v2 < zw v1 → (Q 0 M)))) ∧ (¬ zw v0 = 37 → ¬ zw v0 = 38 → ¬ zw v0 = 42 → ¬ zw v0 = 43 → ¬ zw v0 = 45 → ¬ zw v0 = 47 → ¬ zw v0 = 60 → ¬ zw v0 = 61 → ¬ zw v0 = 62 → ((zw v1 = 0 → ((zw v2 = 0 → (Q 0 M)) ∧ (¬ zw v2 = 0 → (Q 1 M)))) ∧ (¬ zw v1 = 0 → (Q 1 M))))) : wp E 8 cX8_twoOf (some .int) Q 0 [some (zI v0), some (zI v1), some (zI v2)] [] M := by
  refine w_iload_n dX8_twoOf_0 rfl ?_
  by_cases q0 : zw v0 = 37
  · refine w_tsw (tgt := 154) dX8_twoOf_1 (by rw [q0]; decide) (by rw [q0]; decide) ?_
    have h := h.1 q0
    refine w_iload_n dX8_twoOf_154 rfl ?_
    refine w_if_eq (tgt := 163) dX8_twoOf_155 (by decide) rfl (fun q => ?_) (fun q => ?_)
    · have h := h.1 q
      refine w_iconst dX8_twoOf_163 ?_
      refine w_goto (tgt := 170) dX8_twoOf_164 (by decide) ?_
      exact w_ri rfl dX8_twoOf_170 zq_0 h
    · have h := h.2 q
      refine w_iload_n dX8_twoOf_158 rfl ?_
      refine w_iconst dX8_twoOf_159 ?_
      refine w_icmp_ne (tgt := 167) dX8_twoOf_160 (by decide) rfl zq_m1 (fun q => ?_) (fun q => ?_)
      · have h := h.2 q
        refine w_iload_n dX8_twoOf_167 rfl ?_
        refine w_iload_n dX8_twoOf_168 rfl ?_
        obtain ⟨c1, h⟩ := h
        refine w_irem dX8_twoOf_169 c1 ?_
        exact w_ri rfl dX8_twoOf_170 (zx_rem _ _) h
      · have h := h.1 q
        refine w_iconst dX8_twoOf_163 ?_
        refine w_goto (tgt := 170) dX8_twoOf_164 (by decide) ?_
        exact w_ri rfl dX8_twoOf_170 zq_0 h
  · skip
    by_cases q1 : zw v0 = 38
    · refine w_tsw (tgt := 204) dX8_twoOf_1 (by rw [q1]; decide) (by rw [q1]; decide) ?_
      have h := h.2.1 q1
      refine w_iload_n dX8_twoOf_204 rfl ?_
      refine w_if_eq (tgt := 216) dX8_twoOf_205 (by decide) rfl (fun q => ?_) (fun q => ?_)
      · have h := h.1 q
        refine w_iconst dX8_twoOf_216 ?_
        exact w_ri rfl dX8_twoOf_217 zq_0 h
      · have h := h.2 q
        refine w_iload_n dX8_twoOf_208 rfl ?_
        refine w_if_eq (tgt := 216) dX8_twoOf_209 (by decide) rfl (fun q => ?_) (fun q => ?_)
        · have h := h.1 q
          refine w_iconst dX8_twoOf_216 ?_
          exact w_ri rfl dX8_twoOf_217 zq_0 h
        · have h := h.2 q
          refine w_iconst dX8_twoOf_212 ?_
          refine w_goto (tgt := 217) dX8_twoOf_213 (by decide) ?_
          exact w_ri rfl dX8_twoOf_217 zq_1 h
    · skip
      by_cases q2 : zw v0 = 42
      · refine w_tsw (tgt := 128) dX8_twoOf_1 (by rw [q2]; decide) (by rw [q2]; decide) ?_
        have h := h.2.2.1 q2
        refine w_iload_n dX8_twoOf_128 rfl ?_
        refine w_iload_n dX8_twoOf_129 rfl ?_
        refine w_imul dX8_twoOf_130 ?_
        exact w_ri rfl dX8_twoOf_131 rfl h
      · skip
        by_cases q3 : zw v0 = 43
        · refine w_tsw (tgt := 120) dX8_twoOf_1 (by rw [q3]; decide) (by rw [q3]; decide) ?_
          have h := h.2.2.2.1 q3
          refine w_iload_n dX8_twoOf_120 rfl ?_
          refine w_iload_n dX8_twoOf_121 rfl ?_
          refine w_iadd dX8_twoOf_122 ?_
          exact w_ri rfl dX8_twoOf_123 rfl h
        · skip
          by_cases q4 : zw v0 = 45
          · refine w_tsw (tgt := 124) dX8_twoOf_1 (by rw [q4]; decide) (by rw [q4]; decide) ?_
            have h := h.2.2.2.2.1 q4
            refine w_iload_n dX8_twoOf_124 rfl ?_
            refine w_iload_n dX8_twoOf_125 rfl ?_
            refine w_isub dX8_twoOf_126 ?_
            exact w_ri rfl dX8_twoOf_127 rfl h
          · skip
            by_cases q5 : zw v0 = 47
            · refine w_tsw (tgt := 132) dX8_twoOf_1 (by rw [q5]; decide) (by rw [q5]; decide) ?_
              have h := h.2.2.2.2.2.1 q5
              refine w_iload_n dX8_twoOf_132 rfl ?_
              refine w_if_ne (tgt := 140) dX8_twoOf_133 (by decide) rfl (fun q => ?_) (fun q => ?_)
              · have h := h.2 q
                refine w_iload_n dX8_twoOf_140 rfl ?_
                refine w_iconst dX8_twoOf_141 ?_
                refine w_icmp_ne (tgt := 150) dX8_twoOf_142 (by decide) rfl zq_m1 (fun q => ?_) (fun q => ?_)
                · have h := h.2 q
                  refine w_iload_n dX8_twoOf_150 rfl ?_
                  refine w_iload_n dX8_twoOf_151 rfl ?_
                  obtain ⟨c2, h⟩ := h
                  refine w_idiv dX8_twoOf_152 c2 ?_
                  exact w_ri rfl dX8_twoOf_153 (zx_div _ _) h
                · have h := h.1 q
                  refine w_iload_n dX8_twoOf_145 rfl ?_
                  refine w_ineg dX8_twoOf_146 ?_
                  refine w_goto (tgt := 153) dX8_twoOf_147 (by decide) ?_
                  exact w_ri rfl dX8_twoOf_153 rfl h
              · have h := h.1 q
                refine w_iconst dX8_twoOf_136 ?_
                refine w_goto (tgt := 153) dX8_twoOf_137 (by decide) ?_
                exact w_ri rfl dX8_twoOf_153 zq_0 h
            · skip
              by_cases q6 : zw v0 = 60
              · refine w_tsw (tgt := 171) dX8_twoOf_1 (by rw [q6]; decide) (by rw [q6]; decide) ?_
                have h := h.2.2.2.2.2.2.1 q6
                refine w_iload_n dX8_twoOf_171 rfl ?_
                refine w_iload_n dX8_twoOf_172 rfl ?_
                refine w_icmp_ge (tgt := 180) dX8_twoOf_173 (by decide) rfl rfl (fun q => ?_) (fun q => ?_)
                · have h := h.2 q
                  refine w_iconst dX8_twoOf_180 ?_
                  exact w_ri rfl dX8_twoOf_181 zq_0 h
                · have h := h.1 q
                  refine w_iconst dX8_twoOf_176 ?_
                  refine w_goto (tgt := 181) dX8_twoOf_177 (by decide) ?_
                  exact w_ri rfl dX8_twoOf_181 zq_1 h
              · skip
                by_cases q7 : zw v0 = 61
                · refine w_tsw (tgt := 182) dX8_twoOf_1 (by rw [q7]; decide) (by rw [q7]; decide) ?_
                  have h := h.2.2.2.2.2.2.2.1 q7
                  refine w_iload_n dX8_twoOf_182 rfl ?_
                  refine w_iload_n dX8_twoOf_183 rfl ?_
                  refine w_icmp_ne (tgt := 191) dX8_twoOf_184 (by decide) rfl rfl (fun q => ?_) (fun q => ?_)
                  · have h := h.2 q
                    refine w_iconst dX8_twoOf_191 ?_
                    exact w_ri rfl dX8_twoOf_192 zq_0 h
                  · have h := h.1 q
                    refine w_iconst dX8_twoOf_187 ?_
                    refine w_goto (tgt := 192) dX8_twoOf_188 (by decide) ?_
                    exact w_ri rfl dX8_twoOf_192 zq_1 h
                · skip
                  by_cases q8 : zw v0 = 62
                  · refine w_tsw (tgt := 193) dX8_twoOf_1 (by rw [q8]; decide) (by rw [q8]; decide) ?_
                    have h := h.2.2.2.2.2.2.2.2.1 q8
                    refine w_iload_n dX8_twoOf_193 rfl ?_
                    refine w_iload_n dX8_twoOf_194 rfl ?_
                    refine w_icmp_le (tgt := 202) dX8_twoOf_195 (by decide) rfl rfl (fun q => ?_) (fun q => ?_)
                    · have h := h.2 q
                      refine w_iconst dX8_twoOf_202 ?_
                      exact w_ri rfl dX8_twoOf_203 zq_0 h
                    · have h := h.1 q
                      refine w_iconst dX8_twoOf_198 ?_
                      refine w_goto (tgt := 203) dX8_twoOf_199 (by decide) ?_
                      exact w_ri rfl dX8_twoOf_203 zq_1 h
                  · skip
                    have hz : (1 : Int) + zts (217) 37 62 #[153, 203, 217, 217, 217, 127, 119, 217, 123, 217, 131, 217, 217, 217, 217, 217, 217, 217, 217, 217, 217, 217, 217, 170, 181, 192] (zw v0) = (218 : Nat) := by
                      rcases (show zw v0 < 37 ∨ 62 < zw v0 ∨ zw v0 = 39 ∨ zw v0 = 40 ∨ zw v0 = 41 ∨ zw v0 = 44 ∨ zw v0 = 46 ∨ zw v0 = 48 ∨ zw v0 = 49 ∨ zw v0 = 50 ∨ zw v0 = 51 ∨ zw v0 = 52 ∨ zw v0 = 53 ∨ zw v0 = 54 ∨ zw v0 = 55 ∨ zw v0 = 56 ∨ zw v0 = 57 ∨ zw v0 = 58 ∨ zw v0 = 59 by omega) with z | z | z | z | z | z | z | z | z | z | z | z | z | z | z | z | z | z | z <;> first | (rw [zts, if_pos (Or.inl z)]; rfl) | (rw [zts, if_pos (Or.inr z)]; rfl) | (rw [z]; decide)
                    have hn : ¬ (zw v0 < 37 ∨ 62 < zw v0) → ((zw v0 - 37).toNat) < (#[153, 203, 217, 217, 217, 127, 119, 217, 123, 217, 131, 217, 217, 217, 217, 217, 217, 217, 217, 217, 217, 217, 217, 170, 181, 192] : Array Int).size := by
                      intro z
                      show _ < 26
                      omega
                    refine w_tsw (tgt := 218) dX8_twoOf_1 hz hn ?_
                    have h := h.2.2.2.2.2.2.2.2.2 q0 q1 q2 q3 q4 q5 q6 q7 q8
                    refine w_iload_n dX8_twoOf_218 rfl ?_
                    refine w_if_ne (tgt := 226) dX8_twoOf_219 (by decide) rfl (fun q => ?_) (fun q => ?_)
                    · have h := h.2 q
                      refine w_iconst dX8_twoOf_226 ?_
                      refine w_goto (tgt := 231) dX8_twoOf_227 (by decide) ?_
                      exact w_ri rfl dX8_twoOf_231 zq_1 h
                    · have h := h.1 q
                      refine w_iload_n dX8_twoOf_222 rfl ?_
                      refine w_if_eq (tgt := 230) dX8_twoOf_223 (by decide) rfl (fun q => ?_) (fun q => ?_)
                      · have h := h.1 q
                        refine w_iconst dX8_twoOf_230 ?_
                        exact w_ri rfl dX8_twoOf_231 zq_0 h
                      · have h := h.2 q
                        refine w_iconst dX8_twoOf_226 ?_
                        refine w_goto (tgt := 231) dX8_twoOf_227 (by decide) ?_
                        exact w_ri rfl dX8_twoOf_231 zq_1 h
theorem e_X8_worked {d : Nat} {Q : Int → zM → Prop} {M : zM} (v1 : Int) (v2 : Int) (v3 : Int) (h : wp (Ev d) 8 cX8_worked (some .int) Q 0 [some (.ref 1280), some (zI v1), some (zI v2), some (zI v3), none, none, none] [] M) : Ev (d + 1) mX8_worked [.ref 1280, zI v1, zI v2, zI v3] M Q := ⟨kX8_worked, Nat.le_of_ble_eq_true rfl, h⟩
theorem v_X8_worked_0 {E : zE} {Q : Int → zM → Prop} {M : zM} (v1 : Int) (v2 : Int) (v3 : Int)  (h : wp E 8 cX8_worked (some .int) Q 12 [some (.ref 1280), some (zI v1), none, some (zI v3), some (zI 0), some (zI ((130 * v1) + v2)), none] [] M) : wp E 8 cX8_worked (some .int) Q 0 [some (.ref 1280), some (zI v1), some (zI v2), some (zI v3), none, none, none] [] M := by
  refine w_iconst dX8_worked_0 ?_
  refine w_istore dX8_worked_1 (Nat.le_of_ble_eq_true rfl) rfl ?_
  refine w_sipush dX8_worked_3 (by decide) ?_
  refine w_iload_n dX8_worked_6 rfl ?_
  refine w_imul dX8_worked_7 ?_
  refine w_iload_n dX8_worked_8 rfl ?_
  refine w_iadd dX8_worked_9 ?_
  refine w_istore dX8_worked_10 (Nat.le_of_ble_eq_true rfl) rfl ?_
  exact w_fgt (fgk (fgk (fgd (fgk (fgk (fgk (fgd (fgn)))))))) h
theorem v_X8_worked_12 {E : zE} {Q : Int → zM → Prop} {M : zM} (v1 : Int) (v3 : Int) (v4 : Int) (v5 : Int)  (h : (zw v5 < zw ((130 * v1) + v3) → ((0 ≤ zw v5) ∧ ((zw v5 < 260) ∧ ((zg M 1305 (zw v5).toNat = 1 → (wp E 8 cX8_worked (some .int) Q 45 [some (.ref 1280), some (zI v1), none, some (zI v3), some (zI v4), some (zI v5), some (zI (zg M 1305 (zw v5).toNat))] [] M)) ∧ (¬ zg M 1305 (zw v5).toNat = 1 → ((zg M 1305 (zw v5).toNat = 2 → (wp E 8 cX8_worked (some .int) Q 45 [some (.ref 1280), some (zI v1), none, some (zI v3), some (zI v4), some (zI v5), some (zI (zg M 1305 (zw v5).toNat))] [] M)) ∧ (¬ zg M 1305 (zw v5).toNat = 2 → ((zg M 1305 (zw v5).toNat = 3 → ((0 ≤ zw (v4 - 1)) ∧ ((zw (v4 - 1) < 130) ∧ ((zg M 1311 (zw (v4 - 1)).toNat = 0 → ((0 ≤ zw (v4 - 1)) ∧ ((zw (v4 - 1) < 130) ∧ (∀ M24 : zM, M24 = zs M 1311 (zw (v4 - 1)).toNat 1 → (wp E 8 cX8_worked (some .int) Q 12 [some (.ref 1280), some (zI v1), none, some (zI v3), some (zI v4), some (zI (v5 + 1)), none] [] M24))))) ∧ (¬ zg M 1311 (zw (v4 - 1)).toNat = 0 → ((0 ≤ zw (v4 - 1)) ∧ ((zw (v4 - 1) < 130) ∧ (∀ M21 : zM, M21 = zs M 1311 (zw (v4 - 1)).toNat 0 → (wp E 8 cX8_worked (some .int) Q 12 [some (.ref 1280), some (zI v1), none, some (zI v3), some (zI v4), some (zI (v5 + 1)), none] [] M21))))))))) ∧ (¬ zg M 1305 (zw v5).toNat = 3 → ((zg M 1305 (zw v5).toNat = 4 → ((0 ≤ zw (v4 - 1)) ∧ ((zw (v4 - 1) < 130) ∧ ((0 ≤ zw (v4 - 1)) ∧ ((zw (v4 - 1) < 130) ∧ (∀ M16 : zM, M16 = zs M 1311 (zw (v4 - 1)).toNat (-(zg M 1311 (zw (v4 - 1)).toNat)) → (wp E 8 cX8_worked (some .int) Q 12 [some (.ref 1280), some (zI v1), none, some (zI v3), some (zI v4), some (zI (v5 + 1)), none] [] M16))))))) ∧ (¬ zg M 1305 (zw v5).toNat = 4 → ((0 ≤ zw ((v4 + (-1)) - 1)) ∧ ((zw ((v4 + (-1)) - 1) < 130) ∧ ((0 ≤ zw (v4 + (-1))) ∧ ((zw (v4 + (-1)) < 130) ∧ (E mX8_twoOf [zI (zg M 1305 (zw v5).toNat), zI (zg M 1311 (zw ((v4 + (-1)) - 1)).toNat), zI (zg M 1311 (zw (v4 + (-1))).toNat)] M (fun r7 M8 => (0 ≤ zw ((v4 + (-1)) - 1)) ∧ ((zw ((v4 + (-1)) - 1) < 130) ∧ (∀ M11 : zM, M11 = zs M8 1311 (zw ((v4 + (-1)) - 1)).toNat r7 → (wp E 8 cX8_worked (some .int) Q 12 [some (.ref 1280), some (zI v1), none, some (zI v3), some (zI (v4 + (-1))), some (zI (v5 + 1)), none] [] M11)))))))))))))))))))) ∧ (¬ zw v5 < zw ((130 * v1) + v3) → (Q (zg M 1311 0) M))) : wp E 8 cX8_worked (some .int) Q 12 [some (.ref 1280), some (zI v1), none, some (zI v3), some (zI v4), some (zI v5), none] [] M := by
  refine w_iload dX8_worked_12 rfl ?_
  refine w_sipush dX8_worked_14 (by decide) ?_
  refine w_iload_n dX8_worked_17 rfl ?_
  refine w_imul dX8_worked_18 ?_
  refine w_iload_n dX8_worked_19 rfl ?_
  refine w_iadd dX8_worked_20 ?_
  refine w_icmp_ge (tgt := 188) dX8_worked_21 (by decide) rfl rfl (fun q => ?_) (fun q => ?_)
  · have h := h.2 q
    refine w_aload_n dX8_worked_188 rfl ?_
    refine w_gfA (ci := 8) (k := 30) dX8_worked_189 f8_69 ob_1280 rfl ?_
    refine w_iconst dX8_worked_192 ?_
    refine w_iald dX8_worked_193 zq_0 (a8_30 ob_1280) (by decide) (by decide) ?_
    exact w_ri rfl dX8_worked_194 (zw_zg _ _ _) h
  · have h := h.1 q
    refine w_aload_n dX8_worked_24 rfl ?_
    refine w_gfA (ci := 8) (k := 24) dX8_worked_25 f8_50 ob_1280 rfl ?_
    refine w_iload dX8_worked_28 rfl ?_
    obtain ⟨c1, h⟩ := h
    obtain ⟨c2, h⟩ := h
    refine w_bald dX8_worked_30 rfl (a8_24 ob_1280) c1 c2 ?_
    refine w_istore dX8_worked_31 (Nat.le_of_ble_eq_true rfl) rfl ?_
    refine w_iload dX8_worked_33 rfl ?_
    refine w_iconst dX8_worked_35 ?_
    refine w_icmp_eq (tgt := 45) dX8_worked_36 (by decide) (zw_zg _ _ _) zq_1 (fun q => ?_) (fun q => ?_)
    · have h := h.1 q
      exact w_fgt (fgk (fgk (fgd (fgk (fgk (fgk (fgk (fgn)))))))) h
    · have h := h.2 q
      refine w_iload dX8_worked_39 rfl ?_
      refine w_iconst dX8_worked_41 ?_
      refine w_icmp_ne (tgt := 86) dX8_worked_42 (by decide) (zw_zg _ _ _) zq_2 (fun q => ?_) (fun q => ?_)
      · have h := h.2 q
        refine w_iload dX8_worked_86 rfl ?_
        refine w_iconst dX8_worked_88 ?_
        refine w_icmp_ne (tgt := 121) dX8_worked_89 (by decide) (zw_zg _ _ _) zq_3 (fun q => ?_) (fun q => ?_)
        · have h := h.2 q
          refine w_iload dX8_worked_121 rfl ?_
          refine w_iconst dX8_worked_123 ?_
          refine w_icmp_ne (tgt := 149) dX8_worked_124 (by decide) (zw_zg _ _ _) zq_4 (fun q => ?_) (fun q => ?_)
          · have h := h.2 q
            refine w_iinc dX8_worked_149 rfl rfl ?_
            refine w_aload_n dX8_worked_152 rfl ?_
            refine w_gfA (ci := 8) (k := 30) dX8_worked_153 f8_69 ob_1280 rfl ?_
            refine w_iload dX8_worked_156 rfl ?_
            refine w_iconst dX8_worked_158 ?_
            refine w_isub dX8_worked_159 ?_
            refine w_iload dX8_worked_160 rfl ?_
            refine w_aload_n dX8_worked_162 rfl ?_
            refine w_gfA (ci := 8) (k := 30) dX8_worked_163 f8_69 ob_1280 rfl ?_
            refine w_iload dX8_worked_166 rfl ?_
            refine w_iconst dX8_worked_168 ?_
            refine w_isub dX8_worked_169 ?_
            obtain ⟨c3, h⟩ := h
            obtain ⟨c4, h⟩ := h
            refine w_iald dX8_worked_170 rfl (a8_30 ob_1280) c3 c4 ?_
            refine w_aload_n dX8_worked_171 rfl ?_
            refine w_gfA (ci := 8) (k := 30) dX8_worked_172 f8_69 ob_1280 rfl ?_
            refine w_iload dX8_worked_175 rfl ?_
            obtain ⟨c5, h⟩ := h
            obtain ⟨c6, h⟩ := h
            refine w_iald dX8_worked_177 rfl (a8_30 ob_1280) c5 c6 ?_
            refine w_invSi [_, _, _] dX8_worked_178 l8_238 kX8_twoOf rfl rfl (Nat.le_of_ble_eq_true rfl) (Or.inl rfl) h (fun r7 M8 h => ?_)
            obtain ⟨c9, h⟩ := h
            obtain ⟨c10, h⟩ := h
            have h := h _ rfl
            refine w_iast dX8_worked_181 rfl (a8_30 ob_1280) c9 c10 ?_
            refine w_iinc dX8_worked_182 rfl rfl ?_
            refine w_goto (tgt := 12) dX8_worked_185 (by decide) ?_
            exact w_fgt (fgk (fgk (fgd (fgk (fgk (fgk (fgd (fgn)))))))) h
          · have h := h.1 q
            refine w_aload_n dX8_worked_127 rfl ?_
            refine w_gfA (ci := 8) (k := 30) dX8_worked_128 f8_69 ob_1280 rfl ?_
            refine w_iload dX8_worked_131 rfl ?_
            refine w_iconst dX8_worked_133 ?_
            refine w_isub dX8_worked_134 ?_
            refine w_aload_n dX8_worked_135 rfl ?_
            refine w_gfA (ci := 8) (k := 30) dX8_worked_136 f8_69 ob_1280 rfl ?_
            refine w_iload dX8_worked_139 rfl ?_
            refine w_iconst dX8_worked_141 ?_
            refine w_isub dX8_worked_142 ?_
            obtain ⟨c12, h⟩ := h
            obtain ⟨c13, h⟩ := h
            refine w_iald dX8_worked_143 rfl (a8_30 ob_1280) c12 c13 ?_
            refine w_ineg dX8_worked_144 ?_
            obtain ⟨c14, h⟩ := h
            obtain ⟨c15, h⟩ := h
            have h := h _ rfl
            refine w_iast dX8_worked_145 rfl (a8_30 ob_1280) c14 c15 ?_
            refine w_goto (tgt := 182) dX8_worked_146 (by decide) ?_
            refine w_iinc dX8_worked_182 rfl rfl ?_
            refine w_goto (tgt := 12) dX8_worked_185 (by decide) ?_
            exact w_fgt (fgk (fgk (fgd (fgk (fgk (fgk (fgd (fgn)))))))) h
        · have h := h.1 q
          refine w_aload_n dX8_worked_92 rfl ?_
          refine w_gfA (ci := 8) (k := 30) dX8_worked_93 f8_69 ob_1280 rfl ?_
          refine w_iload dX8_worked_96 rfl ?_
          refine w_iconst dX8_worked_98 ?_
          refine w_isub dX8_worked_99 ?_
          refine w_aload_n dX8_worked_100 rfl ?_
          refine w_gfA (ci := 8) (k := 30) dX8_worked_101 f8_69 ob_1280 rfl ?_
          refine w_iload dX8_worked_104 rfl ?_
          refine w_iconst dX8_worked_106 ?_
          refine w_isub dX8_worked_107 ?_
          obtain ⟨c17, h⟩ := h
          obtain ⟨c18, h⟩ := h
          refine w_iald dX8_worked_108 rfl (a8_30 ob_1280) c17 c18 ?_
          refine w_if_ne (tgt := 116) dX8_worked_109 (by decide) (zw_zg _ _ _) (fun q => ?_) (fun q => ?_)
          · have h := h.2 q
            refine w_iconst dX8_worked_116 ?_
            obtain ⟨c19, h⟩ := h
            obtain ⟨c20, h⟩ := h
            have h := h _ rfl
            refine w_iast dX8_worked_117 rfl (a8_30 ob_1280) c19 c20 ?_
            refine w_goto (tgt := 182) dX8_worked_118 (by decide) ?_
            refine w_iinc dX8_worked_182 rfl rfl ?_
            refine w_goto (tgt := 12) dX8_worked_185 (by decide) ?_
            exact w_fgt (fgk (fgk (fgd (fgk (fgk (fgk (fgd (fgn)))))))) h
          · have h := h.1 q
            refine w_iconst dX8_worked_112 ?_
            refine w_goto (tgt := 117) dX8_worked_113 (by decide) ?_
            obtain ⟨c22, h⟩ := h
            obtain ⟨c23, h⟩ := h
            have h := h _ rfl
            refine w_iast dX8_worked_117 rfl (a8_30 ob_1280) c22 c23 ?_
            refine w_goto (tgt := 182) dX8_worked_118 (by decide) ?_
            refine w_iinc dX8_worked_182 rfl rfl ?_
            refine w_goto (tgt := 12) dX8_worked_185 (by decide) ?_
            exact w_fgt (fgk (fgk (fgd (fgk (fgk (fgk (fgd (fgn)))))))) h
      · have h := h.1 q
        exact w_fgt (fgk (fgk (fgd (fgk (fgk (fgk (fgk (fgn)))))))) h
theorem v_X8_worked_45 {E : zE} {Q : Int → zM → Prop} {M : zM} (v1 : Int) (v3 : Int) (v4 : Int) (v5 : Int) (v6 : Int)  (h : (zw v6 = 1 → ((0 ≤ zw v5) ∧ ((zw v5 < 260) ∧ ((0 ≤ zw v4) ∧ ((zw v4 < 130) ∧ (∀ M12 : zM, M12 = zs M 1311 (zw v4).toNat (zg M 1306 (zw v5).toNat) → (wp E 8 cX8_worked (some .int) Q 12 [some (.ref 1280), some (zI v1), none, some (zI v3), some (zI (v4 + 1)), some (zI (v5 + 1)), none] [] M12))))))) ∧ (¬ zw v6 = 1 → ((0 ≤ zw v5) ∧ ((zw v5 < 260) ∧ ((0 ≤ zg M 1306 (zw v5).toNat) ∧ ((zg M 1306 (zw v5).toNat < 6) ∧ ((0 ≤ zw v4) ∧ ((zw v4 < 130) ∧ (∀ M7 : zM, M7 = zs M 1311 (zw v4).toNat (zg M 1310 (zg M 1306 (zw v5).toNat).toNat) → (wp E 8 cX8_worked (some .int) Q 12 [some (.ref 1280), some (zI v1), none, some (zI v3), some (zI (v4 + 1)), some (zI (v5 + 1)), none] [] M7)))))))))) : wp E 8 cX8_worked (some .int) Q 45 [some (.ref 1280), some (zI v1), none, some (zI v3), some (zI v4), some (zI v5), some (zI v6)] [] M := by
  refine w_aload_n dX8_worked_45 rfl ?_
  refine w_gfA (ci := 8) (k := 30) dX8_worked_46 f8_69 ob_1280 rfl ?_
  refine w_iload dX8_worked_49 rfl ?_
  refine w_iload dX8_worked_51 rfl ?_
  refine w_iconst dX8_worked_53 ?_
  refine w_icmp_ne (tgt := 67) dX8_worked_54 (by decide) rfl zq_1 (fun q => ?_) (fun q => ?_)
  · have h := h.2 q
    refine w_aload_n dX8_worked_67 rfl ?_
    refine w_gfA (ci := 8) (k := 29) dX8_worked_68 f8_66 ob_1280 rfl ?_
    refine w_aload_n dX8_worked_71 rfl ?_
    refine w_gfA (ci := 8) (k := 25) dX8_worked_72 f8_53 ob_1280 rfl ?_
    refine w_iload dX8_worked_75 rfl ?_
    obtain ⟨c1, h⟩ := h
    obtain ⟨c2, h⟩ := h
    refine w_iald dX8_worked_77 rfl (a8_25 ob_1280) c1 c2 ?_
    obtain ⟨c3, h⟩ := h
    obtain ⟨c4, h⟩ := h
    refine w_iald dX8_worked_78 (zw_zg _ _ _) (a8_29 ob_1280) c3 c4 ?_
    obtain ⟨c5, h⟩ := h
    obtain ⟨c6, h⟩ := h
    have h := h _ rfl
    refine w_iast dX8_worked_79 rfl (a8_30 ob_1280) c5 c6 ?_
    refine w_iinc dX8_worked_80 rfl rfl ?_
    refine w_goto (tgt := 182) dX8_worked_83 (by decide) ?_
    refine w_iinc dX8_worked_182 rfl rfl ?_
    refine w_goto (tgt := 12) dX8_worked_185 (by decide) ?_
    exact w_fgt (fgk (fgk (fgd (fgk (fgk (fgk (fgd (fgn)))))))) h
  · have h := h.1 q
    refine w_aload_n dX8_worked_57 rfl ?_
    refine w_gfA (ci := 8) (k := 25) dX8_worked_58 f8_53 ob_1280 rfl ?_
    refine w_iload dX8_worked_61 rfl ?_
    obtain ⟨c8, h⟩ := h
    obtain ⟨c9, h⟩ := h
    refine w_iald dX8_worked_63 rfl (a8_25 ob_1280) c8 c9 ?_
    refine w_goto (tgt := 79) dX8_worked_64 (by decide) ?_
    obtain ⟨c10, h⟩ := h
    obtain ⟨c11, h⟩ := h
    have h := h _ rfl
    refine w_iast dX8_worked_79 rfl (a8_30 ob_1280) c10 c11 ?_
    refine w_iinc dX8_worked_80 rfl rfl ?_
    refine w_goto (tgt := 182) dX8_worked_83 (by decide) ?_
    refine w_iinc dX8_worked_182 rfl rfl ?_
    refine w_goto (tgt := 12) dX8_worked_185 (by decide) ?_
    exact w_fgt (fgk (fgk (fgd (fgk (fgk (fgk (fgd (fgn)))))))) h
theorem e_X8_gives {d : Nat} {Q : Int → zM → Prop} {M : zM} (v1 : Int) (h : wp (Ev d) 8 cX8_gives (some .int) Q 0 [some (.ref 1280), some (zI v1), none, none] [] M) : Ev (d + 1) mX8_gives [.ref 1280, zI v1] M Q := ⟨kX8_gives, Nat.le_of_ble_eq_true rfl, h⟩
theorem v_X8_gives_0 {E : zE} {Q : Int → zM → Prop} {M : zM} (v1 : Int)  (h : wp E 8 cX8_gives (some .int) Q 7 [some (.ref 1280), some (zI v1), some (zI 0), some (zI (61 * v1))] [] M) : wp E 8 cX8_gives (some .int) Q 0 [some (.ref 1280), some (zI v1), none, none] [] M := by
  refine w_iconst dX8_gives_0 ?_
  refine w_istore_n dX8_gives_1 (Nat.le_of_ble_eq_true rfl) rfl ?_
  refine w_bipush dX8_gives_2 (by decide) ?_
  refine w_iload_n dX8_gives_4 rfl ?_
  refine w_imul dX8_gives_5 ?_
  refine w_istore_n dX8_gives_6 (Nat.le_of_ble_eq_true rfl) rfl ?_
  exact w_fgt (fgk (fgk (fgk (fgk (fgn))))) h
theorem v_X8_gives_7 {E : zE} {Q : Int → zM → Prop} {M : zM} (v1 : Int) (v2 : Int) (v3 : Int)  (h : (0 ≤ zw v1) ∧ ((zw v1 < 2) ∧ ((zw v3 < zw ((61 * v1) + (zg M 1307 (zw v1).toNat)) → ((0 ≤ zw v3) ∧ ((zw v3 < 122) ∧ ((zg M 1308 (zw v3).toNat = zw v2 → (wp E 8 cX8_gives (some .int) Q 47 [some (.ref 1280), some (zI v1), none, some (zI v3)] [] M)) ∧ (¬ zg M 1308 (zw v3).toNat = zw v2 → ((0 ≤ zw v3) ∧ ((zw v3 < 122) ∧ (E mX8_worked [.ref 1280, zI v1, zI v2, zI (zg M 1308 (zw v3).toNat)] M (fun r7 M8 => (zw r7 = 0 → ((0 ≤ zw v3) ∧ ((zw v3 < 122) ∧ (wp E 8 cX8_gives (some .int) Q 7 [some (.ref 1280), some (zI v1), some (zI (zg M8 1309 (zw v3).toNat)), some (zI (v3 + 1))] [] M8)))) ∧ (¬ zw r7 = 0 → (wp E 8 cX8_gives (some .int) Q 47 [some (.ref 1280), some (zI v1), none, some (zI v3)] [] M8))))))))))) ∧ (¬ zw v3 < zw ((61 * v1) + (zg M 1307 (zw v1).toNat)) → (Q 0 M))))) : wp E 8 cX8_gives (some .int) Q 7 [some (.ref 1280), some (zI v1), some (zI v2), some (zI v3)] [] M := by
  refine w_iload_n dX8_gives_7 rfl ?_
  refine w_bipush dX8_gives_8 (by decide) ?_
  refine w_iload_n dX8_gives_10 rfl ?_
  refine w_imul dX8_gives_11 ?_
  refine w_aload_n dX8_gives_12 rfl ?_
  refine w_gfA (ci := 8) (k := 26) dX8_gives_13 f8_56 ob_1280 rfl ?_
  refine w_iload_n dX8_gives_16 rfl ?_
  obtain ⟨c1, h⟩ := h
  obtain ⟨c2, h⟩ := h
  refine w_iald dX8_gives_17 rfl (a8_26 ob_1280) c1 c2 ?_
  refine w_iadd dX8_gives_18 ?_
  refine w_icmp_ge (tgt := 78) dX8_gives_19 (by decide) rfl rfl (fun q => ?_) (fun q => ?_)
  · have h := h.2 q
    refine w_iconst dX8_gives_78 ?_
    exact w_ri rfl dX8_gives_79 zq_0 h
  · have h := h.1 q
    refine w_aload_n dX8_gives_22 rfl ?_
    refine w_gfA (ci := 8) (k := 27) dX8_gives_23 f8_59 ob_1280 rfl ?_
    refine w_iload_n dX8_gives_26 rfl ?_
    obtain ⟨c3, h⟩ := h
    obtain ⟨c4, h⟩ := h
    refine w_sald dX8_gives_27 rfl (a8_27 ob_1280) c3 c4 ?_
    refine w_iload_n dX8_gives_28 rfl ?_
    refine w_icmp_eq (tgt := 47) dX8_gives_29 (by decide) (zw_zg _ _ _) rfl (fun q => ?_) (fun q => ?_)
    · have h := h.1 q
      exact w_fgt (fgk (fgk (fgd (fgk (fgn))))) h
    · have h := h.2 q
      refine w_aload_n dX8_gives_32 rfl ?_
      refine w_iload_n dX8_gives_33 rfl ?_
      refine w_iload_n dX8_gives_34 rfl ?_
      refine w_aload_n dX8_gives_35 rfl ?_
      refine w_gfA (ci := 8) (k := 27) dX8_gives_36 f8_59 ob_1280 rfl ?_
      refine w_iload_n dX8_gives_39 rfl ?_
      obtain ⟨c5, h⟩ := h
      obtain ⟨c6, h⟩ := h
      refine w_sald dX8_gives_40 rfl (a8_27 ob_1280) c5 c6 ?_
      refine w_invVi [_, _, _] dX8_gives_41 l8_241 kX8_worked rfl rfl (Nat.le_of_ble_eq_true rfl) (Or.inl rfl) ob_1280 h (fun r7 M8 h => ?_)
      refine w_if_eq (tgt := 65) dX8_gives_44 (by decide) rfl (fun q => ?_) (fun q => ?_)
      · have h := h.1 q
        refine w_aload_n dX8_gives_65 rfl ?_
        refine w_gfA (ci := 8) (k := 28) dX8_gives_66 f8_63 ob_1280 rfl ?_
        refine w_iload_n dX8_gives_69 rfl ?_
        obtain ⟨c9, h⟩ := h
        obtain ⟨c10, h⟩ := h
        refine w_sald dX8_gives_70 rfl (a8_28 ob_1280) c9 c10 ?_
        refine w_istore_n dX8_gives_71 (Nat.le_of_ble_eq_true rfl) rfl ?_
        refine w_iinc dX8_gives_72 rfl rfl ?_
        refine w_goto (tgt := 7) dX8_gives_75 (by decide) ?_
        exact w_fgt (fgk (fgk (fgk (fgk (fgn))))) h
      · have h := h.2 q
        exact w_fgt (fgk (fgk (fgd (fgk (fgn))))) h
theorem v_X8_gives_47 {E : zE} {Q : Int → zM → Prop} {M : zM} (v1 : Int) (v3 : Int)  (h : (0 ≤ zw v3) ∧ ((zw v3 < 122) ∧ ((0 ≤ zw v3) ∧ ((zw v3 < 122) ∧ (E mX8_worked [.ref 1280, zI v1, zI (zg M 1308 (zw v3).toNat), zI (zg M 1309 (zw v3).toNat)] M (fun r5 M6 => Q (zw r5) M6)))))) : wp E 8 cX8_gives (some .int) Q 47 [some (.ref 1280), some (zI v1), none, some (zI v3)] [] M := by
  refine w_aload_n dX8_gives_47 rfl ?_
  refine w_iload_n dX8_gives_48 rfl ?_
  refine w_aload_n dX8_gives_49 rfl ?_
  refine w_gfA (ci := 8) (k := 27) dX8_gives_50 f8_59 ob_1280 rfl ?_
  refine w_iload_n dX8_gives_53 rfl ?_
  obtain ⟨c1, h⟩ := h
  obtain ⟨c2, h⟩ := h
  refine w_sald dX8_gives_54 rfl (a8_27 ob_1280) c1 c2 ?_
  refine w_aload_n dX8_gives_55 rfl ?_
  refine w_gfA (ci := 8) (k := 28) dX8_gives_56 f8_63 ob_1280 rfl ?_
  refine w_iload_n dX8_gives_59 rfl ?_
  obtain ⟨c3, h⟩ := h
  obtain ⟨c4, h⟩ := h
  refine w_sald dX8_gives_60 rfl (a8_28 ob_1280) c3 c4 ?_
  refine w_invVi [_, _, _] dX8_gives_61 l8_241 kX8_worked rfl rfl (Nat.le_of_ble_eq_true rfl) (Or.inl rfl) ob_1280 h (fun r5 M6 h => ?_)
  exact w_ri rfl dX8_gives_64 rfl h
theorem e_X8_law {d : Nat} {Q : Int → zM → Prop} {M : zM}  (h : wp (Ev d) 8 cX8_law (some .int) Q 0 [some (.ref 1280), none] [] M) : Ev (d + 1) mX8_law [.ref 1280] M Q := ⟨kX8_law, Nat.le_of_ble_eq_true rfl, h⟩
theorem v_X8_law_0 {E : zE} {Q : Int → zM → Prop} {M : zM}   (h : E mX8_readText [.ref 1280, zI 0] M (fun r1 M2 => (zw r1 < 0 → (∀ M3 : zM, M3 = zs M2 1280 31 1 → (Q 1 M3))) ∧ (¬ zw r1 < 0 → (Q (zw ((-100) - r1)) M2)))) : wp E 8 cX8_law (some .int) Q 0 [some (.ref 1280), none] [] M := by
  refine w_aload_n dX8_law_0 rfl ?_
  refine w_iconst dX8_law_1 ?_
  refine w_invVi [_] dX8_law_2 l8_244 kX8_readText rfl rfl (Nat.le_of_ble_eq_true rfl) (Or.inl rfl) ob_1280 h (fun r1 M2 h => ?_)
  refine w_istore_n dX8_law_5 (Nat.le_of_ble_eq_true rfl) rfl ?_
  refine w_iload_n dX8_law_6 rfl ?_
  refine w_if_lt (tgt := 15) dX8_law_7 (by decide) rfl (fun q => ?_) (fun q => ?_)
  · have h := h.1 q
    refine w_aload_n dX8_law_15 rfl ?_
    refine w_iconst dX8_law_16 ?_
    have h := h _ rfl
    refine w_pfZ (ci := 8) (k := 31) dX8_law_17 f8_247 ob_1280 rfl rfl rfl (by decide) ?_
    refine w_iconst dX8_law_20 ?_
    exact w_ri rfl dX8_law_21 zq_1 h
  · have h := h.2 q
    refine w_bipush dX8_law_10 (by decide) ?_
    refine w_iload_n dX8_law_12 rfl ?_
    refine w_isub dX8_law_13 ?_
    exact w_ri rfl dX8_law_14 rfl h
theorem e_X8_holdsFor {d : Nat} {Q : Int → zM → Prop} {M : zM} (v1 : Int) (v2 : Int) (v3 : Int) (v4 : Int) (h : wp (Ev d) 8 cX8_holdsFor (some .boolean) Q 0 [some (.ref 1280), some (zI v1), some (zI v2), some (zI v3), some (zI v4), none, none] [] M) : Ev (d + 1) mX8_holdsFor [.ref 1280, zI v1, zI v2, zI v3, zI v4] M Q := ⟨kX8_holdsFor, Nat.le_of_ble_eq_true rfl, h⟩
theorem v_X8_holdsFor_0 {E : zE} {Q : Int → zM → Prop} {M : zM} (v1 : Int) (v2 : Int) (v3 : Int) (v4 : Int)  (h : (0 ≤ zw v1) ∧ ((zw v1 < 12) ∧ ((zw v1 = zw v2 → (wp E 8 cX8_holdsFor (some .boolean) Q 21 [some (.ref 1280), none, some (zI v2), some (zI v3), some (zI v4), some (zI (v4 - (zg M 1283 (zw v1).toNat))), none] [zI 1] M)) ∧ (¬ zw v1 = zw v2 → (wp E 8 cX8_holdsFor (some .boolean) Q 21 [some (.ref 1280), none, some (zI v2), some (zI v3), some (zI v4), some (zI (v4 - (zg M 1283 (zw v1).toNat))), none] [zI 0] M))))) : wp E 8 cX8_holdsFor (some .boolean) Q 0 [some (.ref 1280), some (zI v1), some (zI v2), some (zI v3), some (zI v4), none, none] [] M := by
  refine w_iload dX8_holdsFor_0 rfl ?_
  refine w_aload_n dX8_holdsFor_2 rfl ?_
  refine w_gfA (ci := 8) (k := 2) dX8_holdsFor_3 f8_7 ob_1280 rfl ?_
  refine w_iload_n dX8_holdsFor_6 rfl ?_
  obtain ⟨c1, h⟩ := h
  obtain ⟨c2, h⟩ := h
  refine w_iald dX8_holdsFor_7 rfl (a8_2 ob_1280) c1 c2 ?_
  refine w_isub dX8_holdsFor_8 ?_
  refine w_istore dX8_holdsFor_9 (Nat.le_of_ble_eq_true rfl) rfl ?_
  refine w_iload_n dX8_holdsFor_11 rfl ?_
  refine w_iload_n dX8_holdsFor_12 rfl ?_
  refine w_icmp_ne (tgt := 20) dX8_holdsFor_13 (by decide) rfl rfl (fun q => ?_) (fun q => ?_)
  · have h := h.2 q
    refine w_iconst dX8_holdsFor_20 ?_
    exact w_fgt (fgk (fgd (fgk (fgk (fgk (fgk (fgd (fgn)))))))) h
  · have h := h.1 q
    refine w_iconst dX8_holdsFor_16 ?_
    refine w_goto (tgt := 21) dX8_holdsFor_17 (by decide) ?_
    exact w_fgt (fgk (fgd (fgk (fgk (fgk (fgk (fgd (fgn)))))))) h
theorem v_X8_holdsFor_21 {E : zE} {Q : Int → zM → Prop} {M : zM} (v2 : Int) (v3 : Int) (v4 : Int) (v5 : Int) (s0 : Int)  (h : (zg M 1280 31 = 0 → ((zw v5 < 80 → (Q 1 M)) ∧ (¬ zw v5 < 80 → ((zw s0 = 1 → (Q 1 M)) ∧ (¬ zw s0 = 1 → (Q 0 M)))))) ∧ (¬ zg M 1280 31 = 0 → (∀ M1 : zM, M1 = zs M 1310 0 v5 → ((0 ≤ zw v2) ∧ ((zw v2 < 12) ∧ ((zg M1 1284 (zw v2).toNat < zw v4 → ((0 ≤ zw v2) ∧ ((zw v2 < 12) ∧ (wp E 8 cX8_holdsFor (some .boolean) Q 86 [some (.ref 1280), none, none, some (zI v3), none, none, some (zI s0)] [zI (v4 - (zg M1 1284 (zw v2).toNat)), zI 1, .ref 1310] M1)))) ∧ (¬ zg M1 1284 (zw v2).toNat < zw v4 → (wp E 8 cX8_holdsFor (some .boolean) Q 86 [some (.ref 1280), none, none, some (zI v3), none, none, some (zI s0)] [zI 0, zI 1, .ref 1310] M1)))))))) : wp E 8 cX8_holdsFor (some .boolean) Q 21 [some (.ref 1280), none, some (zI v2), some (zI v3), some (zI v4), some (zI v5), none] [zI s0] M := by
  refine w_istore dX8_holdsFor_21 (Nat.le_of_ble_eq_true rfl) rfl ?_
  refine w_aload_n dX8_holdsFor_23 rfl ?_
  refine w_gfI (ci := 8) (k := 31) dX8_holdsFor_24 f8_247 ob_1280 rfl ?_
  refine w_if_ne (tgt := 49) dX8_holdsFor_27 (by decide) (zw_zg _ _ _) (fun q => ?_) (fun q => ?_)
  · have h := h.2 q
    refine w_aload_n dX8_holdsFor_49 rfl ?_
    refine w_gfA (ci := 8) (k := 29) dX8_holdsFor_50 f8_66 ob_1280 rfl ?_
    refine w_iconst dX8_holdsFor_53 ?_
    refine w_iload dX8_holdsFor_54 rfl ?_
    have h := h _ rfl
    refine w_iast dX8_holdsFor_56 zq_0 (a8_29 ob_1280) (by decide) (by decide) ?_
    refine w_aload_n dX8_holdsFor_57 rfl ?_
    refine w_gfA (ci := 8) (k := 29) dX8_holdsFor_58 f8_66 ob_1280 rfl ?_
    refine w_iconst dX8_holdsFor_61 ?_
    refine w_iload dX8_holdsFor_62 rfl ?_
    refine w_aload_n dX8_holdsFor_64 rfl ?_
    refine w_gfA (ci := 8) (k := 3) dX8_holdsFor_65 f8_13 ob_1280 rfl ?_
    refine w_iload_n dX8_holdsFor_68 rfl ?_
    obtain ⟨c2, h⟩ := h
    obtain ⟨c3, h⟩ := h
    refine w_iald dX8_holdsFor_69 rfl (a8_3 ob_1280) c2 c3 ?_
    refine w_icmp_le (tgt := 85) dX8_holdsFor_70 (by decide) rfl (zw_zg _ _ _) (fun q => ?_) (fun q => ?_)
    · have h := h.2 q
      refine w_iconst dX8_holdsFor_85 ?_
      exact w_fgt (fgk (fgd (fgd (fgk (fgd (fgd (fgk (fgn)))))))) h
    · have h := h.1 q
      refine w_iload dX8_holdsFor_73 rfl ?_
      refine w_aload_n dX8_holdsFor_75 rfl ?_
      refine w_gfA (ci := 8) (k := 3) dX8_holdsFor_76 f8_13 ob_1280 rfl ?_
      refine w_iload_n dX8_holdsFor_79 rfl ?_
      obtain ⟨c4, h⟩ := h
      obtain ⟨c5, h⟩ := h
      refine w_iald dX8_holdsFor_80 rfl (a8_3 ob_1280) c4 c5 ?_
      refine w_isub dX8_holdsFor_81 ?_
      refine w_goto (tgt := 86) dX8_holdsFor_82 (by decide) ?_
      exact w_fgt (fgk (fgd (fgd (fgk (fgd (fgd (fgk (fgn)))))))) h
  · have h := h.1 q
    refine w_iload dX8_holdsFor_30 rfl ?_
    refine w_bipush dX8_holdsFor_32 (by decide) ?_
    refine w_icmp_lt (tgt := 43) dX8_holdsFor_34 (by decide) rfl zq_80 (fun q => ?_) (fun q => ?_)
    · have h := h.1 q
      refine w_iconst dX8_holdsFor_43 ?_
      refine w_goto (tgt := 48) dX8_holdsFor_44 (by decide) ?_
      exact w_rz rfl dX8_holdsFor_48 zq_1 (by decide) h
    · have h := h.2 q
      refine w_iload dX8_holdsFor_37 rfl ?_
      refine w_iconst dX8_holdsFor_39 ?_
      refine w_icmp_ne (tgt := 47) dX8_holdsFor_40 (by decide) rfl zq_1 (fun q => ?_) (fun q => ?_)
      · have h := h.2 q
        refine w_iconst dX8_holdsFor_47 ?_
        exact w_rz rfl dX8_holdsFor_48 zq_0 (by decide) h
      · have h := h.1 q
        refine w_iconst dX8_holdsFor_43 ?_
        refine w_goto (tgt := 48) dX8_holdsFor_44 (by decide) ?_
        exact w_rz rfl dX8_holdsFor_48 zq_1 (by decide) h
theorem v_X8_holdsFor_86 {E : zE} {Q : Int → zM → Prop} {M : zM} (v3 : Int) (v6 : Int) (s0 : Int) (s1 : Int)  (h : (0 ≤ zw s1) ∧ ((zw s1 < 6) ∧ (∀ M3 : zM, M3 = zs M 1310 (zw s1).toNat s0 → ((0 ≤ zw v3) ∧ ((zw v3 < 12) ∧ (∀ M6 : zM, M6 = zs M3 1310 2 (zg M3 1292 (zw v3).toNat) → ((0 ≤ zw v3) ∧ ((zw v3 < 12) ∧ (∀ M9 : zM, M9 = zs M6 1310 3 (zg M6 1291 (zw v3).toNat) → (∀ M10 : zM, M10 = zs M9 1310 4 v6 → (∀ M11 : zM, M11 = zs M10 1310 5 v3 → (E mX8_gives [.ref 1280, zI 0] M11 (fun r12 M13 => (zw r12 = 0 → (Q 0 M13)) ∧ (¬ zw r12 = 0 → (Q 1 M13))))))))))))))) : wp E 8 cX8_holdsFor (some .boolean) Q 86 [some (.ref 1280), none, none, some (zI v3), none, none, some (zI v6)] [zI s0, zI s1, .ref 1310] M := by
  obtain ⟨c1, h⟩ := h
  obtain ⟨c2, h⟩ := h
  have h := h _ rfl
  refine w_iast dX8_holdsFor_86 rfl (a8_29 ob_1280) c1 c2 ?_
  refine w_aload_n dX8_holdsFor_87 rfl ?_
  refine w_gfA (ci := 8) (k := 29) dX8_holdsFor_88 f8_66 ob_1280 rfl ?_
  refine w_iconst dX8_holdsFor_91 ?_
  refine w_aload_n dX8_holdsFor_92 rfl ?_
  refine w_gfA (ci := 8) (k := 11) dX8_holdsFor_93 f8_31 ob_1280 rfl ?_
  refine w_iload_n dX8_holdsFor_96 rfl ?_
  obtain ⟨c4, h⟩ := h
  obtain ⟨c5, h⟩ := h
  refine w_iald dX8_holdsFor_97 rfl (a8_11 ob_1280) c4 c5 ?_
  have h := h _ rfl
  refine w_iast dX8_holdsFor_98 zq_2 (a8_29 ob_1280) (by decide) (by decide) ?_
  refine w_aload_n dX8_holdsFor_99 rfl ?_
  refine w_gfA (ci := 8) (k := 29) dX8_holdsFor_100 f8_66 ob_1280 rfl ?_
  refine w_iconst dX8_holdsFor_103 ?_
  refine w_aload_n dX8_holdsFor_104 rfl ?_
  refine w_gfA (ci := 8) (k := 10) dX8_holdsFor_105 f8_28 ob_1280 rfl ?_
  refine w_iload_n dX8_holdsFor_108 rfl ?_
  obtain ⟨c7, h⟩ := h
  obtain ⟨c8, h⟩ := h
  refine w_iald dX8_holdsFor_109 rfl (a8_10 ob_1280) c7 c8 ?_
  have h := h _ rfl
  refine w_iast dX8_holdsFor_110 zq_3 (a8_29 ob_1280) (by decide) (by decide) ?_
  refine w_aload_n dX8_holdsFor_111 rfl ?_
  refine w_gfA (ci := 8) (k := 29) dX8_holdsFor_112 f8_66 ob_1280 rfl ?_
  refine w_iconst dX8_holdsFor_115 ?_
  refine w_iload dX8_holdsFor_116 rfl ?_
  have h := h _ rfl
  refine w_iast dX8_holdsFor_118 zq_4 (a8_29 ob_1280) (by decide) (by decide) ?_
  refine w_aload_n dX8_holdsFor_119 rfl ?_
  refine w_gfA (ci := 8) (k := 29) dX8_holdsFor_120 f8_66 ob_1280 rfl ?_
  refine w_iconst dX8_holdsFor_123 ?_
  refine w_iload_n dX8_holdsFor_124 rfl ?_
  have h := h _ rfl
  refine w_iast dX8_holdsFor_125 zq_5 (a8_29 ob_1280) (by decide) (by decide) ?_
  refine w_aload_n dX8_holdsFor_126 rfl ?_
  refine w_iconst dX8_holdsFor_127 ?_
  refine w_invVi [_] dX8_holdsFor_128 l8_251 kX8_gives rfl rfl (Nat.le_of_ble_eq_true rfl) (Or.inl rfl) ob_1280 h (fun r12 M13 h => ?_)
  refine w_if_eq (tgt := 138) dX8_holdsFor_131 (by decide) rfl (fun q => ?_) (fun q => ?_)
  · have h := h.1 q
    refine w_iconst dX8_holdsFor_138 ?_
    exact w_rz rfl dX8_holdsFor_139 zq_0 (by decide) h
  · have h := h.2 q
    refine w_iconst dX8_holdsFor_134 ?_
    refine w_goto (tgt := 139) dX8_holdsFor_135 (by decide) ?_
    exact w_rz rfl dX8_holdsFor_139 zq_1 (by decide) h
theorem e_X8_findKnown {d : Nat} {Q : Int → zM → Prop} {M : zM} (v1 : Int) (v2 : Int) (h : wp (Ev d) 8 cX8_findKnown (none) Q 0 [some (.ref 1280), some (zI v1), some (zI v2), none, none, none, none, none] [] M) : Ev (d + 1) mX8_findKnown [.ref 1280, zI v1, zI v2] M Q := ⟨kX8_findKnown, Nat.le_of_ble_eq_true rfl, h⟩
theorem v_X8_findKnown_0 {E : zE} {Q : Int → zM → Prop} {M : zM} (v1 : Int) (v2 : Int)  (h : wp E 8 cX8_findKnown (none) Q 2 [some (.ref 1280), some (zI v1), some (zI v2), some (zI 0), none, none, none, none] [] M) : wp E 8 cX8_findKnown (none) Q 0 [some (.ref 1280), some (zI v1), some (zI v2), none, none, none, none, none] [] M := by
  refine w_iconst dX8_findKnown_0 ?_
  refine w_istore_n dX8_findKnown_1 (Nat.le_of_ble_eq_true rfl) rfl ?_
  exact w_fgt (fgk (fgk (fgk (fgk (fgd (fgd (fgd (fgd (fgn))))))))) h
theorem v_X8_findKnown_2 {E : zE} {Q : Int → zM → Prop} {M : zM} (v1 : Int) (v2 : Int) (v3 : Int)  (h : (zw v3 < zg M 1280 1 → ((0 ≤ zw v3) ∧ ((zw v3 < 12) ∧ (∀ M3 : zM, M3 = zs M 1313 (zw v3).toNat (z_shl 1 v3) → (wp E 8 cX8_findKnown (none) Q 2 [some (.ref 1280), some (zI v1), some (zI v2), some (zI (v3 + 1)), none, none, none, none] [] M3))))) ∧ (¬ zw v3 < zg M 1280 1 → (wp E 8 cX8_findKnown (none) Q 27 [some (.ref 1280), some (zI v1), some (zI v2), some (zI 0), none, none, none, none] [] M))) : wp E 8 cX8_findKnown (none) Q 2 [some (.ref 1280), some (zI v1), some (zI v2), some (zI v3), none, none, none, none] [] M := by
  refine w_iload_n dX8_findKnown_2 rfl ?_
  refine w_aload_n dX8_findKnown_3 rfl ?_
  refine w_gfI (ci := 8) (k := 1) dX8_findKnown_4 f8_111 ob_1280 rfl ?_
  refine w_icmp_ge (tgt := 25) dX8_findKnown_7 (by decide) rfl (zw_zg _ _ _) (fun q => ?_) (fun q => ?_)
  · have h := h.2 q
    refine w_iconst dX8_findKnown_25 ?_
    refine w_istore_n dX8_findKnown_26 (Nat.le_of_ble_eq_true rfl) rfl ?_
    exact w_fgt (fgk (fgk (fgk (fgk (fgd (fgd (fgd (fgd (fgn))))))))) h
  · have h := h.1 q
    refine w_aload_n dX8_findKnown_10 rfl ?_
    refine w_gfA (ci := 8) (k := 32) dX8_findKnown_11 f8_72 ob_1280 rfl ?_
    refine w_iload_n dX8_findKnown_14 rfl ?_
    refine w_iconst dX8_findKnown_15 ?_
    refine w_iload_n dX8_findKnown_16 rfl ?_
    refine w_ishl dX8_findKnown_17 ?_
    obtain ⟨c1, h⟩ := h
    obtain ⟨c2, h⟩ := h
    have h := h _ rfl
    refine w_iast dX8_findKnown_18 rfl (a8_32 ob_1280) c1 c2 ?_
    refine w_iinc dX8_findKnown_19 rfl rfl ?_
    refine w_goto (tgt := 2) dX8_findKnown_22 (by decide) ?_
    exact w_fgt (fgk (fgk (fgk (fgk (fgd (fgd (fgd (fgd (fgn))))))))) h
theorem v_X8_findKnown_27 {E : zE} {Q : Int → zM → Prop} {M : zM} (v1 : Int) (v2 : Int) (v3 : Int)  (h : (zw v3 < zg M 1280 5 → ((0 ≤ zw v3) ∧ ((zw v3 < 16) ∧ ((zw v1 < zg M 1289 (zw v3).toNat → ((0 ≤ zw v3) ∧ ((zw v3 < 16) ∧ (∀ M5 : zM, M5 = zs M 1314 (zw v3).toNat (z_z 1) → (wp E 8 cX8_findKnown (none) Q 27 [some (.ref 1280), some (zI v1), some (zI v2), some (zI (v3 + 1)), none, none, none, none] [] M5))))) ∧ (¬ zw v1 < zg M 1289 (zw v3).toNat → ((z_and (z_shr v2 v3) 1 = 1 → ((0 ≤ zw v3) ∧ ((zw v3 < 16) ∧ (∀ M8 : zM, M8 = zs M 1314 (zw v3).toNat (z_z 1) → (wp E 8 cX8_findKnown (none) Q 27 [some (.ref 1280), some (zI v1), some (zI v2), some (zI (v3 + 1)), none, none, none, none] [] M8))))) ∧ (¬ z_and (z_shr v2 v3) 1 = 1 → (E mX8_counts [.ref 1280, zI v3] M (fun r9 M10 => (zw r9 = 0 → ((0 ≤ zw v3) ∧ ((zw v3 < 16) ∧ (∀ M16 : zM, M16 = zs M10 1314 (zw v3).toNat (z_z 1) → (wp E 8 cX8_findKnown (none) Q 27 [some (.ref 1280), some (zI v1), some (zI v2), some (zI (v3 + 1)), none, none, none, none] [] M16))))) ∧ (¬ zw r9 = 0 → ((0 ≤ zw v3) ∧ ((zw v3 < 16) ∧ (∀ M13 : zM, M13 = zs M10 1314 (zw v3).toNat (z_z 0) → (wp E 8 cX8_findKnown (none) Q 27 [some (.ref 1280), some (zI v1), some (zI v2), some (zI (v3 + 1)), none, none, none, none] [] M13)))))))))))))) ∧ (¬ zw v3 < zg M 1280 5 → (wp E 8 cX8_findKnown (none) Q 81 [some (.ref 1280), none, none, some (zI 1), none, none, none, none] [] M))) : wp E 8 cX8_findKnown (none) Q 27 [some (.ref 1280), some (zI v1), some (zI v2), some (zI v3), none, none, none, none] [] M := by
  refine w_iload_n dX8_findKnown_27 rfl ?_
  refine w_aload_n dX8_findKnown_28 rfl ?_
  refine w_gfI (ci := 8) (k := 5) dX8_findKnown_29 f8_141 ob_1280 rfl ?_
  refine w_icmp_ge (tgt := 79) dX8_findKnown_32 (by decide) rfl (zw_zg _ _ _) (fun q => ?_) (fun q => ?_)
  · have h := h.2 q
    refine w_iconst dX8_findKnown_79 ?_
    refine w_istore_n dX8_findKnown_80 (Nat.le_of_ble_eq_true rfl) rfl ?_
    exact w_fgt (fgk (fgd (fgd (fgk (fgd (fgd (fgd (fgd (fgn))))))))) h
  · have h := h.1 q
    refine w_aload_n dX8_findKnown_35 rfl ?_
    refine w_gfA (ci := 8) (k := 33) dX8_findKnown_36 f8_75 ob_1280 rfl ?_
    refine w_iload_n dX8_findKnown_39 rfl ?_
    refine w_aload_n dX8_findKnown_40 rfl ?_
    refine w_gfA (ci := 8) (k := 8) dX8_findKnown_41 f8_25 ob_1280 rfl ?_
    refine w_iload_n dX8_findKnown_44 rfl ?_
    obtain ⟨c1, h⟩ := h
    obtain ⟨c2, h⟩ := h
    refine w_iald dX8_findKnown_45 rfl (a8_8 ob_1280) c1 c2 ?_
    refine w_iload_n dX8_findKnown_46 rfl ?_
    refine w_icmp_gt (tgt := 67) dX8_findKnown_47 (by decide) (zw_zg _ _ _) rfl (fun q => ?_) (fun q => ?_)
    · have h := h.1 q
      refine w_iconst dX8_findKnown_67 ?_
      refine w_goto (tgt := 72) dX8_findKnown_68 (by decide) ?_
      obtain ⟨c3, h⟩ := h
      obtain ⟨c4, h⟩ := h
      have h := h _ rfl
      refine w_zast dX8_findKnown_72 rfl (a8_33 ob_1280) c3 c4 ?_
      refine w_iinc dX8_findKnown_73 rfl rfl ?_
      refine w_goto (tgt := 27) dX8_findKnown_76 (by decide) ?_
      exact w_fgt (fgk (fgk (fgk (fgk (fgd (fgd (fgd (fgd (fgn))))))))) h
    · have h := h.2 q
      refine w_iload_n dX8_findKnown_50 rfl ?_
      refine w_iload_n dX8_findKnown_51 rfl ?_
      refine w_ishr dX8_findKnown_52 ?_
      refine w_iconst dX8_findKnown_53 ?_
      refine w_iand dX8_findKnown_54 ?_
      refine w_iconst dX8_findKnown_55 ?_
      refine w_icmp_eq (tgt := 67) dX8_findKnown_56 (by decide) (zx_and _ _) zq_1 (fun q => ?_) (fun q => ?_)
      · have h := h.1 q
        refine w_iconst dX8_findKnown_67 ?_
        refine w_goto (tgt := 72) dX8_findKnown_68 (by decide) ?_
        obtain ⟨c6, h⟩ := h
        obtain ⟨c7, h⟩ := h
        have h := h _ rfl
        refine w_zast dX8_findKnown_72 rfl (a8_33 ob_1280) c6 c7 ?_
        refine w_iinc dX8_findKnown_73 rfl rfl ?_
        refine w_goto (tgt := 27) dX8_findKnown_76 (by decide) ?_
        exact w_fgt (fgk (fgk (fgk (fgk (fgd (fgd (fgd (fgd (fgn))))))))) h
      · have h := h.2 q
        refine w_aload_n dX8_findKnown_59 rfl ?_
        refine w_iload_n dX8_findKnown_60 rfl ?_
        refine w_invVi [_] dX8_findKnown_61 l8_178 kX8_counts rfl rfl (Nat.le_of_ble_eq_true rfl) (Or.inr rfl) ob_1280 h (fun r9 M10 h => ?_)
        refine w_if_ne (tgt := 71) dX8_findKnown_64 (by decide) rfl (fun q => ?_) (fun q => ?_)
        · have h := h.2 q
          refine w_iconst dX8_findKnown_71 ?_
          obtain ⟨c11, h⟩ := h
          obtain ⟨c12, h⟩ := h
          have h := h _ rfl
          refine w_zast dX8_findKnown_72 rfl (a8_33 ob_1280) c11 c12 ?_
          refine w_iinc dX8_findKnown_73 rfl rfl ?_
          refine w_goto (tgt := 27) dX8_findKnown_76 (by decide) ?_
          exact w_fgt (fgk (fgk (fgk (fgk (fgd (fgd (fgd (fgd (fgn))))))))) h
        · have h := h.1 q
          refine w_iconst dX8_findKnown_67 ?_
          refine w_goto (tgt := 72) dX8_findKnown_68 (by decide) ?_
          obtain ⟨c14, h⟩ := h
          obtain ⟨c15, h⟩ := h
          have h := h _ rfl
          refine w_zast dX8_findKnown_72 rfl (a8_33 ob_1280) c14 c15 ?_
          refine w_iinc dX8_findKnown_73 rfl rfl ?_
          refine w_goto (tgt := 27) dX8_findKnown_76 (by decide) ?_
          exact w_fgt (fgk (fgk (fgk (fgk (fgd (fgd (fgd (fgd (fgn))))))))) h
theorem v_X8_findKnown_81 {E : zE} {Q : Int → zM → Prop} {M : zM} (v3 : Int)  (h : (zw v3 = 0 → (Q 0 M)) ∧ (¬ zw v3 = 0 → (wp E 8 cX8_findKnown (none) Q 91 [some (.ref 1280), none, none, none, some (zI (-1)), some (zI 0), none, none] [] M))) : wp E 8 cX8_findKnown (none) Q 81 [some (.ref 1280), none, none, some (zI v3), none, none, none, none] [] M := by
  refine w_iload_n dX8_findKnown_81 rfl ?_
  refine w_if_eq (tgt := 260) dX8_findKnown_82 (by decide) rfl (fun q => ?_) (fun q => ?_)
  · have h := h.1 q
    exact w_rv rfl dX8_findKnown_260 h
  · have h := h.2 q
    refine w_iconst dX8_findKnown_85 ?_
    refine w_istore dX8_findKnown_86 (Nat.le_of_ble_eq_true rfl) rfl ?_
    refine w_iconst dX8_findKnown_88 ?_
    refine w_istore dX8_findKnown_89 (Nat.le_of_ble_eq_true rfl) rfl ?_
    exact w_fgt (fgk (fgd (fgd (fgd (fgk (fgk (fgd (fgd (fgn))))))))) h
theorem v_X8_findKnown_91 {E : zE} {Q : Int → zM → Prop} {M : zM} (v4 : Int) (v5 : Int)  (h : (zw v5 < zg M 1280 5 → ((0 ≤ zw v5) ∧ ((zw v5 < 16) ∧ ((zg M 1314 (zw v5).toNat = 0 → ((zw v4 < 0 → (wp E 8 cX8_findKnown (none) Q 91 [some (.ref 1280), none, none, none, some (zI v5), some (zI (v5 + 1)), none, none] [] M)) ∧ (¬ zw v4 < 0 → ((0 ≤ zw v5) ∧ ((zw v5 < 16) ∧ ((0 ≤ zw v4) ∧ ((zw v4 < 16) ∧ ((zg M 1289 (zw v5).toNat < zg M 1289 (zw v4).toNat → (wp E 8 cX8_findKnown (none) Q 91 [some (.ref 1280), none, none, none, some (zI v5), some (zI (v5 + 1)), none, none] [] M)) ∧ (¬ zg M 1289 (zw v5).toNat < zg M 1289 (zw v4).toNat → (wp E 8 cX8_findKnown (none) Q 91 [some (.ref 1280), none, none, none, some (zI v4), some (zI (v5 + 1)), none, none] [] M)))))))))) ∧ (¬ zg M 1314 (zw v5).toNat = 0 → (wp E 8 cX8_findKnown (none) Q 91 [some (.ref 1280), none, none, none, some (zI v4), some (zI (v5 + 1)), none, none] [] M)))))) ∧ (¬ zw v5 < zg M 1280 5 → ((zw v4 < 0 → (wp E 8 cX8_findKnown (none) Q 152 [some (.ref 1280), none, none, none, some (zI v4), none, none, none] [zI 0] M)) ∧ (¬ zw v4 < 0 → (wp E 8 cX8_findKnown (none) Q 152 [some (.ref 1280), none, none, none, some (zI v4), none, none, none] [zI 1] M))))) : wp E 8 cX8_findKnown (none) Q 91 [some (.ref 1280), none, none, none, some (zI v4), some (zI v5), none, none] [] M := by
  refine w_iload dX8_findKnown_91 rfl ?_
  refine w_aload_n dX8_findKnown_93 rfl ?_
  refine w_gfI (ci := 8) (k := 5) dX8_findKnown_94 f8_141 ob_1280 rfl ?_
  refine w_icmp_ge (tgt := 142) dX8_findKnown_97 (by decide) rfl (zw_zg _ _ _) (fun q => ?_) (fun q => ?_)
  · have h := h.2 q
    refine w_iload dX8_findKnown_142 rfl ?_
    refine w_if_lt (tgt := 151) dX8_findKnown_144 (by decide) rfl (fun q => ?_) (fun q => ?_)
    · have h := h.1 q
      refine w_iconst dX8_findKnown_151 ?_
      exact w_fgt (fgk (fgd (fgd (fgd (fgk (fgd (fgd (fgd (fgn))))))))) h
    · have h := h.2 q
      refine w_iconst dX8_findKnown_147 ?_
      refine w_goto (tgt := 152) dX8_findKnown_148 (by decide) ?_
      exact w_fgt (fgk (fgd (fgd (fgd (fgk (fgd (fgd (fgd (fgn))))))))) h
  · have h := h.1 q
    refine w_aload_n dX8_findKnown_100 rfl ?_
    refine w_gfA (ci := 8) (k := 33) dX8_findKnown_101 f8_75 ob_1280 rfl ?_
    refine w_iload dX8_findKnown_104 rfl ?_
    obtain ⟨c1, h⟩ := h
    obtain ⟨c2, h⟩ := h
    refine w_zald dX8_findKnown_106 rfl (a8_33 ob_1280) c1 c2 ?_
    refine w_if_ne (tgt := 136) dX8_findKnown_107 (by decide) (zw_zg _ _ _) (fun q => ?_) (fun q => ?_)
    · have h := h.2 q
      refine w_iinc dX8_findKnown_136 rfl rfl ?_
      refine w_goto (tgt := 91) dX8_findKnown_139 (by decide) ?_
      exact w_fgt (fgk (fgd (fgd (fgd (fgk (fgk (fgd (fgd (fgn))))))))) h
    · have h := h.1 q
      refine w_iload dX8_findKnown_110 rfl ?_
      refine w_if_lt (tgt := 132) dX8_findKnown_112 (by decide) rfl (fun q => ?_) (fun q => ?_)
      · have h := h.1 q
        refine w_iload dX8_findKnown_132 rfl ?_
        refine w_istore dX8_findKnown_134 (Nat.le_of_ble_eq_true rfl) rfl ?_
        refine w_iinc dX8_findKnown_136 rfl rfl ?_
        refine w_goto (tgt := 91) dX8_findKnown_139 (by decide) ?_
        exact w_fgt (fgk (fgd (fgd (fgd (fgk (fgk (fgd (fgd (fgn))))))))) h
      · have h := h.2 q
        refine w_aload_n dX8_findKnown_115 rfl ?_
        refine w_gfA (ci := 8) (k := 8) dX8_findKnown_116 f8_25 ob_1280 rfl ?_
        refine w_iload dX8_findKnown_119 rfl ?_
        obtain ⟨c3, h⟩ := h
        obtain ⟨c4, h⟩ := h
        refine w_iald dX8_findKnown_121 rfl (a8_8 ob_1280) c3 c4 ?_
        refine w_aload_n dX8_findKnown_122 rfl ?_
        refine w_gfA (ci := 8) (k := 8) dX8_findKnown_123 f8_25 ob_1280 rfl ?_
        refine w_iload dX8_findKnown_126 rfl ?_
        obtain ⟨c5, h⟩ := h
        obtain ⟨c6, h⟩ := h
        refine w_iald dX8_findKnown_128 rfl (a8_8 ob_1280) c5 c6 ?_
        refine w_icmp_ge (tgt := 136) dX8_findKnown_129 (by decide) (zw_zg _ _ _) (zw_zg _ _ _) (fun q => ?_) (fun q => ?_)
        · have h := h.2 q
          refine w_iinc dX8_findKnown_136 rfl rfl ?_
          refine w_goto (tgt := 91) dX8_findKnown_139 (by decide) ?_
          exact w_fgt (fgk (fgd (fgd (fgd (fgk (fgk (fgd (fgd (fgn))))))))) h
        · have h := h.1 q
          refine w_iload dX8_findKnown_132 rfl ?_
          refine w_istore dX8_findKnown_134 (Nat.le_of_ble_eq_true rfl) rfl ?_
          refine w_iinc dX8_findKnown_136 rfl rfl ?_
          refine w_goto (tgt := 91) dX8_findKnown_139 (by decide) ?_
          exact w_fgt (fgk (fgd (fgd (fgd (fgk (fgk (fgd (fgd (fgn))))))))) h
theorem v_X8_findKnown_152 {E : zE} {Q : Int → zM → Prop} {M : zM} (v4 : Int) (s0 : Int)  (h : (zw s0 = 0 → (wp E 8 cX8_findKnown (none) Q 81 [some (.ref 1280), none, none, some (zI s0), none, none, none, none] [] M)) ∧ (¬ zw s0 = 0 → ((0 ≤ zw v4) ∧ ((zw v4 < 16) ∧ (∀ M3 : zM, M3 = zs M 1314 (zw v4).toNat (z_z 1) → ((0 ≤ zw v4) ∧ ((zw v4 < 16) ∧ ((0 ≤ zw v4) ∧ ((zw v4 < 16) ∧ ((0 ≤ zg M3 1287 (zw v4).toNat) ∧ ((zg M3 1287 (zw v4).toNat < 12) ∧ ((0 ≤ zg M3 1288 (zw v4).toNat) ∧ ((zg M3 1288 (zw v4).toNat < 12) ∧ ((0 ≤ zg M3 1287 (zw v4).toNat) ∧ ((zg M3 1287 (zw v4).toNat < 12) ∧ ((zg M3 1280 9 = 1 → (wp E 8 cX8_findKnown (none) Q 228 [some (.ref 1280), none, none, some (zI s0), none, some (zI (zg M3 1287 (zw v4).toNat)), some (zI (zg M3 1288 (zw v4).toNat)), some (zI (z_or (zg M3 1313 (zg M3 1287 (zw v4).toNat).toNat) (zg M3 1313 (zg M3 1288 (zw v4).toNat).toNat)))] [zI (z_or (zg M3 1313 (zg M3 1287 (zw v4).toNat).toNat) (zg M3 1313 (zg M3 1288 (zw v4).toNat).toNat)), zI (zg M3 1313 (zg M3 1287 (zw v4).toNat).toNat), zI (zg M3 1287 (zw v4).toNat), .ref 1313] M3)) ∧ (¬ zg M3 1280 9 = 1 → (wp E 8 cX8_findKnown (none) Q 228 [some (.ref 1280), none, none, some (zI s0), none, some (zI (zg M3 1287 (zw v4).toNat)), some (zI (zg M3 1288 (zw v4).toNat)), some (zI (z_or (zg M3 1313 (zg M3 1287 (zw v4).toNat).toNat) (zg M3 1313 (zg M3 1288 (zw v4).toNat).toNat)))] [zI (z_shl 1 (zg M3 1288 (zw v4).toNat)), zI (zg M3 1313 (zg M3 1287 (zw v4).toNat).toNat), zI (zg M3 1287 (zw v4).toNat), .ref 1313] M3)))))))))))))))))) : wp E 8 cX8_findKnown (none) Q 152 [some (.ref 1280), none, none, none, some (zI v4), none, none, none] [zI s0] M := by
  refine w_istore_n dX8_findKnown_152 (Nat.le_of_ble_eq_true rfl) rfl ?_
  refine w_iload_n dX8_findKnown_153 rfl ?_
  refine w_if_ne (tgt := 160) dX8_findKnown_154 (by decide) rfl (fun q => ?_) (fun q => ?_)
  · have h := h.2 q
    refine w_aload_n dX8_findKnown_160 rfl ?_
    refine w_gfA (ci := 8) (k := 33) dX8_findKnown_161 f8_75 ob_1280 rfl ?_
    refine w_iload dX8_findKnown_164 rfl ?_
    refine w_iconst dX8_findKnown_166 ?_
    obtain ⟨c1, h⟩ := h
    obtain ⟨c2, h⟩ := h
    have h := h _ rfl
    refine w_zast dX8_findKnown_167 rfl (a8_33 ob_1280) c1 c2 ?_
    refine w_aload_n dX8_findKnown_168 rfl ?_
    refine w_gfA (ci := 8) (k := 6) dX8_findKnown_169 f8_19 ob_1280 rfl ?_
    refine w_iload dX8_findKnown_172 rfl ?_
    obtain ⟨c4, h⟩ := h
    obtain ⟨c5, h⟩ := h
    refine w_iald dX8_findKnown_174 rfl (a8_6 ob_1280) c4 c5 ?_
    refine w_istore dX8_findKnown_175 (Nat.le_of_ble_eq_true rfl) rfl ?_
    refine w_aload_n dX8_findKnown_177 rfl ?_
    refine w_gfA (ci := 8) (k := 7) dX8_findKnown_178 f8_22 ob_1280 rfl ?_
    refine w_iload dX8_findKnown_181 rfl ?_
    obtain ⟨c6, h⟩ := h
    obtain ⟨c7, h⟩ := h
    refine w_iald dX8_findKnown_183 rfl (a8_7 ob_1280) c6 c7 ?_
    refine w_istore dX8_findKnown_184 (Nat.le_of_ble_eq_true rfl) rfl ?_
    refine w_aload_n dX8_findKnown_186 rfl ?_
    refine w_gfA (ci := 8) (k := 32) dX8_findKnown_187 f8_72 ob_1280 rfl ?_
    refine w_iload dX8_findKnown_190 rfl ?_
    obtain ⟨c8, h⟩ := h
    obtain ⟨c9, h⟩ := h
    refine w_iald dX8_findKnown_192 (zw_zg _ _ _) (a8_32 ob_1280) c8 c9 ?_
    refine w_aload_n dX8_findKnown_193 rfl ?_
    refine w_gfA (ci := 8) (k := 32) dX8_findKnown_194 f8_72 ob_1280 rfl ?_
    refine w_iload dX8_findKnown_197 rfl ?_
    obtain ⟨c10, h⟩ := h
    obtain ⟨c11, h⟩ := h
    refine w_iald dX8_findKnown_199 (zw_zg _ _ _) (a8_32 ob_1280) c10 c11 ?_
    refine w_ior dX8_findKnown_200 ?_
    refine w_istore dX8_findKnown_201 (Nat.le_of_ble_eq_true rfl) rfl ?_
    refine w_aload_n dX8_findKnown_203 rfl ?_
    refine w_gfA (ci := 8) (k := 32) dX8_findKnown_204 f8_72 ob_1280 rfl ?_
    refine w_iload dX8_findKnown_207 rfl ?_
    refine w_dup2 dX8_findKnown_209 rfl rfl ?_
    obtain ⟨c12, h⟩ := h
    obtain ⟨c13, h⟩ := h
    refine w_iald dX8_findKnown_210 (zw_zg _ _ _) (a8_32 ob_1280) c12 c13 ?_
    refine w_aload_n dX8_findKnown_211 rfl ?_
    refine w_gfI (ci := 8) (k := 9) dX8_findKnown_212 f8_144 ob_1280 rfl ?_
    refine w_iconst dX8_findKnown_215 ?_
    refine w_icmp_ne (tgt := 224) dX8_findKnown_216 (by decide) (zw_zg _ _ _) zq_1 (fun q => ?_) (fun q => ?_)
    · have h := h.2 q
      refine w_iconst dX8_findKnown_224 ?_
      refine w_iload dX8_findKnown_225 rfl ?_
      refine w_ishl dX8_findKnown_227 ?_
      exact w_fgt (fgk (fgd (fgd (fgk (fgd (fgk (fgk (fgk (fgn))))))))) h
    · have h := h.1 q
      refine w_iload dX8_findKnown_219 rfl ?_
      refine w_goto (tgt := 228) dX8_findKnown_221 (by decide) ?_
      exact w_fgt (fgk (fgd (fgd (fgk (fgd (fgk (fgk (fgk (fgn))))))))) h
  · have h := h.1 q
    refine w_goto (tgt := 81) dX8_findKnown_157 (by decide) ?_
    exact w_fgt (fgk (fgd (fgd (fgk (fgd (fgd (fgd (fgd (fgn))))))))) h
theorem v_X8_findKnown_228 {E : zE} {Q : Int → zM → Prop} {M : zM} (v3 : Int) (v5 : Int) (v6 : Int) (v7 : Int) (s0 : Int) (s1 : Int) (s2 : Int)  (h : (0 ≤ zw s2) ∧ ((zw s2 < 12) ∧ (∀ M3 : zM, M3 = zs M 1313 (zw s2).toNat (z_or s1 s0) → ((0 ≤ zw v6) ∧ ((zw v6 < 12) ∧ ((zg M3 1280 9 = 1 → ((0 ≤ zw v6) ∧ ((zw v6 < 12) ∧ (∀ M11 : zM, M11 = zs M3 1313 (zw v6).toNat (z_or (zg M3 1313 (zw v6).toNat) v7) → (wp E 8 cX8_findKnown (none) Q 81 [some (.ref 1280), none, none, some (zI v3), none, none, none, none] [] M11))))) ∧ (¬ zg M3 1280 9 = 1 → ((0 ≤ zw v6) ∧ ((zw v6 < 12) ∧ (∀ M8 : zM, M8 = zs M3 1313 (zw v6).toNat (z_or (zg M3 1313 (zw v6).toNat) (z_shl 1 v5)) → (wp E 8 cX8_findKnown (none) Q 81 [some (.ref 1280), none, none, some (zI v3), none, none, none, none] [] M8))))))))))) : wp E 8 cX8_findKnown (none) Q 228 [some (.ref 1280), none, none, some (zI v3), none, some (zI v5), some (zI v6), some (zI v7)] [zI s0, zI s1, zI s2, .ref 1313] M := by
  refine w_ior dX8_findKnown_228 ?_
  obtain ⟨c1, h⟩ := h
  obtain ⟨c2, h⟩ := h
  have h := h _ rfl
  refine w_iast dX8_findKnown_229 rfl (a8_32 ob_1280) c1 c2 ?_
  refine w_aload_n dX8_findKnown_230 rfl ?_
  refine w_gfA (ci := 8) (k := 32) dX8_findKnown_231 f8_72 ob_1280 rfl ?_
  refine w_iload dX8_findKnown_234 rfl ?_
  refine w_dup2 dX8_findKnown_236 rfl rfl ?_
  obtain ⟨c4, h⟩ := h
  obtain ⟨c5, h⟩ := h
  refine w_iald dX8_findKnown_237 rfl (a8_32 ob_1280) c4 c5 ?_
  refine w_aload_n dX8_findKnown_238 rfl ?_
  refine w_gfI (ci := 8) (k := 9) dX8_findKnown_239 f8_144 ob_1280 rfl ?_
  refine w_iconst dX8_findKnown_242 ?_
  refine w_icmp_ne (tgt := 251) dX8_findKnown_243 (by decide) (zw_zg _ _ _) zq_1 (fun q => ?_) (fun q => ?_)
  · have h := h.2 q
    refine w_iconst dX8_findKnown_251 ?_
    refine w_iload dX8_findKnown_252 rfl ?_
    refine w_ishl dX8_findKnown_254 ?_
    refine w_ior dX8_findKnown_255 ?_
    obtain ⟨c6, h⟩ := h
    obtain ⟨c7, h⟩ := h
    have h := h _ rfl
    refine w_iast dX8_findKnown_256 rfl (a8_32 ob_1280) c6 c7 ?_
    refine w_goto (tgt := 81) dX8_findKnown_257 (by decide) ?_
    exact w_fgt (fgk (fgd (fgd (fgk (fgd (fgd (fgd (fgd (fgn))))))))) h
  · have h := h.1 q
    refine w_iload dX8_findKnown_246 rfl ?_
    refine w_goto (tgt := 255) dX8_findKnown_248 (by decide) ?_
    refine w_ior dX8_findKnown_255 ?_
    obtain ⟨c9, h⟩ := h
    obtain ⟨c10, h⟩ := h
    have h := h _ rfl
    refine w_iast dX8_findKnown_256 rfl (a8_32 ob_1280) c9 c10 ?_
    refine w_goto (tgt := 81) dX8_findKnown_257 (by decide) ?_
    exact w_fgt (fgk (fgd (fgd (fgk (fgd (fgd (fgd (fgd (fgn))))))))) h
theorem e_X8_knows {d : Nat} {Q : Int → zM → Prop} {M : zM} (v1 : Int) (v2 : Int) (h : wp (Ev d) 8 cX8_knows (some .int) Q 0 [some (.ref 1280), some (zI v1), some (zI v2)] [] M) : Ev (d + 1) mX8_knows [.ref 1280, zI v1, zI v2] M Q := ⟨kX8_knows, Nat.le_of_ble_eq_true rfl, h⟩
theorem v_X8_knows_0 {E : zE} {Q : Int → zM → Prop} {M : zM} (v1 : Int) (v2 : Int)  (h : E mX8_isPerson [.ref 1280, zI v1] M (fun r1 M2 => (zw r1 = 0 → (Q (-1) M2)) ∧ (¬ zw r1 = 0 → (E mX8_isYear [zI v2] M2 (fun r3 M4 => (zw r3 = 0 → (Q (-1) M4)) ∧ (¬ zw r3 = 0 → (E mX8_findKnown [.ref 1280, zI v2, zI 0] M4 (fun r5 M6 => (0 ≤ zw v1) ∧ ((zw v1 < 12) ∧ (Q (zg M6 1313 (zw v1).toNat) M6)))))))))) : wp E 8 cX8_knows (some .int) Q 0 [some (.ref 1280), some (zI v1), some (zI v2)] [] M := by
  refine w_aload_n dX8_knows_0 rfl ?_
  refine w_iload_n dX8_knows_1 rfl ?_
  refine w_invVi [_] dX8_knows_2 l8_135 kX8_isPerson rfl rfl (Nat.le_of_ble_eq_true rfl) (Or.inr rfl) ob_1280 h (fun r1 M2 h => ?_)
  refine w_if_eq (tgt := 15) dX8_knows_5 (by decide) rfl (fun q => ?_) (fun q => ?_)
  · have h := h.1 q
    refine w_iconst dX8_knows_15 ?_
    exact w_ri rfl dX8_knows_16 zq_m1 h
  · have h := h.2 q
    refine w_iload_n dX8_knows_8 rfl ?_
    refine w_invSi [_] dX8_knows_9 l8_118 kX8_isYear rfl rfl (Nat.le_of_ble_eq_true rfl) (Or.inr rfl) h (fun r3 M4 h => ?_)
    refine w_if_ne (tgt := 17) dX8_knows_12 (by decide) rfl (fun q => ?_) (fun q => ?_)
    · have h := h.2 q
      refine w_aload_n dX8_knows_17 rfl ?_
      refine w_iload_n dX8_knows_18 rfl ?_
      refine w_iconst dX8_knows_19 ?_
      refine w_invVv [_, _] dX8_knows_20 l8_254 kX8_findKnown rfl rfl (Nat.le_of_ble_eq_true rfl) rfl ob_1280 h (fun r5 M6 h => ?_)
      refine w_aload_n dX8_knows_23 rfl ?_
      refine w_gfA (ci := 8) (k := 32) dX8_knows_24 f8_72 ob_1280 rfl ?_
      refine w_iload_n dX8_knows_27 rfl ?_
      obtain ⟨c7, h⟩ := h
      obtain ⟨c8, h⟩ := h
      refine w_iald dX8_knows_28 rfl (a8_32 ob_1280) c7 c8 ?_
      exact w_ri rfl dX8_knows_29 (zw_zg _ _ _) h
    · have h := h.1 q
      refine w_iconst dX8_knows_15 ?_
      exact w_ri rfl dX8_knows_16 zq_m1 h
theorem e_X8_asNamed {d : Nat} {Q : Int → zM → Prop} {M : zM}  (h : wp (Ev d) 8 cX8_asNamed (none) Q 0 [some (.ref 1280), none] [] M) : Ev (d + 1) mX8_asNamed [.ref 1280] M Q := ⟨kX8_asNamed, Nat.le_of_ble_eq_true rfl, h⟩
theorem v_X8_asNamed_0 {E : zE} {Q : Int → zM → Prop} {M : zM}   (h : wp E 8 cX8_asNamed (none) Q 2 [some (.ref 1280), some (zI 0)] [] M) : wp E 8 cX8_asNamed (none) Q 0 [some (.ref 1280), none] [] M := by
  refine w_iconst dX8_asNamed_0 ?_
  refine w_istore_n dX8_asNamed_1 (Nat.le_of_ble_eq_true rfl) rfl ?_
  exact w_fgt (fgk (fgk (fgn))) h
theorem v_X8_asNamed_2 {E : zE} {Q : Int → zM → Prop} {M : zM} (v1 : Int)  (h : (zw v1 < 12 → ((zw v1 < zg M 1280 1 → ((0 ≤ zw v1) ∧ ((zw v1 < 12) ∧ ((0 ≤ zw v1) ∧ ((zw v1 < 12) ∧ (∀ M8 : zM, M8 = zs M 1315 (zw v1).toNat (zg M 1285 (zw v1).toNat) → (wp E 8 cX8_asNamed (none) Q 2 [some (.ref 1280), some (zI (v1 + 1))] [] M8))))))) ∧ (¬ zw v1 < zg M 1280 1 → ((0 ≤ zw v1) ∧ ((zw v1 < 12) ∧ (∀ M3 : zM, M3 = zs M 1315 (zw v1).toNat (-1) → (wp E 8 cX8_asNamed (none) Q 2 [some (.ref 1280), some (zI (v1 + 1))] [] M3))))))) ∧ (¬ zw v1 < 12 → (Q 0 M))) : wp E 8 cX8_asNamed (none) Q 2 [some (.ref 1280), some (zI v1)] [] M := by
  refine w_iload_n dX8_asNamed_2 rfl ?_
  refine w_bipush dX8_asNamed_3 (by decide) ?_
  refine w_icmp_ge (tgt := 38) dX8_asNamed_5 (by decide) rfl zq_12 (fun q => ?_) (fun q => ?_)
  · have h := h.2 q
    exact w_rv rfl dX8_asNamed_38 h
  · have h := h.1 q
    refine w_aload_n dX8_asNamed_8 rfl ?_
    refine w_gfA (ci := 8) (k := 34) dX8_asNamed_9 f8_79 ob_1280 rfl ?_
    refine w_iload_n dX8_asNamed_12 rfl ?_
    refine w_iload_n dX8_asNamed_13 rfl ?_
    refine w_aload_n dX8_asNamed_14 rfl ?_
    refine w_gfI (ci := 8) (k := 1) dX8_asNamed_15 f8_111 ob_1280 rfl ?_
    refine w_icmp_ge (tgt := 30) dX8_asNamed_18 (by decide) rfl (zw_zg _ _ _) (fun q => ?_) (fun q => ?_)
    · have h := h.2 q
      refine w_iconst dX8_asNamed_30 ?_
      obtain ⟨c1, h⟩ := h
      obtain ⟨c2, h⟩ := h
      have h := h _ rfl
      refine w_iast dX8_asNamed_31 rfl (a8_34 ob_1280) c1 c2 ?_
      refine w_iinc dX8_asNamed_32 rfl rfl ?_
      refine w_goto (tgt := 2) dX8_asNamed_35 (by decide) ?_
      exact w_fgt (fgk (fgk (fgn))) h
    · have h := h.1 q
      refine w_aload_n dX8_asNamed_21 rfl ?_
      refine w_gfA (ci := 8) (k := 4) dX8_asNamed_22 f8_16 ob_1280 rfl ?_
      refine w_iload_n dX8_asNamed_25 rfl ?_
      obtain ⟨c4, h⟩ := h
      obtain ⟨c5, h⟩ := h
      refine w_iald dX8_asNamed_26 rfl (a8_4 ob_1280) c4 c5 ?_
      refine w_goto (tgt := 31) dX8_asNamed_27 (by decide) ?_
      obtain ⟨c6, h⟩ := h
      obtain ⟨c7, h⟩ := h
      have h := h _ rfl
      refine w_iast dX8_asNamed_31 rfl (a8_34 ob_1280) c6 c7 ?_
      refine w_iinc dX8_asNamed_32 rfl rfl ?_
      refine w_goto (tgt := 2) dX8_asNamed_35 (by decide) ?_
      exact w_fgt (fgk (fgk (fgn))) h
theorem e_X8_everybody {d : Nat} {Q : Int → zM → Prop} {M : zM}  (h : wp (Ev d) 8 cX8_everybody (some .int) Q 0 [some (.ref 1280)] [] M) : Ev (d + 1) mX8_everybody [.ref 1280] M Q := ⟨kX8_everybody, Nat.le_of_ble_eq_true rfl, h⟩
theorem v_X8_everybody_0 {E : zE} {Q : Int → zM → Prop} {M : zM}   (h : Q (zw ((z_shl 1 (zg M 1280 1)) - 1)) M) : wp E 8 cX8_everybody (some .int) Q 0 [some (.ref 1280)] [] M := by
  refine w_iconst dX8_everybody_0 ?_
  refine w_aload_n dX8_everybody_1 rfl ?_
  refine w_gfI (ci := 8) (k := 1) dX8_everybody_2 f8_111 ob_1280 rfl ?_
  refine w_ishl dX8_everybody_5 ?_
  refine w_iconst dX8_everybody_6 ?_
  refine w_isub dX8_everybody_7 ?_
  exact w_ri rfl dX8_everybody_8 rfl h
theorem e_X8_bears {d : Nat} {Q : Int → zM → Prop} {M : zM} (v1 : Int) (v2 : Int) (v3 : Int) (v4 : Int) (h : wp (Ev d) 8 cX8_bears (some .boolean) Q 0 [some (.ref 1280), some (zI v1), some (zI v2), some (zI v3), some (zI v4)] [] M) : Ev (d + 1) mX8_bears [.ref 1280, zI v1, zI v2, zI v3, zI v4] M Q := ⟨kX8_bears, Nat.le_of_ble_eq_true rfl, h⟩
theorem v_X8_bears_0 {E : zE} {Q : Int → zM → Prop} {M : zM} (v1 : Int) (v2 : Int) (v3 : Int) (v4 : Int)  (h : (z_and (z_shr v4 v1) 1 = 1 → ((0 ≤ zw v1) ∧ ((zw v1 < 12) ∧ ((zg M 1315 (zw v1).toNat = zw v2 → ((0 ≤ zw v1) ∧ ((zw v1 < 12) ∧ ((zw v3 < zg M 1283 (zw v1).toNat → (Q 0 M)) ∧ (¬ zw v3 < zg M 1283 (zw v1).toNat → (Q 1 M)))))) ∧ (¬ zg M 1315 (zw v1).toNat = zw v2 → (Q 0 M)))))) ∧ (¬ z_and (z_shr v4 v1) 1 = 1 → (Q 0 M))) : wp E 8 cX8_bears (some .boolean) Q 0 [some (.ref 1280), some (zI v1), some (zI v2), some (zI v3), some (zI v4)] [] M := by
  refine w_iload dX8_bears_0 rfl ?_
  refine w_iload_n dX8_bears_2 rfl ?_
  refine w_ishr dX8_bears_3 ?_
  refine w_iconst dX8_bears_4 ?_
  refine w_iand dX8_bears_5 ?_
  refine w_iconst dX8_bears_6 ?_
  refine w_icmp_ne (tgt := 34) dX8_bears_7 (by decide) (zx_and _ _) zq_1 (fun q => ?_) (fun q => ?_)
  · have h := h.2 q
    refine w_iconst dX8_bears_34 ?_
    exact w_rz rfl dX8_bears_35 zq_0 (by decide) h
  · have h := h.1 q
    refine w_aload_n dX8_bears_10 rfl ?_
    refine w_gfA (ci := 8) (k := 34) dX8_bears_11 f8_79 ob_1280 rfl ?_
    refine w_iload_n dX8_bears_14 rfl ?_
    obtain ⟨c1, h⟩ := h
    obtain ⟨c2, h⟩ := h
    refine w_iald dX8_bears_15 rfl (a8_34 ob_1280) c1 c2 ?_
    refine w_iload_n dX8_bears_16 rfl ?_
    refine w_icmp_ne (tgt := 34) dX8_bears_17 (by decide) (zw_zg _ _ _) rfl (fun q => ?_) (fun q => ?_)
    · have h := h.2 q
      refine w_iconst dX8_bears_34 ?_
      exact w_rz rfl dX8_bears_35 zq_0 (by decide) h
    · have h := h.1 q
      refine w_aload_n dX8_bears_20 rfl ?_
      refine w_gfA (ci := 8) (k := 2) dX8_bears_21 f8_7 ob_1280 rfl ?_
      refine w_iload_n dX8_bears_24 rfl ?_
      obtain ⟨c3, h⟩ := h
      obtain ⟨c4, h⟩ := h
      refine w_iald dX8_bears_25 rfl (a8_2 ob_1280) c3 c4 ?_
      refine w_iload_n dX8_bears_26 rfl ?_
      refine w_icmp_gt (tgt := 34) dX8_bears_27 (by decide) (zw_zg _ _ _) rfl (fun q => ?_) (fun q => ?_)
      · have h := h.1 q
        refine w_iconst dX8_bears_34 ?_
        exact w_rz rfl dX8_bears_35 zq_0 (by decide) h
      · have h := h.2 q
        refine w_iconst dX8_bears_30 ?_
        refine w_goto (tgt := 35) dX8_bears_31 (by decide) ?_
        exact w_rz rfl dX8_bears_35 zq_1 (by decide) h
theorem e_X8_doesHold {d : Nat} {Q : Int → zM → Prop} {M : zM} (v1 : Int) (v2 : Int) (v3 : Int) (v4 : Int) (h : wp (Ev d) 8 cX8_doesHold (some .boolean) Q 0 [some (.ref 1280), some (zI v1), some (zI v2), some (zI v3), some (zI v4), none] [] M) : Ev (d + 1) mX8_doesHold [.ref 1280, zI v1, zI v2, zI v3, zI v4] M Q := ⟨kX8_doesHold, Nat.le_of_ble_eq_true rfl, h⟩
theorem v_X8_doesHold_0 {E : zE} {Q : Int → zM → Prop} {M : zM} (v1 : Int) (v2 : Int) (v3 : Int) (v4 : Int)  (h : E mX8_lives [.ref 1280, zI v1, zI v3] M (fun r1 M2 => (zw r1 = 0 → (Q 0 M2)) ∧ (¬ zw r1 = 0 → (wp E 8 cX8_doesHold (some .boolean) Q 14 [some (.ref 1280), some (zI v1), some (zI v2), some (zI v3), some (zI v4), some (zI 0)] [] M2)))) : wp E 8 cX8_doesHold (some .boolean) Q 0 [some (.ref 1280), some (zI v1), some (zI v2), some (zI v3), some (zI v4), none] [] M := by
  refine w_aload_n dX8_doesHold_0 rfl ?_
  refine w_iload_n dX8_doesHold_1 rfl ?_
  refine w_iload_n dX8_doesHold_2 rfl ?_
  refine w_invVi [_, _] dX8_doesHold_3 l8_138 kX8_lives rfl rfl (Nat.le_of_ble_eq_true rfl) (Or.inr rfl) ob_1280 h (fun r1 M2 h => ?_)
  refine w_if_ne (tgt := 11) dX8_doesHold_6 (by decide) rfl (fun q => ?_) (fun q => ?_)
  · have h := h.2 q
    refine w_iconst dX8_doesHold_11 ?_
    refine w_istore dX8_doesHold_12 (Nat.le_of_ble_eq_true rfl) rfl ?_
    exact w_fgt (fgk (fgk (fgk (fgk (fgk (fgk (fgn))))))) h
  · have h := h.1 q
    refine w_iconst dX8_doesHold_9 ?_
    exact w_rz rfl dX8_doesHold_10 zq_0 (by decide) h
theorem v_X8_doesHold_14 {E : zE} {Q : Int → zM → Prop} {M : zM} (v1 : Int) (v2 : Int) (v3 : Int) (v4 : Int) (v5 : Int)  (h : (zw v5 < zg M 1280 1 → (E mX8_bears [.ref 1280, zI v5, zI v2, zI v3, zI v4] M (fun r1 M2 => (zw r1 = 0 → (wp E 8 cX8_doesHold (some .boolean) Q 14 [some (.ref 1280), some (zI v1), some (zI v2), some (zI v3), some (zI v4), some (zI (v5 + 1))] [] M2)) ∧ (¬ zw r1 = 0 → ((0 ≤ zw v1) ∧ ((zw v1 < 12) ∧ ((z_and (z_shr (zg M2 1313 (zw v1).toNat) v5) 1 = 1 → (E mX8_holdsFor [.ref 1280, zI v1, zI v5, zI v2, zI v3] M2 (fun r5 M6 => (zw r5 = 0 → (wp E 8 cX8_doesHold (some .boolean) Q 14 [some (.ref 1280), some (zI v1), some (zI v2), some (zI v3), some (zI v4), some (zI (v5 + 1))] [] M6)) ∧ (¬ zw r5 = 0 → (Q 1 M6))))) ∧ (¬ z_and (z_shr (zg M2 1313 (zw v1).toNat) v5) 1 = 1 → (wp E 8 cX8_doesHold (some .boolean) Q 14 [some (.ref 1280), some (zI v1), some (zI v2), some (zI v3), some (zI v4), some (zI (v5 + 1))] [] M2))))))))) ∧ (¬ zw v5 < zg M 1280 1 → (Q 0 M))) : wp E 8 cX8_doesHold (some .boolean) Q 14 [some (.ref 1280), some (zI v1), some (zI v2), some (zI v3), some (zI v4), some (zI v5)] [] M := by
  refine w_iload dX8_doesHold_14 rfl ?_
  refine w_aload_n dX8_doesHold_16 rfl ?_
  refine w_gfI (ci := 8) (k := 1) dX8_doesHold_17 f8_111 ob_1280 rfl ?_
  refine w_icmp_ge (tgt := 71) dX8_doesHold_20 (by decide) rfl (zw_zg _ _ _) (fun q => ?_) (fun q => ?_)
  · have h := h.2 q
    refine w_iconst dX8_doesHold_71 ?_
    exact w_rz rfl dX8_doesHold_72 zq_0 (by decide) h
  · have h := h.1 q
    refine w_aload_n dX8_doesHold_23 rfl ?_
    refine w_iload dX8_doesHold_24 rfl ?_
    refine w_iload_n dX8_doesHold_26 rfl ?_
    refine w_iload_n dX8_doesHold_27 rfl ?_
    refine w_iload dX8_doesHold_28 rfl ?_
    refine w_invVi [_, _, _, _] dX8_doesHold_30 l8_257 kX8_bears rfl rfl (Nat.le_of_ble_eq_true rfl) (Or.inr rfl) ob_1280 h (fun r1 M2 h => ?_)
    refine w_if_eq (tgt := 65) dX8_doesHold_33 (by decide) rfl (fun q => ?_) (fun q => ?_)
    · have h := h.1 q
      refine w_iinc dX8_doesHold_65 rfl rfl ?_
      refine w_goto (tgt := 14) dX8_doesHold_68 (by decide) ?_
      exact w_fgt (fgk (fgk (fgk (fgk (fgk (fgk (fgn))))))) h
    · have h := h.2 q
      refine w_aload_n dX8_doesHold_36 rfl ?_
      refine w_gfA (ci := 8) (k := 32) dX8_doesHold_37 f8_72 ob_1280 rfl ?_
      refine w_iload_n dX8_doesHold_40 rfl ?_
      obtain ⟨c3, h⟩ := h
      obtain ⟨c4, h⟩ := h
      refine w_iald dX8_doesHold_41 rfl (a8_32 ob_1280) c3 c4 ?_
      refine w_iload dX8_doesHold_42 rfl ?_
      refine w_ishr dX8_doesHold_44 ?_
      refine w_iconst dX8_doesHold_45 ?_
      refine w_iand dX8_doesHold_46 ?_
      refine w_iconst dX8_doesHold_47 ?_
      refine w_icmp_ne (tgt := 65) dX8_doesHold_48 (by decide) (zx_and _ _) zq_1 (fun q => ?_) (fun q => ?_)
      · have h := h.2 q
        refine w_iinc dX8_doesHold_65 rfl rfl ?_
        refine w_goto (tgt := 14) dX8_doesHold_68 (by decide) ?_
        exact w_fgt (fgk (fgk (fgk (fgk (fgk (fgk (fgn))))))) h
      · have h := h.1 q
        refine w_aload_n dX8_doesHold_51 rfl ?_
        refine w_iload_n dX8_doesHold_52 rfl ?_
        refine w_iload dX8_doesHold_53 rfl ?_
        refine w_iload_n dX8_doesHold_55 rfl ?_
        refine w_iload_n dX8_doesHold_56 rfl ?_
        refine w_invVi [_, _, _, _] dX8_doesHold_57 l8_261 kX8_holdsFor rfl rfl (Nat.le_of_ble_eq_true rfl) (Or.inr rfl) ob_1280 h (fun r5 M6 h => ?_)
        refine w_if_eq (tgt := 65) dX8_doesHold_60 (by decide) rfl (fun q => ?_) (fun q => ?_)
        · have h := h.1 q
          refine w_iinc dX8_doesHold_65 rfl rfl ?_
          refine w_goto (tgt := 14) dX8_doesHold_68 (by decide) ?_
          exact w_fgt (fgk (fgk (fgk (fgk (fgk (fgk (fgn))))))) h
        · have h := h.2 q
          refine w_iconst dX8_doesHold_63 ?_
          exact w_rz rfl dX8_doesHold_64 zq_1 (by decide) h
theorem e_X8_holders {d : Nat} {Q : Int → zM → Prop} {M : zM} (v1 : Int) (v2 : Int) (v3 : Int) (h : wp (Ev d) 8 cX8_holders (some .int) Q 0 [some (.ref 1280), some (zI v1), some (zI v2), some (zI v3), none, none] [] M) : Ev (d + 1) mX8_holders [.ref 1280, zI v1, zI v2, zI v3] M Q := ⟨kX8_holders, Nat.le_of_ble_eq_true rfl, h⟩
theorem v_X8_holders_0 {E : zE} {Q : Int → zM → Prop} {M : zM} (v1 : Int) (v2 : Int) (v3 : Int)  (h : wp E 8 cX8_holders (some .int) Q 6 [some (.ref 1280), some (zI v1), some (zI v2), some (zI v3), some (zI 0), some (zI 0)] [] M) : wp E 8 cX8_holders (some .int) Q 0 [some (.ref 1280), some (zI v1), some (zI v2), some (zI v3), none, none] [] M := by
  refine w_iconst dX8_holders_0 ?_
  refine w_istore dX8_holders_1 (Nat.le_of_ble_eq_true rfl) rfl ?_
  refine w_iconst dX8_holders_3 ?_
  refine w_istore dX8_holders_4 (Nat.le_of_ble_eq_true rfl) rfl ?_
  exact w_fgt (fgk (fgk (fgk (fgk (fgk (fgk (fgn))))))) h
theorem v_X8_holders_6 {E : zE} {Q : Int → zM → Prop} {M : zM} (v1 : Int) (v2 : Int) (v3 : Int) (v4 : Int) (v5 : Int)  (h : (zw v5 < zg M 1280 1 → (E mX8_doesHold [.ref 1280, zI v5, zI v1, zI v2, zI v3] M (fun r1 M2 => (zw r1 = 0 → (wp E 8 cX8_holders (some .int) Q 6 [some (.ref 1280), some (zI v1), some (zI v2), some (zI v3), some (zI v4), some (zI (v5 + 1))] [] M2)) ∧ (¬ zw r1 = 0 → (wp E 8 cX8_holders (some .int) Q 6 [some (.ref 1280), some (zI v1), some (zI v2), some (zI v3), some (zI (z_or v4 (z_shl 1 v5))), some (zI (v5 + 1))] [] M2))))) ∧ (¬ zw v5 < zg M 1280 1 → (Q (zw v4) M))) : wp E 8 cX8_holders (some .int) Q 6 [some (.ref 1280), some (zI v1), some (zI v2), some (zI v3), some (zI v4), some (zI v5)] [] M := by
  refine w_iload dX8_holders_6 rfl ?_
  refine w_aload_n dX8_holders_8 rfl ?_
  refine w_gfI (ci := 8) (k := 1) dX8_holders_9 f8_111 ob_1280 rfl ?_
  refine w_icmp_ge (tgt := 42) dX8_holders_12 (by decide) rfl (zw_zg _ _ _) (fun q => ?_) (fun q => ?_)
  · have h := h.2 q
    refine w_iload dX8_holders_42 rfl ?_
    exact w_ri rfl dX8_holders_44 rfl h
  · have h := h.1 q
    refine w_aload_n dX8_holders_15 rfl ?_
    refine w_iload dX8_holders_16 rfl ?_
    refine w_iload_n dX8_holders_18 rfl ?_
    refine w_iload_n dX8_holders_19 rfl ?_
    refine w_iload_n dX8_holders_20 rfl ?_
    refine w_invVi [_, _, _, _] dX8_holders_21 l8_264 kX8_doesHold rfl rfl (Nat.le_of_ble_eq_true rfl) (Or.inr rfl) ob_1280 h (fun r1 M2 h => ?_)
    refine w_if_eq (tgt := 36) dX8_holders_24 (by decide) rfl (fun q => ?_) (fun q => ?_)
    · have h := h.1 q
      refine w_iinc dX8_holders_36 rfl rfl ?_
      refine w_goto (tgt := 6) dX8_holders_39 (by decide) ?_
      exact w_fgt (fgk (fgk (fgk (fgk (fgk (fgk (fgn))))))) h
    · have h := h.2 q
      refine w_iload dX8_holders_27 rfl ?_
      refine w_iconst dX8_holders_29 ?_
      refine w_iload dX8_holders_30 rfl ?_
      refine w_ishl dX8_holders_32 ?_
      refine w_ior dX8_holders_33 ?_
      refine w_istore dX8_holders_34 (Nat.le_of_ble_eq_true rfl) rfl ?_
      refine w_iinc dX8_holders_36 rfl rfl ?_
      refine w_goto (tgt := 6) dX8_holders_39 (by decide) ?_
      exact w_fgt (fgk (fgk (fgk (fgk (fgk (fgk (fgn))))))) h
theorem e_X8_isFamous {d : Nat} {Q : Int → zM → Prop} {M : zM} (v1 : Int) (v2 : Int) (v3 : Int) (h : wp (Ev d) 8 cX8_isFamous (some .boolean) Q 0 [some (.ref 1280), some (zI v1), some (zI v2), some (zI v3), none] [] M) : Ev (d + 1) mX8_isFamous [.ref 1280, zI v1, zI v2, zI v3] M Q := ⟨kX8_isFamous, Nat.le_of_ble_eq_true rfl, h⟩
theorem v_X8_isFamous_0 {E : zE} {Q : Int → zM → Prop} {M : zM} (v1 : Int) (v2 : Int) (v3 : Int)  (h : wp E 8 cX8_isFamous (some .boolean) Q 3 [some (.ref 1280), some (zI v1), some (zI v2), some (zI v3), some (zI 0)] [] M) : wp E 8 cX8_isFamous (some .boolean) Q 0 [some (.ref 1280), some (zI v1), some (zI v2), some (zI v3), none] [] M := by
  refine w_iconst dX8_isFamous_0 ?_
  refine w_istore dX8_isFamous_1 (Nat.le_of_ble_eq_true rfl) rfl ?_
  exact w_fgt (fgk (fgk (fgk (fgk (fgk (fgn)))))) h
theorem v_X8_isFamous_3 {E : zE} {Q : Int → zM → Prop} {M : zM} (v1 : Int) (v2 : Int) (v3 : Int) (v4 : Int)  (h : (zw v4 < zg M 1280 1 → ((0 ≤ zw v1) ∧ ((zw v1 < 12) ∧ ((zg M 1292 (zw v1).toNat = 1 → (E mX8_bears [.ref 1280, zI v4, zI v1, zI v2, zI v3] M (fun r3 M4 => (zw r3 = 0 → (wp E 8 cX8_isFamous (some .boolean) Q 3 [some (.ref 1280), some (zI v1), some (zI v2), some (zI v3), some (zI (v4 + 1))] [] M4)) ∧ (¬ zw r3 = 0 → (Q 1 M4))))) ∧ (¬ zg M 1292 (zw v1).toNat = 1 → (wp E 8 cX8_isFamous (some .boolean) Q 3 [some (.ref 1280), some (zI v1), some (zI v2), some (zI v3), some (zI (v4 + 1))] [] M)))))) ∧ (¬ zw v4 < zg M 1280 1 → (Q 0 M))) : wp E 8 cX8_isFamous (some .boolean) Q 3 [some (.ref 1280), some (zI v1), some (zI v2), some (zI v3), some (zI v4)] [] M := by
  refine w_iload dX8_isFamous_3 rfl ?_
  refine w_aload_n dX8_isFamous_5 rfl ?_
  refine w_gfI (ci := 8) (k := 1) dX8_isFamous_6 f8_111 ob_1280 rfl ?_
  refine w_icmp_ge (tgt := 42) dX8_isFamous_9 (by decide) rfl (zw_zg _ _ _) (fun q => ?_) (fun q => ?_)
  · have h := h.2 q
    refine w_iconst dX8_isFamous_42 ?_
    exact w_rz rfl dX8_isFamous_43 zq_0 (by decide) h
  · have h := h.1 q
    refine w_aload_n dX8_isFamous_12 rfl ?_
    refine w_gfA (ci := 8) (k := 11) dX8_isFamous_13 f8_31 ob_1280 rfl ?_
    refine w_iload_n dX8_isFamous_16 rfl ?_
    obtain ⟨c1, h⟩ := h
    obtain ⟨c2, h⟩ := h
    refine w_iald dX8_isFamous_17 rfl (a8_11 ob_1280) c1 c2 ?_
    refine w_iconst dX8_isFamous_18 ?_
    refine w_icmp_ne (tgt := 36) dX8_isFamous_19 (by decide) (zw_zg _ _ _) zq_1 (fun q => ?_) (fun q => ?_)
    · have h := h.2 q
      refine w_iinc dX8_isFamous_36 rfl rfl ?_
      refine w_goto (tgt := 3) dX8_isFamous_39 (by decide) ?_
      exact w_fgt (fgk (fgk (fgk (fgk (fgk (fgn)))))) h
    · have h := h.1 q
      refine w_aload_n dX8_isFamous_22 rfl ?_
      refine w_iload dX8_isFamous_23 rfl ?_
      refine w_iload_n dX8_isFamous_25 rfl ?_
      refine w_iload_n dX8_isFamous_26 rfl ?_
      refine w_iload_n dX8_isFamous_27 rfl ?_
      refine w_invVi [_, _, _, _] dX8_isFamous_28 l8_257 kX8_bears rfl rfl (Nat.le_of_ble_eq_true rfl) (Or.inr rfl) ob_1280 h (fun r3 M4 h => ?_)
      refine w_if_eq (tgt := 36) dX8_isFamous_31 (by decide) rfl (fun q => ?_) (fun q => ?_)
      · have h := h.1 q
        refine w_iinc dX8_isFamous_36 rfl rfl ?_
        refine w_goto (tgt := 3) dX8_isFamous_39 (by decide) ?_
        exact w_fgt (fgk (fgk (fgk (fgk (fgk (fgn)))))) h
      · have h := h.2 q
        refine w_iconst dX8_isFamous_34 ?_
        exact w_rz rfl dX8_isFamous_35 zq_1 (by decide) h
theorem e_X8_isHeld {d : Nat} {Q : Int → zM → Prop} {M : zM} (v1 : Int) (v2 : Int) (v3 : Int) (h : wp (Ev d) 8 cX8_isHeld (some .boolean) Q 0 [some (.ref 1280), some (zI v1), some (zI v2), some (zI v3)] [] M) : Ev (d + 1) mX8_isHeld [.ref 1280, zI v1, zI v2, zI v3] M Q := ⟨kX8_isHeld, Nat.le_of_ble_eq_true rfl, h⟩
theorem v_X8_isHeld_0 {E : zE} {Q : Int → zM → Prop} {M : zM} (v1 : Int) (v2 : Int) (v3 : Int)  (h : E mX8_isFamous [.ref 1280, zI v1, zI v2, zI v3] M (fun r1 M2 => (zw r1 = 0 → (E mX8_holders [.ref 1280, zI v1, zI v2, zI v3] M2 (fun r3 M4 => (zw r3 = 0 → (Q 0 M4)) ∧ (¬ zw r3 = 0 → (Q 1 M4))))) ∧ (¬ zw r1 = 0 → (Q 1 M2)))) : wp E 8 cX8_isHeld (some .boolean) Q 0 [some (.ref 1280), some (zI v1), some (zI v2), some (zI v3)] [] M := by
  refine w_aload_n dX8_isHeld_0 rfl ?_
  refine w_iload_n dX8_isHeld_1 rfl ?_
  refine w_iload_n dX8_isHeld_2 rfl ?_
  refine w_iload_n dX8_isHeld_3 rfl ?_
  refine w_invVi [_, _, _] dX8_isHeld_4 l8_267 kX8_isFamous rfl rfl (Nat.le_of_ble_eq_true rfl) (Or.inr rfl) ob_1280 h (fun r1 M2 h => ?_)
  refine w_if_ne (tgt := 20) dX8_isHeld_7 (by decide) rfl (fun q => ?_) (fun q => ?_)
  · have h := h.2 q
    refine w_iconst dX8_isHeld_20 ?_
    refine w_goto (tgt := 25) dX8_isHeld_21 (by decide) ?_
    exact w_rz rfl dX8_isHeld_25 zq_1 (by decide) h
  · have h := h.1 q
    refine w_aload_n dX8_isHeld_10 rfl ?_
    refine w_iload_n dX8_isHeld_11 rfl ?_
    refine w_iload_n dX8_isHeld_12 rfl ?_
    refine w_iload_n dX8_isHeld_13 rfl ?_
    refine w_invVi [_, _, _] dX8_isHeld_14 l8_270 kX8_holders rfl rfl (Nat.le_of_ble_eq_true rfl) (Or.inl rfl) ob_1280 h (fun r3 M4 h => ?_)
    refine w_if_eq (tgt := 24) dX8_isHeld_17 (by decide) rfl (fun q => ?_) (fun q => ?_)
    · have h := h.1 q
      refine w_iconst dX8_isHeld_24 ?_
      exact w_rz rfl dX8_isHeld_25 zq_0 (by decide) h
    · have h := h.2 q
      refine w_iconst dX8_isHeld_20 ?_
      refine w_goto (tgt := 25) dX8_isHeld_21 (by decide) ?_
      exact w_rz rfl dX8_isHeld_25 zq_1 (by decide) h
theorem e_X8_held {d : Nat} {Q : Int → zM → Prop} {M : zM} (v1 : Int) (v2 : Int) (v3 : Int) (h : wp (Ev d) 8 cX8_held (some .int) Q 0 [some (.ref 1280), some (zI v1), some (zI v2), some (zI v3), none] [] M) : Ev (d + 1) mX8_held [.ref 1280, zI v1, zI v2, zI v3] M Q := ⟨kX8_held, Nat.le_of_ble_eq_true rfl, h⟩
theorem v_X8_held_0 {E : zE} {Q : Int → zM → Prop} {M : zM} (v1 : Int) (v2 : Int) (v3 : Int)  (h : E mX8_isName [zI v1] M (fun r1 M2 => (zw r1 = 0 → (Q (-1) M2)) ∧ (¬ zw r1 = 0 → (E mX8_isYear [zI v2] M2 (fun r3 M4 => (zw r3 = 0 → (Q (-1) M4)) ∧ (¬ zw r3 = 0 → (E mX8_in [zI v3, zI 0, zI 2] M4 (fun r5 M6 => (zw r5 = 0 → (Q (-1) M6)) ∧ (¬ zw r5 = 0 → (E mX8_asNamed [.ref 1280] M6 (fun r7 M8 => (zw v3 = 2 → (wp E 8 cX8_held (some .int) Q 37 [some (.ref 1280), some (zI v1), none, none, some (zI v2)] [] M8)) ∧ (¬ zw v3 = 2 → (E mX8_findKnown [.ref 1280, zI v2, zI 0] M8 (fun r9 M10 => (zw v3 = 1 → (E mX8_everybody [.ref 1280] M10 (fun r15 M16 => E mX8_holders [.ref 1280, zI v1, zI v2, zI r15] M16 (fun r17 M18 => Q (zw r17) M18)))) ∧ (¬ zw v3 = 1 → (E mX8_everybody [.ref 1280] M10 (fun r11 M12 => E mX8_isHeld [.ref 1280, zI v1, zI v2, zI r11] M12 (fun r13 M14 => (zw r13 = 0 → (Q 0 M14)) ∧ (¬ zw r13 = 0 → (Q 1 M14)))))))))))))))))))) : wp E 8 cX8_held (some .int) Q 0 [some (.ref 1280), some (zI v1), some (zI v2), some (zI v3), none] [] M := by
  refine w_iload_n dX8_held_0 rfl ?_
  refine w_invSi [_] dX8_held_1 l8_148 kX8_isName rfl rfl (Nat.le_of_ble_eq_true rfl) (Or.inr rfl) h (fun r1 M2 h => ?_)
  refine w_if_eq (tgt := 23) dX8_held_4 (by decide) rfl (fun q => ?_) (fun q => ?_)
  · have h := h.1 q
    refine w_iconst dX8_held_23 ?_
    exact w_ri rfl dX8_held_24 zq_m1 h
  · have h := h.2 q
    refine w_iload_n dX8_held_7 rfl ?_
    refine w_invSi [_] dX8_held_8 l8_118 kX8_isYear rfl rfl (Nat.le_of_ble_eq_true rfl) (Or.inr rfl) h (fun r3 M4 h => ?_)
    refine w_if_eq (tgt := 23) dX8_held_11 (by decide) rfl (fun q => ?_) (fun q => ?_)
    · have h := h.1 q
      refine w_iconst dX8_held_23 ?_
      exact w_ri rfl dX8_held_24 zq_m1 h
    · have h := h.2 q
      refine w_iload_n dX8_held_14 rfl ?_
      refine w_iconst dX8_held_15 ?_
      refine w_iconst dX8_held_16 ?_
      refine w_invSi [_, _, _] dX8_held_17 l8_114 kX8_in rfl rfl (Nat.le_of_ble_eq_true rfl) (Or.inr rfl) h (fun r5 M6 h => ?_)
      refine w_if_ne (tgt := 25) dX8_held_20 (by decide) rfl (fun q => ?_) (fun q => ?_)
      · have h := h.2 q
        refine w_aload_n dX8_held_25 rfl ?_
        refine w_invVv [] dX8_held_26 l8_273 kX8_asNamed rfl rfl (Nat.le_of_ble_eq_true rfl) rfl ob_1280 h (fun r7 M8 h => ?_)
        refine w_iload_n dX8_held_29 rfl ?_
        refine w_iconst dX8_held_30 ?_
        refine w_icmp_ne (tgt := 77) dX8_held_31 (by decide) rfl zq_2 (fun q => ?_) (fun q => ?_)
        · have h := h.2 q
          refine w_aload_n dX8_held_77 rfl ?_
          refine w_iload_n dX8_held_78 rfl ?_
          refine w_iconst dX8_held_79 ?_
          refine w_invVv [_, _] dX8_held_80 l8_254 kX8_findKnown rfl rfl (Nat.le_of_ble_eq_true rfl) rfl ob_1280 h (fun r9 M10 h => ?_)
          refine w_iload_n dX8_held_83 rfl ?_
          refine w_iconst dX8_held_84 ?_
          refine w_icmp_ne (tgt := 101) dX8_held_85 (by decide) rfl zq_1 (fun q => ?_) (fun q => ?_)
          · have h := h.2 q
            refine w_aload_n dX8_held_101 rfl ?_
            refine w_iload_n dX8_held_102 rfl ?_
            refine w_iload_n dX8_held_103 rfl ?_
            refine w_aload_n dX8_held_104 rfl ?_
            refine w_invVi [] dX8_held_105 l8_276 kX8_everybody rfl rfl (Nat.le_of_ble_eq_true rfl) (Or.inl rfl) ob_1280 h (fun r11 M12 h => ?_)
            refine w_invVi [_, _, _] dX8_held_108 l8_279 kX8_isHeld rfl rfl (Nat.le_of_ble_eq_true rfl) (Or.inr rfl) ob_1280 h (fun r13 M14 h => ?_)
            refine w_if_eq (tgt := 118) dX8_held_111 (by decide) rfl (fun q => ?_) (fun q => ?_)
            · have h := h.1 q
              refine w_iconst dX8_held_118 ?_
              exact w_ri rfl dX8_held_119 zq_0 h
            · have h := h.2 q
              refine w_iconst dX8_held_114 ?_
              refine w_goto (tgt := 119) dX8_held_115 (by decide) ?_
              exact w_ri rfl dX8_held_119 zq_1 h
          · have h := h.1 q
            refine w_aload_n dX8_held_88 rfl ?_
            refine w_iload_n dX8_held_89 rfl ?_
            refine w_iload_n dX8_held_90 rfl ?_
            refine w_aload_n dX8_held_91 rfl ?_
            refine w_invVi [] dX8_held_92 l8_276 kX8_everybody rfl rfl (Nat.le_of_ble_eq_true rfl) (Or.inl rfl) ob_1280 h (fun r15 M16 h => ?_)
            refine w_invVi [_, _, _] dX8_held_95 l8_270 kX8_holders rfl rfl (Nat.le_of_ble_eq_true rfl) (Or.inl rfl) ob_1280 h (fun r17 M18 h => ?_)
            refine w_goto (tgt := 119) dX8_held_98 (by decide) ?_
            exact w_ri rfl dX8_held_119 rfl h
        · have h := h.1 q
          refine w_iload_n dX8_held_34 rfl ?_
          refine w_istore dX8_held_35 (Nat.le_of_ble_eq_true rfl) rfl ?_
          exact w_fgt (fgk (fgk (fgd (fgd (fgk (fgn)))))) h
      · have h := h.1 q
        refine w_iconst dX8_held_23 ?_
        exact w_ri rfl dX8_held_24 zq_m1 h
theorem v_X8_held_37 {E : zE} {Q : Int → zM → Prop} {M : zM} (v1 : Int) (v4 : Int)  (h : (99 < zw v4 → (Q (-2) M)) ∧ (¬ 99 < zw v4 → (E mX8_findKnown [.ref 1280, zI v4, zI 0] M (fun r1 M2 => E mX8_everybody [.ref 1280] M2 (fun r3 M4 => E mX8_isHeld [.ref 1280, zI v1, zI v4, zI r3] M4 (fun r5 M6 => (zw r5 = 0 → (Q (zw v4) M6)) ∧ (¬ zw r5 = 0 → (wp E 8 cX8_held (some .int) Q 37 [some (.ref 1280), some (zI v1), none, none, some (zI (v4 + 1))] [] M6)))))))) : wp E 8 cX8_held (some .int) Q 37 [some (.ref 1280), some (zI v1), none, none, some (zI v4)] [] M := by
  refine w_iload dX8_held_37 rfl ?_
  refine w_bipush dX8_held_39 (by decide) ?_
  refine w_icmp_gt (tgt := 74) dX8_held_41 (by decide) rfl zq_99 (fun q => ?_) (fun q => ?_)
  · have h := h.1 q
    refine w_bipush dX8_held_74 (by decide) ?_
    exact w_ri rfl dX8_held_76 zq_m2 h
  · have h := h.2 q
    refine w_aload_n dX8_held_44 rfl ?_
    refine w_iload dX8_held_45 rfl ?_
    refine w_iconst dX8_held_47 ?_
    refine w_invVv [_, _] dX8_held_48 l8_254 kX8_findKnown rfl rfl (Nat.le_of_ble_eq_true rfl) rfl ob_1280 h (fun r1 M2 h => ?_)
    refine w_aload_n dX8_held_51 rfl ?_
    refine w_iload_n dX8_held_52 rfl ?_
    refine w_iload dX8_held_53 rfl ?_
    refine w_aload_n dX8_held_55 rfl ?_
    refine w_invVi [] dX8_held_56 l8_276 kX8_everybody rfl rfl (Nat.le_of_ble_eq_true rfl) (Or.inl rfl) ob_1280 h (fun r3 M4 h => ?_)
    refine w_invVi [_, _, _] dX8_held_59 l8_279 kX8_isHeld rfl rfl (Nat.le_of_ble_eq_true rfl) (Or.inr rfl) ob_1280 h (fun r5 M6 h => ?_)
    refine w_if_ne (tgt := 68) dX8_held_62 (by decide) rfl (fun q => ?_) (fun q => ?_)
    · have h := h.2 q
      refine w_iinc dX8_held_68 rfl rfl ?_
      refine w_goto (tgt := 37) dX8_held_71 (by decide) ?_
      exact w_fgt (fgk (fgk (fgd (fgd (fgk (fgn)))))) h
    · have h := h.1 q
      refine w_iload dX8_held_65 rfl ?_
      exact w_ri rfl dX8_held_67 rfl h
theorem e_X8_heldIn {d : Nat} {Q : Int → zM → Prop} {M : zM} (v1 : Int) (h : wp (Ev d) 8 cX8_heldIn (some .int) Q 0 [some (.ref 1280), some (zI v1), none, none] [] M) : Ev (d + 1) mX8_heldIn [.ref 1280, zI v1] M Q := ⟨kX8_heldIn, Nat.le_of_ble_eq_true rfl, h⟩
theorem v_X8_heldIn_0 {E : zE} {Q : Int → zM → Prop} {M : zM} (v1 : Int)  (h : E mX8_findKnown [.ref 1280, zI v1, zI 0] M (fun r1 M2 => wp E 8 cX8_heldIn (some .int) Q 10 [some (.ref 1280), some (zI v1), some (zI 0), some (zI 0)] [] M2)) : wp E 8 cX8_heldIn (some .int) Q 0 [some (.ref 1280), some (zI v1), none, none] [] M := by
  refine w_aload_n dX8_heldIn_0 rfl ?_
  refine w_iload_n dX8_heldIn_1 rfl ?_
  refine w_iconst dX8_heldIn_2 ?_
  refine w_invVv [_, _] dX8_heldIn_3 l8_254 kX8_findKnown rfl rfl (Nat.le_of_ble_eq_true rfl) rfl ob_1280 h (fun r1 M2 h => ?_)
  refine w_iconst dX8_heldIn_6 ?_
  refine w_istore_n dX8_heldIn_7 (Nat.le_of_ble_eq_true rfl) rfl ?_
  refine w_iconst dX8_heldIn_8 ?_
  refine w_istore_n dX8_heldIn_9 (Nat.le_of_ble_eq_true rfl) rfl ?_
  exact w_fgt (fgk (fgk (fgk (fgk (fgn))))) h
theorem v_X8_heldIn_10 {E : zE} {Q : Int → zM → Prop} {M : zM} (v1 : Int) (v2 : Int) (v3 : Int)  (h : (zw v3 < 12 → (E mX8_everybody [.ref 1280] M (fun r1 M2 => E mX8_isHeld [.ref 1280, zI v3, zI v1, zI r1] M2 (fun r3 M4 => (zw r3 = 0 → (wp E 8 cX8_heldIn (some .int) Q 10 [some (.ref 1280), some (zI v1), some (zI v2), some (zI (v3 + 1))] [] M4)) ∧ (¬ zw r3 = 0 → (wp E 8 cX8_heldIn (some .int) Q 10 [some (.ref 1280), some (zI v1), some (zI (z_or v2 (z_shl 1 v3))), some (zI (v3 + 1))] [] M4)))))) ∧ (¬ zw v3 < 12 → (Q (zw v2) M))) : wp E 8 cX8_heldIn (some .int) Q 10 [some (.ref 1280), some (zI v1), some (zI v2), some (zI v3)] [] M := by
  refine w_iload_n dX8_heldIn_10 rfl ?_
  refine w_bipush dX8_heldIn_11 (by decide) ?_
  refine w_icmp_ge (tgt := 41) dX8_heldIn_13 (by decide) rfl zq_12 (fun q => ?_) (fun q => ?_)
  · have h := h.2 q
    refine w_iload_n dX8_heldIn_41 rfl ?_
    exact w_ri rfl dX8_heldIn_42 rfl h
  · have h := h.1 q
    refine w_aload_n dX8_heldIn_16 rfl ?_
    refine w_iload_n dX8_heldIn_17 rfl ?_
    refine w_iload_n dX8_heldIn_18 rfl ?_
    refine w_aload_n dX8_heldIn_19 rfl ?_
    refine w_invVi [] dX8_heldIn_20 l8_276 kX8_everybody rfl rfl (Nat.le_of_ble_eq_true rfl) (Or.inl rfl) ob_1280 h (fun r1 M2 h => ?_)
    refine w_invVi [_, _, _] dX8_heldIn_23 l8_279 kX8_isHeld rfl rfl (Nat.le_of_ble_eq_true rfl) (Or.inr rfl) ob_1280 h (fun r3 M4 h => ?_)
    refine w_if_eq (tgt := 35) dX8_heldIn_26 (by decide) rfl (fun q => ?_) (fun q => ?_)
    · have h := h.1 q
      refine w_iinc dX8_heldIn_35 rfl rfl ?_
      refine w_goto (tgt := 10) dX8_heldIn_38 (by decide) ?_
      exact w_fgt (fgk (fgk (fgk (fgk (fgn))))) h
    · have h := h.2 q
      refine w_iload_n dX8_heldIn_29 rfl ?_
      refine w_iconst dX8_heldIn_30 ?_
      refine w_iload_n dX8_heldIn_31 rfl ?_
      refine w_ishl dX8_heldIn_32 ?_
      refine w_ior dX8_heldIn_33 ?_
      refine w_istore_n dX8_heldIn_34 (Nat.le_of_ble_eq_true rfl) rfl ?_
      refine w_iinc dX8_heldIn_35 rfl rfl ?_
      refine w_goto (tgt := 10) dX8_heldIn_38 (by decide) ?_
      exact w_fgt (fgk (fgk (fgk (fgk (fgn))))) h
theorem e_X8_free {d : Nat} {Q : Int → zM → Prop} {M : zM} (v1 : Int) (h : wp (Ev d) 8 cX8_free (some .int) Q 0 [some (.ref 1280), some (zI v1)] [] M) : Ev (d + 1) mX8_free [.ref 1280, zI v1] M Q := ⟨kX8_free, Nat.le_of_ble_eq_true rfl, h⟩
theorem v_X8_free_0 {E : zE} {Q : Int → zM → Prop} {M : zM} (v1 : Int)  (h : E mX8_isYear [zI v1] M (fun r1 M2 => (zw r1 = 0 → (Q (-1) M2)) ∧ (¬ zw r1 = 0 → (E mX8_asNamed [.ref 1280] M2 (fun r3 M4 => E mX8_heldIn [.ref 1280, zI v1] M4 (fun r5 M6 => Q (z_and 4095 (z_xor r5 (-1))) M6)))))) : wp E 8 cX8_free (some .int) Q 0 [some (.ref 1280), some (zI v1)] [] M := by
  refine w_iload_n dX8_free_0 rfl ?_
  refine w_invSi [_] dX8_free_1 l8_118 kX8_isYear rfl rfl (Nat.le_of_ble_eq_true rfl) (Or.inr rfl) h (fun r1 M2 h => ?_)
  refine w_if_ne (tgt := 9) dX8_free_4 (by decide) rfl (fun q => ?_) (fun q => ?_)
  · have h := h.2 q
    refine w_aload_n dX8_free_9 rfl ?_
    refine w_invVv [] dX8_free_10 l8_273 kX8_asNamed rfl rfl (Nat.le_of_ble_eq_true rfl) rfl ob_1280 h (fun r3 M4 h => ?_)
    refine w_sipush dX8_free_13 (by decide) ?_
    refine w_aload_n dX8_free_16 rfl ?_
    refine w_iload_n dX8_free_17 rfl ?_
    refine w_invVi [_] dX8_free_18 l8_282 kX8_heldIn rfl rfl (Nat.le_of_ble_eq_true rfl) (Or.inl rfl) ob_1280 h (fun r5 M6 h => ?_)
    refine w_iconst dX8_free_21 ?_
    refine w_ixor dX8_free_22 ?_
    refine w_iand dX8_free_23 ?_
    exact w_ri rfl dX8_free_24 (zx_and _ _) h
  · have h := h.1 q
    refine w_iconst dX8_free_7 ?_
    exact w_ri rfl dX8_free_8 zq_m1 h
theorem e_X8_most {d : Nat} {Q : Int → zM → Prop} {M : zM} (v1 : Int) (h : wp (Ev d) 8 cX8_most (some .int) Q 0 [some (.ref 1280), some (zI v1), none, none, none, none] [] M) : Ev (d + 1) mX8_most [.ref 1280, zI v1] M Q := ⟨kX8_most, Nat.le_of_ble_eq_true rfl, h⟩
theorem v_X8_most_0 {E : zE} {Q : Int → zM → Prop} {M : zM} (v1 : Int)  (h : E mX8_in [zI v1, zI 0, zI 1] M (fun r1 M2 => (zw r1 = 0 → (Q (-1) M2)) ∧ (¬ zw r1 = 0 → (E mX8_asNamed [.ref 1280] M2 (fun r3 M4 => wp E 8 cX8_most (some .int) Q 22 [some (.ref 1280), some (zI v1), some (zI 0), some (zI (-1)), some (zI 0), none] [] M4))))) : wp E 8 cX8_most (some .int) Q 0 [some (.ref 1280), some (zI v1), none, none, none, none] [] M := by
  refine w_iload_n dX8_most_0 rfl ?_
  refine w_iconst dX8_most_1 ?_
  refine w_iconst dX8_most_2 ?_
  refine w_invSi [_, _, _] dX8_most_3 l8_114 kX8_in rfl rfl (Nat.le_of_ble_eq_true rfl) (Or.inr rfl) h (fun r1 M2 h => ?_)
  refine w_if_ne (tgt := 11) dX8_most_6 (by decide) rfl (fun q => ?_) (fun q => ?_)
  · have h := h.2 q
    refine w_aload_n dX8_most_11 rfl ?_
    refine w_invVv [] dX8_most_12 l8_273 kX8_asNamed rfl rfl (Nat.le_of_ble_eq_true rfl) rfl ob_1280 h (fun r3 M4 h => ?_)
    refine w_iconst dX8_most_15 ?_
    refine w_istore_n dX8_most_16 (Nat.le_of_ble_eq_true rfl) rfl ?_
    refine w_iconst dX8_most_17 ?_
    refine w_istore_n dX8_most_18 (Nat.le_of_ble_eq_true rfl) rfl ?_
    refine w_iconst dX8_most_19 ?_
    refine w_istore dX8_most_20 (Nat.le_of_ble_eq_true rfl) rfl ?_
    exact w_fgt (fgk (fgk (fgk (fgk (fgk (fgd (fgn))))))) h
  · have h := h.1 q
    refine w_iconst dX8_most_9 ?_
    exact w_ri rfl dX8_most_10 zq_m1 h
theorem v_X8_most_22 {E : zE} {Q : Int → zM → Prop} {M : zM} (v1 : Int) (v2 : Int) (v3 : Int) (v4 : Int)  (h : (99 < zw v4 → ((zw v1 = 0 → (Q (zw v3) M)) ∧ (¬ zw v1 = 0 → (Q (zw v2) M)))) ∧ (¬ 99 < zw v4 → (E mX8_heldIn [.ref 1280, zI v4] M (fun r1 M2 => E mX8_bitsOf [zI r1] M2 (fun r3 M4 => (zw v3 < zw r3 → (wp E 8 cX8_most (some .int) Q 22 [some (.ref 1280), some (zI v1), some (zI v4), some (zI r3), some (zI (v4 + 1)), none] [] M4)) ∧ (¬ zw v3 < zw r3 → (wp E 8 cX8_most (some .int) Q 22 [some (.ref 1280), some (zI v1), some (zI v2), some (zI v3), some (zI (v4 + 1)), none] [] M4))))))) : wp E 8 cX8_most (some .int) Q 22 [some (.ref 1280), some (zI v1), some (zI v2), some (zI v3), some (zI v4), none] [] M := by
  refine w_iload dX8_most_22 rfl ?_
  refine w_bipush dX8_most_24 (by decide) ?_
  refine w_icmp_gt (tgt := 61) dX8_most_26 (by decide) rfl zq_99 (fun q => ?_) (fun q => ?_)
  · have h := h.1 q
    refine w_iload_n dX8_most_61 rfl ?_
    refine w_if_ne (tgt := 69) dX8_most_62 (by decide) rfl (fun q => ?_) (fun q => ?_)
    · have h := h.2 q
      refine w_iload_n dX8_most_69 rfl ?_
      exact w_ri rfl dX8_most_70 rfl h
    · have h := h.1 q
      refine w_iload_n dX8_most_65 rfl ?_
      refine w_goto (tgt := 70) dX8_most_66 (by decide) ?_
      exact w_ri rfl dX8_most_70 rfl h
  · have h := h.2 q
    refine w_aload_n dX8_most_29 rfl ?_
    refine w_iload dX8_most_30 rfl ?_
    refine w_invVi [_] dX8_most_32 l8_282 kX8_heldIn rfl rfl (Nat.le_of_ble_eq_true rfl) (Or.inl rfl) ob_1280 h (fun r1 M2 h => ?_)
    refine w_invSi [_] dX8_most_35 l8_285 kX8_bitsOf rfl rfl (Nat.le_of_ble_eq_true rfl) (Or.inl rfl) h (fun r3 M4 h => ?_)
    refine w_istore dX8_most_38 (Nat.le_of_ble_eq_true rfl) rfl ?_
    refine w_iload dX8_most_40 rfl ?_
    refine w_iload_n dX8_most_42 rfl ?_
    refine w_icmp_gt (tgt := 49) dX8_most_43 (by decide) rfl rfl (fun q => ?_) (fun q => ?_)
    · have h := h.1 q
      refine w_iload dX8_most_49 rfl ?_
      refine w_istore_n dX8_most_51 (Nat.le_of_ble_eq_true rfl) rfl ?_
      refine w_iload dX8_most_52 rfl ?_
      refine w_istore_n dX8_most_54 (Nat.le_of_ble_eq_true rfl) rfl ?_
      refine w_iinc dX8_most_55 rfl rfl ?_
      refine w_goto (tgt := 22) dX8_most_58 (by decide) ?_
      exact w_fgt (fgk (fgk (fgk (fgk (fgk (fgd (fgn))))))) h
    · have h := h.2 q
      refine w_goto (tgt := 55) dX8_most_46 (by decide) ?_
      refine w_iinc dX8_most_55 rfl rfl ?_
      refine w_goto (tgt := 22) dX8_most_58 (by decide) ?_
      exact w_fgt (fgk (fgk (fgk (fgk (fgk (fgd (fgn))))))) h
theorem e_X8_aheadOf {d : Nat} {Q : Int → zM → Prop} {M : zM} (v1 : Int) (h : wp (Ev d) 8 cX8_aheadOf (some .int) Q 0 [some (.ref 1280), some (zI v1), none, none] [] M) : Ev (d + 1) mX8_aheadOf [.ref 1280, zI v1] M Q := ⟨kX8_aheadOf, Nat.le_of_ble_eq_true rfl, h⟩
theorem v_X8_aheadOf_0 {E : zE} {Q : Int → zM → Prop} {M : zM} (v1 : Int)  (h : wp E 8 cX8_aheadOf (some .int) Q 4 [some (.ref 1280), some (zI v1), some (zI 0), some (zI 0)] [] M) : wp E 8 cX8_aheadOf (some .int) Q 0 [some (.ref 1280), some (zI v1), none, none] [] M := by
  refine w_iconst dX8_aheadOf_0 ?_
  refine w_istore_n dX8_aheadOf_1 (Nat.le_of_ble_eq_true rfl) rfl ?_
  refine w_iconst dX8_aheadOf_2 ?_
  refine w_istore_n dX8_aheadOf_3 (Nat.le_of_ble_eq_true rfl) rfl ?_
  exact w_fgt (fgk (fgk (fgk (fgk (fgn))))) h
theorem v_X8_aheadOf_4 {E : zE} {Q : Int → zM → Prop} {M : zM} (v1 : Int) (v2 : Int) (v3 : Int)  (h : (zw v3 < zg M 1280 1 → (E mX8_isAhead [.ref 1280, zI v3, zI v1] M (fun r1 M2 => (zw r1 = 0 → (wp E 8 cX8_aheadOf (some .int) Q 4 [some (.ref 1280), some (zI v1), some (zI v2), some (zI (v3 + 1))] [] M2)) ∧ (¬ zw r1 = 0 → (wp E 8 cX8_aheadOf (some .int) Q 4 [some (.ref 1280), some (zI v1), some (zI (z_or v2 (z_shl 1 v3))), some (zI (v3 + 1))] [] M2))))) ∧ (¬ zw v3 < zg M 1280 1 → (Q (zw v2) M))) : wp E 8 cX8_aheadOf (some .int) Q 4 [some (.ref 1280), some (zI v1), some (zI v2), some (zI v3)] [] M := by
  refine w_iload_n dX8_aheadOf_4 rfl ?_
  refine w_aload_n dX8_aheadOf_5 rfl ?_
  refine w_gfI (ci := 8) (k := 1) dX8_aheadOf_6 f8_111 ob_1280 rfl ?_
  refine w_icmp_ge (tgt := 33) dX8_aheadOf_9 (by decide) rfl (zw_zg _ _ _) (fun q => ?_) (fun q => ?_)
  · have h := h.2 q
    refine w_iload_n dX8_aheadOf_33 rfl ?_
    exact w_ri rfl dX8_aheadOf_34 rfl h
  · have h := h.1 q
    refine w_aload_n dX8_aheadOf_12 rfl ?_
    refine w_iload_n dX8_aheadOf_13 rfl ?_
    refine w_iload_n dX8_aheadOf_14 rfl ?_
    refine w_invVi [_, _] dX8_aheadOf_15 l8_168 kX8_isAhead rfl rfl (Nat.le_of_ble_eq_true rfl) (Or.inr rfl) ob_1280 h (fun r1 M2 h => ?_)
    refine w_if_eq (tgt := 27) dX8_aheadOf_18 (by decide) rfl (fun q => ?_) (fun q => ?_)
    · have h := h.1 q
      refine w_iinc dX8_aheadOf_27 rfl rfl ?_
      refine w_goto (tgt := 4) dX8_aheadOf_30 (by decide) ?_
      exact w_fgt (fgk (fgk (fgk (fgk (fgn))))) h
    · have h := h.2 q
      refine w_iload_n dX8_aheadOf_21 rfl ?_
      refine w_iconst dX8_aheadOf_22 ?_
      refine w_iload_n dX8_aheadOf_23 rfl ?_
      refine w_ishl dX8_aheadOf_24 ?_
      refine w_ior dX8_aheadOf_25 ?_
      refine w_istore_n dX8_aheadOf_26 (Nat.le_of_ble_eq_true rfl) rfl ?_
      refine w_iinc dX8_aheadOf_27 rfl rfl ?_
      refine w_goto (tgt := 4) dX8_aheadOf_30 (by decide) ?_
      exact w_fgt (fgk (fgk (fgk (fgk (fgn))))) h
theorem e_X8_judge {d : Nat} {Q : Int → zM → Prop} {M : zM}  (h : wp (Ev d) 8 cX8_judge (some .int) Q 0 [some (.ref 1280), none, none] [] M) : Ev (d + 1) mX8_judge [.ref 1280] M Q := ⟨kX8_judge, Nat.le_of_ble_eq_true rfl, h⟩
theorem v_X8_judge_0 {E : zE} {Q : Int → zM → Prop} {M : zM}   (h : E mX8_asNamed [.ref 1280] M (fun r1 M2 => wp E 8 cX8_judge (some .int) Q 6 [some (.ref 1280), some (zI 0), none] [] M2)) : wp E 8 cX8_judge (some .int) Q 0 [some (.ref 1280), none, none] [] M := by
  refine w_aload_n dX8_judge_0 rfl ?_
  refine w_invVv [] dX8_judge_1 l8_273 kX8_asNamed rfl rfl (Nat.le_of_ble_eq_true rfl) rfl ob_1280 h (fun r1 M2 h => ?_)
  refine w_iconst dX8_judge_4 ?_
  refine w_istore_n dX8_judge_5 (Nat.le_of_ble_eq_true rfl) rfl ?_
  exact w_fgt (fgk (fgk (fgd (fgn)))) h
theorem v_X8_judge_6 {E : zE} {Q : Int → zM → Prop} {M : zM} (v1 : Int)  (h : (zw v1 < zg M 1280 1 → (E mX8_personAt [.ref 1280, zI v1] M (fun r1 M2 => (0 ≤ zw r1) ∧ ((zw r1 < 12) ∧ ((zg M2 1285 (zw r1).toNat < 0 → (wp E 8 cX8_judge (some .int) Q 6 [some (.ref 1280), some (zI (v1 + 1)), none] [] M2)) ∧ (¬ zg M2 1285 (zw r1).toNat < 0 → ((0 ≤ zw r1) ∧ ((zw r1 < 12) ∧ (E mX8_findKnown [.ref 1280, zI (zg M2 1283 (zw r1).toNat), zI 0] M2 (fun r7 M8 => (0 ≤ zw r1) ∧ ((zw r1 < 12) ∧ ((0 ≤ zw r1) ∧ ((zw r1 < 12) ∧ (E mX8_aheadOf [.ref 1280, zI r1] M8 (fun r13 M14 => E mX8_isHeld [.ref 1280, zI (zg M8 1285 (zw r1).toNat), zI (zg M8 1283 (zw r1).toNat), zI r13] M14 (fun r15 M16 => (zw r15 = 0 → (wp E 8 cX8_judge (some .int) Q 6 [some (.ref 1280), some (zI (v1 + 1)), none] [] M16)) ∧ (¬ zw r15 = 0 → (Q (zw r1) M16)))))))))))))))))) ∧ (¬ zw v1 < zg M 1280 1 → (Q (-2) M))) : wp E 8 cX8_judge (some .int) Q 6 [some (.ref 1280), some (zI v1), none] [] M := by
  refine w_iload_n dX8_judge_6 rfl ?_
  refine w_aload_n dX8_judge_7 rfl ?_
  refine w_gfI (ci := 8) (k := 1) dX8_judge_8 f8_111 ob_1280 rfl ?_
  refine w_icmp_ge (tgt := 75) dX8_judge_11 (by decide) rfl (zw_zg _ _ _) (fun q => ?_) (fun q => ?_)
  · have h := h.2 q
    refine w_bipush dX8_judge_75 (by decide) ?_
    exact w_ri rfl dX8_judge_77 zq_m2 h
  · have h := h.1 q
    refine w_aload_n dX8_judge_14 rfl ?_
    refine w_iload_n dX8_judge_15 rfl ?_
    refine w_invVi [_] dX8_judge_16 l8_288 kX8_personAt rfl rfl (Nat.le_of_ble_eq_true rfl) (Or.inl rfl) ob_1280 h (fun r1 M2 h => ?_)
    refine w_istore_n dX8_judge_19 (Nat.le_of_ble_eq_true rfl) rfl ?_
    refine w_aload_n dX8_judge_20 rfl ?_
    refine w_gfA (ci := 8) (k := 4) dX8_judge_21 f8_16 ob_1280 rfl ?_
    refine w_iload_n dX8_judge_24 rfl ?_
    obtain ⟨c3, h⟩ := h
    obtain ⟨c4, h⟩ := h
    refine w_iald dX8_judge_25 rfl (a8_4 ob_1280) c3 c4 ?_
    refine w_if_ge (tgt := 32) dX8_judge_26 (by decide) (zw_zg _ _ _) (fun q => ?_) (fun q => ?_)
    · have h := h.2 q
      refine w_aload_n dX8_judge_32 rfl ?_
      refine w_aload_n dX8_judge_33 rfl ?_
      refine w_gfA (ci := 8) (k := 2) dX8_judge_34 f8_7 ob_1280 rfl ?_
      refine w_iload_n dX8_judge_37 rfl ?_
      obtain ⟨c5, h⟩ := h
      obtain ⟨c6, h⟩ := h
      refine w_iald dX8_judge_38 rfl (a8_2 ob_1280) c5 c6 ?_
      refine w_iconst dX8_judge_39 ?_
      refine w_invVv [_, _] dX8_judge_40 l8_254 kX8_findKnown rfl rfl (Nat.le_of_ble_eq_true rfl) rfl ob_1280 h (fun r7 M8 h => ?_)
      refine w_aload_n dX8_judge_43 rfl ?_
      refine w_aload_n dX8_judge_44 rfl ?_
      refine w_gfA (ci := 8) (k := 4) dX8_judge_45 f8_16 ob_1280 rfl ?_
      refine w_iload_n dX8_judge_48 rfl ?_
      obtain ⟨c9, h⟩ := h
      obtain ⟨c10, h⟩ := h
      refine w_iald dX8_judge_49 rfl (a8_4 ob_1280) c9 c10 ?_
      refine w_aload_n dX8_judge_50 rfl ?_
      refine w_gfA (ci := 8) (k := 2) dX8_judge_51 f8_7 ob_1280 rfl ?_
      refine w_iload_n dX8_judge_54 rfl ?_
      obtain ⟨c11, h⟩ := h
      obtain ⟨c12, h⟩ := h
      refine w_iald dX8_judge_55 rfl (a8_2 ob_1280) c11 c12 ?_
      refine w_aload_n dX8_judge_56 rfl ?_
      refine w_iload_n dX8_judge_57 rfl ?_
      refine w_invVi [_] dX8_judge_58 l8_291 kX8_aheadOf rfl rfl (Nat.le_of_ble_eq_true rfl) (Or.inl rfl) ob_1280 h (fun r13 M14 h => ?_)
      refine w_invVi [_, _, _] dX8_judge_61 l8_279 kX8_isHeld rfl rfl (Nat.le_of_ble_eq_true rfl) (Or.inr rfl) ob_1280 h (fun r15 M16 h => ?_)
      refine w_if_eq (tgt := 69) dX8_judge_64 (by decide) rfl (fun q => ?_) (fun q => ?_)
      · have h := h.1 q
        refine w_iinc dX8_judge_69 rfl rfl ?_
        refine w_goto (tgt := 6) dX8_judge_72 (by decide) ?_
        exact w_fgt (fgk (fgk (fgd (fgn)))) h
      · have h := h.2 q
        refine w_iload_n dX8_judge_67 rfl ?_
        exact w_ri rfl dX8_judge_68 rfl h
    · have h := h.1 q
      refine w_goto (tgt := 69) dX8_judge_29 (by decide) ?_
      refine w_iinc dX8_judge_69 rfl rfl ?_
      refine w_goto (tgt := 6) dX8_judge_72 (by decide) ?_
      exact w_fgt (fgk (fgk (fgd (fgn)))) h
theorem e_X8_latestHeld {d : Nat} {Q : Int → zM → Prop} {M : zM} (v1 : Int) (v2 : Int) (v3 : Int) (h : wp (Ev d) 8 cX8_latestHeld (some .int) Q 0 [some (.ref 1280), some (zI v1), some (zI v2), some (zI v3), none] [] M) : Ev (d + 1) mX8_latestHeld [.ref 1280, zI v1, zI v2, zI v3] M Q := ⟨kX8_latestHeld, Nat.le_of_ble_eq_true rfl, h⟩
theorem v_X8_latestHeld_0 {E : zE} {Q : Int → zM → Prop} {M : zM} (v1 : Int) (v2 : Int) (v3 : Int)  (h : wp E 8 cX8_latestHeld (some .int) Q 5 [some (.ref 1280), some (zI v1), none, some (zI v3), some (zI (v2 - 1))] [] M) : wp E 8 cX8_latestHeld (some .int) Q 0 [some (.ref 1280), some (zI v1), some (zI v2), some (zI v3), none] [] M := by
  refine w_iload_n dX8_latestHeld_0 rfl ?_
  refine w_iconst dX8_latestHeld_1 ?_
  refine w_isub dX8_latestHeld_2 ?_
  refine w_istore dX8_latestHeld_3 (Nat.le_of_ble_eq_true rfl) rfl ?_
  exact w_fgt (fgk (fgk (fgd (fgk (fgk (fgn)))))) h
theorem v_X8_latestHeld_5 {E : zE} {Q : Int → zM → Prop} {M : zM} (v1 : Int) (v3 : Int) (v4 : Int)  (h : (zw v4 < 0 → (Q (-1) M)) ∧ (¬ zw v4 < 0 → (E mX8_findKnown [.ref 1280, zI v4, zI 0] M (fun r1 M2 => E mX8_isHeld [.ref 1280, zI v1, zI v4, zI v3] M2 (fun r3 M4 => (zw r3 = 0 → (wp E 8 cX8_latestHeld (some .int) Q 5 [some (.ref 1280), some (zI v1), none, some (zI v3), some (zI (v4 + (-1)))] [] M4)) ∧ (¬ zw r3 = 0 → (Q (zw v4) M4))))))) : wp E 8 cX8_latestHeld (some .int) Q 5 [some (.ref 1280), some (zI v1), none, some (zI v3), some (zI v4)] [] M := by
  refine w_iload dX8_latestHeld_5 rfl ?_
  refine w_if_lt (tgt := 37) dX8_latestHeld_7 (by decide) rfl (fun q => ?_) (fun q => ?_)
  · have h := h.1 q
    refine w_iconst dX8_latestHeld_37 ?_
    exact w_ri rfl dX8_latestHeld_38 zq_m1 h
  · have h := h.2 q
    refine w_aload_n dX8_latestHeld_10 rfl ?_
    refine w_iload dX8_latestHeld_11 rfl ?_
    refine w_iconst dX8_latestHeld_13 ?_
    refine w_invVv [_, _] dX8_latestHeld_14 l8_254 kX8_findKnown rfl rfl (Nat.le_of_ble_eq_true rfl) rfl ob_1280 h (fun r1 M2 h => ?_)
    refine w_aload_n dX8_latestHeld_17 rfl ?_
    refine w_iload_n dX8_latestHeld_18 rfl ?_
    refine w_iload dX8_latestHeld_19 rfl ?_
    refine w_iload_n dX8_latestHeld_21 rfl ?_
    refine w_invVi [_, _, _] dX8_latestHeld_22 l8_279 kX8_isHeld rfl rfl (Nat.le_of_ble_eq_true rfl) (Or.inr rfl) ob_1280 h (fun r3 M4 h => ?_)
    refine w_if_eq (tgt := 31) dX8_latestHeld_25 (by decide) rfl (fun q => ?_) (fun q => ?_)
    · have h := h.1 q
      refine w_iinc dX8_latestHeld_31 rfl rfl ?_
      refine w_goto (tgt := 5) dX8_latestHeld_34 (by decide) ?_
      exact w_fgt (fgk (fgk (fgd (fgk (fgk (fgn)))))) h
    · have h := h.2 q
      refine w_iload dX8_latestHeld_28 rfl ?_
      exact w_ri rfl dX8_latestHeld_30 rfl h
theorem e_X8_given {d : Nat} {Q : Int → zM → Prop} {M : zM} (v1 : Int) (v2 : Int) (h : wp (Ev d) 8 cX8_given (some .int) Q 0 [some (.ref 1280), some (zI v1), some (zI v2), none, none, none, none, none, none] [] M) : Ev (d + 1) mX8_given [.ref 1280, zI v1, zI v2] M Q := ⟨kX8_given, Nat.le_of_ble_eq_true rfl, h⟩
theorem v_X8_given_0 {E : zE} {Q : Int → zM → Prop} {M : zM} (v1 : Int) (v2 : Int)  (h : E mX8_aheadOf [.ref 1280, zI v1] M (fun r1 M2 => (0 ≤ zw v1) ∧ ((zw v1 < 12) ∧ (E mX8_findKnown [.ref 1280, zI (zg M2 1283 (zw v1).toNat), zI 0] M2 (fun r5 M6 => wp E 8 cX8_given (some .int) Q 23 [some (.ref 1280), some (zI v1), some (zI v2), some (zI r1), some (zI 0), some (zI 0), none, none, none] [] M6))))) : wp E 8 cX8_given (some .int) Q 0 [some (.ref 1280), some (zI v1), some (zI v2), none, none, none, none, none, none] [] M := by
  refine w_aload_n dX8_given_0 rfl ?_
  refine w_iload_n dX8_given_1 rfl ?_
  refine w_invVi [_] dX8_given_2 l8_291 kX8_aheadOf rfl rfl (Nat.le_of_ble_eq_true rfl) (Or.inl rfl) ob_1280 h (fun r1 M2 h => ?_)
  refine w_istore_n dX8_given_5 (Nat.le_of_ble_eq_true rfl) rfl ?_
  refine w_aload_n dX8_given_6 rfl ?_
  refine w_aload_n dX8_given_7 rfl ?_
  refine w_gfA (ci := 8) (k := 2) dX8_given_8 f8_7 ob_1280 rfl ?_
  refine w_iload_n dX8_given_11 rfl ?_
  obtain ⟨c3, h⟩ := h
  obtain ⟨c4, h⟩ := h
  refine w_iald dX8_given_12 rfl (a8_2 ob_1280) c3 c4 ?_
  refine w_iconst dX8_given_13 ?_
  refine w_invVv [_, _] dX8_given_14 l8_254 kX8_findKnown rfl rfl (Nat.le_of_ble_eq_true rfl) rfl ob_1280 h (fun r5 M6 h => ?_)
  refine w_iconst dX8_given_17 ?_
  refine w_istore dX8_given_18 (Nat.le_of_ble_eq_true rfl) rfl ?_
  refine w_iconst dX8_given_20 ?_
  refine w_istore dX8_given_21 (Nat.le_of_ble_eq_true rfl) rfl ?_
  exact w_fgt (fgk (fgk (fgk (fgk (fgk (fgk (fgd (fgd (fgd (fgn)))))))))) h
theorem v_X8_given_23 {E : zE} {Q : Int → zM → Prop} {M : zM} (v1 : Int) (v2 : Int) (v3 : Int) (v4 : Int) (v5 : Int)  (h : (zw v5 < 12 → ((0 ≤ zw v1) ∧ ((zw v1 < 12) ∧ (E mX8_isHeld [.ref 1280, zI v5, zI (zg M 1283 (zw v1).toNat), zI v3] M (fun r3 M4 => (zw r3 = 0 → (wp E 8 cX8_given (some .int) Q 23 [some (.ref 1280), some (zI v1), some (zI v2), some (zI v3), some (zI (z_or v4 (z_shl 1 v5))), some (zI (v5 + 1)), none, none, none] [] M4)) ∧ (¬ zw r3 = 0 → (wp E 8 cX8_given (some .int) Q 23 [some (.ref 1280), some (zI v1), some (zI v2), some (zI v3), some (zI v4), some (zI (v5 + 1)), none, none, none] [] M4))))))) ∧ (¬ zw v5 < 12 → (wp E 8 cX8_given (some .int) Q 71 [some (.ref 1280), some (zI v1), some (zI v2), some (zI v3), some (zI v4), some (zI (-2)), some (zI 0), some (zI 0), none] [] M))) : wp E 8 cX8_given (some .int) Q 23 [some (.ref 1280), some (zI v1), some (zI v2), some (zI v3), some (zI v4), some (zI v5), none, none, none] [] M := by
  refine w_iload dX8_given_23 rfl ?_
  refine w_bipush dX8_given_25 (by decide) ?_
  refine w_icmp_ge (tgt := 61) dX8_given_27 (by decide) rfl zq_12 (fun q => ?_) (fun q => ?_)
  · have h := h.2 q
    refine w_bipush dX8_given_61 (by decide) ?_
    refine w_istore dX8_given_63 (Nat.le_of_ble_eq_true rfl) rfl ?_
    refine w_iconst dX8_given_65 ?_
    refine w_istore dX8_given_66 (Nat.le_of_ble_eq_true rfl) rfl ?_
    refine w_iconst dX8_given_68 ?_
    refine w_istore dX8_given_69 (Nat.le_of_ble_eq_true rfl) rfl ?_
    exact w_fgt (fgk (fgk (fgk (fgk (fgk (fgk (fgk (fgk (fgd (fgn)))))))))) h
  · have h := h.1 q
    refine w_aload_n dX8_given_30 rfl ?_
    refine w_iload dX8_given_31 rfl ?_
    refine w_aload_n dX8_given_33 rfl ?_
    refine w_gfA (ci := 8) (k := 2) dX8_given_34 f8_7 ob_1280 rfl ?_
    refine w_iload_n dX8_given_37 rfl ?_
    obtain ⟨c1, h⟩ := h
    obtain ⟨c2, h⟩ := h
    refine w_iald dX8_given_38 rfl (a8_2 ob_1280) c1 c2 ?_
    refine w_iload_n dX8_given_39 rfl ?_
    refine w_invVi [_, _, _] dX8_given_40 l8_279 kX8_isHeld rfl rfl (Nat.le_of_ble_eq_true rfl) (Or.inr rfl) ob_1280 h (fun r3 M4 h => ?_)
    refine w_if_ne (tgt := 55) dX8_given_43 (by decide) rfl (fun q => ?_) (fun q => ?_)
    · have h := h.2 q
      refine w_iinc dX8_given_55 rfl rfl ?_
      refine w_goto (tgt := 23) dX8_given_58 (by decide) ?_
      exact w_fgt (fgk (fgk (fgk (fgk (fgk (fgk (fgd (fgd (fgd (fgn)))))))))) h
    · have h := h.1 q
      refine w_iload dX8_given_46 rfl ?_
      refine w_iconst dX8_given_48 ?_
      refine w_iload dX8_given_49 rfl ?_
      refine w_ishl dX8_given_51 ?_
      refine w_ior dX8_given_52 ?_
      refine w_istore dX8_given_53 (Nat.le_of_ble_eq_true rfl) rfl ?_
      refine w_iinc dX8_given_55 rfl rfl ?_
      refine w_goto (tgt := 23) dX8_given_58 (by decide) ?_
      exact w_fgt (fgk (fgk (fgk (fgk (fgk (fgk (fgd (fgd (fgd (fgn)))))))))) h
theorem v_X8_given_71 {E : zE} {Q : Int → zM → Prop} {M : zM} (v1 : Int) (v2 : Int) (v3 : Int) (v4 : Int) (v5 : Int) (v6 : Int) (v7 : Int)  (h : (zw v7 < 12 → ((z_and (z_shr v4 v7) 1 = 0 → (wp E 8 cX8_given (some .int) Q 71 [some (.ref 1280), some (zI v1), some (zI v2), some (zI v3), some (zI v4), some (zI v5), some (zI v6), some (zI (v7 + 1)), none] [] M)) ∧ (¬ z_and (z_shr v4 v7) 1 = 0 → ((zw v2 = 0 → (wp E 8 cX8_given (some .int) Q 127 [some (.ref 1280), some (zI v1), some (zI v2), some (zI v3), some (zI v4), some (zI v5), some (zI v6), some (zI v7), none] [zI 0] M)) ∧ (¬ zw v2 = 0 → ((zw v2 = 1 → ((0 ≤ zw v1) ∧ ((zw v1 < 12) ∧ (E mX8_latestHeld [.ref 1280, zI v7, zI (zg M 1283 (zw v1).toNat), zI v3] M (fun r5 M6 => wp E 8 cX8_given (some .int) Q 127 [some (.ref 1280), some (zI v1), some (zI v2), some (zI v3), some (zI v4), some (zI v5), some (zI v6), some (zI v7), none] [zI r5] M6))))) ∧ (¬ zw v2 = 1 → ((0 ≤ zw v7) ∧ ((zw v7 < 12) ∧ (wp E 8 cX8_given (some .int) Q 127 [some (.ref 1280), some (zI v1), some (zI v2), some (zI v3), some (zI v4), some (zI v5), some (zI v6), some (zI v7), none] [zI (zg M 1291 (zw v7).toNat)] M)))))))))) ∧ (¬ zw v7 < 12 → (Q (zw v5) M))) : wp E 8 cX8_given (some .int) Q 71 [some (.ref 1280), some (zI v1), some (zI v2), some (zI v3), some (zI v4), some (zI v5), some (zI v6), some (zI v7), none] [] M := by
  refine w_iload dX8_given_71 rfl ?_
  refine w_bipush dX8_given_73 (by decide) ?_
  refine w_icmp_ge (tgt := 158) dX8_given_75 (by decide) rfl zq_12 (fun q => ?_) (fun q => ?_)
  · have h := h.2 q
    refine w_iload dX8_given_158 rfl ?_
    exact w_ri rfl dX8_given_160 rfl h
  · have h := h.1 q
    refine w_iload dX8_given_78 rfl ?_
    refine w_iload dX8_given_80 rfl ?_
    refine w_ishr dX8_given_82 ?_
    refine w_iconst dX8_given_83 ?_
    refine w_iand dX8_given_84 ?_
    refine w_if_ne (tgt := 91) dX8_given_85 (by decide) (zx_and _ _) (fun q => ?_) (fun q => ?_)
    · have h := h.2 q
      refine w_iload_n dX8_given_91 rfl ?_
      refine w_if_ne (tgt := 99) dX8_given_92 (by decide) rfl (fun q => ?_) (fun q => ?_)
      · have h := h.2 q
        refine w_iload_n dX8_given_99 rfl ?_
        refine w_iconst dX8_given_100 ?_
        refine w_icmp_ne (tgt := 120) dX8_given_101 (by decide) rfl zq_1 (fun q => ?_) (fun q => ?_)
        · have h := h.2 q
          refine w_aload_n dX8_given_120 rfl ?_
          refine w_gfA (ci := 8) (k := 10) dX8_given_121 f8_28 ob_1280 rfl ?_
          refine w_iload dX8_given_124 rfl ?_
          obtain ⟨c1, h⟩ := h
          obtain ⟨c2, h⟩ := h
          refine w_iald dX8_given_126 rfl (a8_10 ob_1280) c1 c2 ?_
          exact w_fgt (fgk (fgk (fgk (fgk (fgk (fgk (fgk (fgk (fgd (fgn)))))))))) h
        · have h := h.1 q
          refine w_aload_n dX8_given_104 rfl ?_
          refine w_iload dX8_given_105 rfl ?_
          refine w_aload_n dX8_given_107 rfl ?_
          refine w_gfA (ci := 8) (k := 2) dX8_given_108 f8_7 ob_1280 rfl ?_
          refine w_iload_n dX8_given_111 rfl ?_
          obtain ⟨c3, h⟩ := h
          obtain ⟨c4, h⟩ := h
          refine w_iald dX8_given_112 rfl (a8_2 ob_1280) c3 c4 ?_
          refine w_iload_n dX8_given_113 rfl ?_
          refine w_invVi [_, _, _] dX8_given_114 l8_294 kX8_latestHeld rfl rfl (Nat.le_of_ble_eq_true rfl) (Or.inl rfl) ob_1280 h (fun r5 M6 h => ?_)
          refine w_goto (tgt := 127) dX8_given_117 (by decide) ?_
          exact w_fgt (fgk (fgk (fgk (fgk (fgk (fgk (fgk (fgk (fgd (fgn)))))))))) h
      · have h := h.1 q
        refine w_iconst dX8_given_95 ?_
        refine w_goto (tgt := 127) dX8_given_96 (by decide) ?_
        exact w_fgt (fgk (fgk (fgk (fgk (fgk (fgk (fgk (fgk (fgd (fgn)))))))))) h
    · have h := h.1 q
      refine w_goto (tgt := 152) dX8_given_88 (by decide) ?_
      refine w_iinc dX8_given_152 rfl rfl ?_
      refine w_goto (tgt := 71) dX8_given_155 (by decide) ?_
      exact w_fgt (fgk (fgk (fgk (fgk (fgk (fgk (fgk (fgk (fgd (fgn)))))))))) h
theorem v_X8_given_127 {E : zE} {Q : Int → zM → Prop} {M : zM} (v1 : Int) (v2 : Int) (v3 : Int) (v4 : Int) (v5 : Int) (v6 : Int) (v7 : Int) (s0 : Int)  (h : (zw v5 < 0 → (wp E 8 cX8_given (some .int) Q 71 [some (.ref 1280), some (zI v1), some (zI v2), some (zI v3), some (zI v4), some (zI v7), some (zI s0), some (zI (v7 + 1)), none] [] M)) ∧ (¬ zw v5 < 0 → ((zw v6 < zw s0 → (wp E 8 cX8_given (some .int) Q 71 [some (.ref 1280), some (zI v1), some (zI v2), some (zI v3), some (zI v4), some (zI v7), some (zI s0), some (zI (v7 + 1)), none] [] M)) ∧ (¬ zw v6 < zw s0 → (wp E 8 cX8_given (some .int) Q 71 [some (.ref 1280), some (zI v1), some (zI v2), some (zI v3), some (zI v4), some (zI v5), some (zI v6), some (zI (v7 + 1)), none] [] M))))) : wp E 8 cX8_given (some .int) Q 127 [some (.ref 1280), some (zI v1), some (zI v2), some (zI v3), some (zI v4), some (zI v5), some (zI v6), some (zI v7), none] [zI s0] M := by
  refine w_istore dX8_given_127 (Nat.le_of_ble_eq_true rfl) rfl ?_
  refine w_iload dX8_given_129 rfl ?_
  refine w_if_lt (tgt := 144) dX8_given_131 (by decide) rfl (fun q => ?_) (fun q => ?_)
  · have h := h.1 q
    refine w_iload dX8_given_144 rfl ?_
    refine w_istore dX8_given_146 (Nat.le_of_ble_eq_true rfl) rfl ?_
    refine w_iload dX8_given_148 rfl ?_
    refine w_istore dX8_given_150 (Nat.le_of_ble_eq_true rfl) rfl ?_
    refine w_iinc dX8_given_152 rfl rfl ?_
    refine w_goto (tgt := 71) dX8_given_155 (by decide) ?_
    exact w_fgt (fgk (fgk (fgk (fgk (fgk (fgk (fgk (fgk (fgd (fgn)))))))))) h
  · have h := h.2 q
    refine w_iload dX8_given_134 rfl ?_
    refine w_iload dX8_given_136 rfl ?_
    refine w_icmp_gt (tgt := 144) dX8_given_138 (by decide) rfl rfl (fun q => ?_) (fun q => ?_)
    · have h := h.1 q
      refine w_iload dX8_given_144 rfl ?_
      refine w_istore dX8_given_146 (Nat.le_of_ble_eq_true rfl) rfl ?_
      refine w_iload dX8_given_148 rfl ?_
      refine w_istore dX8_given_150 (Nat.le_of_ble_eq_true rfl) rfl ?_
      refine w_iinc dX8_given_152 rfl rfl ?_
      refine w_goto (tgt := 71) dX8_given_155 (by decide) ?_
      exact w_fgt (fgk (fgk (fgk (fgk (fgk (fgk (fgk (fgk (fgd (fgn)))))))))) h
    · have h := h.2 q
      refine w_goto (tgt := 152) dX8_given_141 (by decide) ?_
      refine w_iinc dX8_given_152 rfl rfl ?_
      refine w_goto (tgt := 71) dX8_given_155 (by decide) ?_
      exact w_fgt (fgk (fgk (fgk (fgk (fgk (fgk (fgk (fgk (fgd (fgn)))))))))) h
theorem e_X8_give {d : Nat} {Q : Int → zM → Prop} {M : zM} (v1 : Int) (v2 : Int) (h : wp (Ev d) 8 cX8_give (some .int) Q 0 [some (.ref 1280), some (zI v1), some (zI v2), none] [] M) : Ev (d + 1) mX8_give [.ref 1280, zI v1, zI v2] M Q := ⟨kX8_give, Nat.le_of_ble_eq_true rfl, h⟩
theorem v_X8_give_0 {E : zE} {Q : Int → zM → Prop} {M : zM} (v1 : Int) (v2 : Int)  (h : E mX8_isPerson [.ref 1280, zI v1] M (fun r1 M2 => (zw r1 = 0 → (Q (-1) M2)) ∧ (¬ zw r1 = 0 → (E mX8_in [zI v2, zI 0, zI 2] M2 (fun r3 M4 => (zw r3 = 0 → (Q (-1) M4)) ∧ (¬ zw r3 = 0 → ((0 ≤ zw v1) ∧ ((zw v1 < 12) ∧ ((zg M4 1285 (zw v1).toNat < 0 → (E mX8_asNamed [.ref 1280] M4 (fun r7 M8 => E mX8_given [.ref 1280, zI v1, zI v2] M8 (fun r9 M10 => (zw r9 < 0 → (Q (zw r9) M10)) ∧ (¬ zw r9 < 0 → ((0 ≤ zw v1) ∧ ((zw v1 < 12) ∧ (∀ M13 : zM, M13 = zs M10 1285 (zw v1).toNat r9 → (Q (zw r9) M13))))))))) ∧ (¬ zg M4 1285 (zw v1).toNat < 0 → (Q (-5) M4))))))))))) : wp E 8 cX8_give (some .int) Q 0 [some (.ref 1280), some (zI v1), some (zI v2), none] [] M := by
  refine w_aload_n dX8_give_0 rfl ?_
  refine w_iload_n dX8_give_1 rfl ?_
  refine w_invVi [_] dX8_give_2 l8_135 kX8_isPerson rfl rfl (Nat.le_of_ble_eq_true rfl) (Or.inr rfl) ob_1280 h (fun r1 M2 h => ?_)
  refine w_if_eq (tgt := 17) dX8_give_5 (by decide) rfl (fun q => ?_) (fun q => ?_)
  · have h := h.1 q
    refine w_iconst dX8_give_17 ?_
    exact w_ri rfl dX8_give_18 zq_m1 h
  · have h := h.2 q
    refine w_iload_n dX8_give_8 rfl ?_
    refine w_iconst dX8_give_9 ?_
    refine w_iconst dX8_give_10 ?_
    refine w_invSi [_, _, _] dX8_give_11 l8_114 kX8_in rfl rfl (Nat.le_of_ble_eq_true rfl) (Or.inr rfl) h (fun r3 M4 h => ?_)
    refine w_if_ne (tgt := 19) dX8_give_14 (by decide) rfl (fun q => ?_) (fun q => ?_)
    · have h := h.2 q
      refine w_aload_n dX8_give_19 rfl ?_
      refine w_gfA (ci := 8) (k := 4) dX8_give_20 f8_16 ob_1280 rfl ?_
      refine w_iload_n dX8_give_23 rfl ?_
      obtain ⟨c5, h⟩ := h
      obtain ⟨c6, h⟩ := h
      refine w_iald dX8_give_24 rfl (a8_4 ob_1280) c5 c6 ?_
      refine w_if_lt (tgt := 31) dX8_give_25 (by decide) (zw_zg _ _ _) (fun q => ?_) (fun q => ?_)
      · have h := h.1 q
        refine w_aload_n dX8_give_31 rfl ?_
        refine w_invVv [] dX8_give_32 l8_273 kX8_asNamed rfl rfl (Nat.le_of_ble_eq_true rfl) rfl ob_1280 h (fun r7 M8 h => ?_)
        refine w_aload_n dX8_give_35 rfl ?_
        refine w_iload_n dX8_give_36 rfl ?_
        refine w_iload_n dX8_give_37 rfl ?_
        refine w_invVi [_, _] dX8_give_38 l8_297 kX8_given rfl rfl (Nat.le_of_ble_eq_true rfl) (Or.inl rfl) ob_1280 h (fun r9 M10 h => ?_)
        refine w_istore_n dX8_give_41 (Nat.le_of_ble_eq_true rfl) rfl ?_
        refine w_iload_n dX8_give_42 rfl ?_
        refine w_if_lt (tgt := 53) dX8_give_43 (by decide) rfl (fun q => ?_) (fun q => ?_)
        · have h := h.1 q
          refine w_iload_n dX8_give_53 rfl ?_
          exact w_ri rfl dX8_give_54 rfl h
        · have h := h.2 q
          refine w_aload_n dX8_give_46 rfl ?_
          refine w_gfA (ci := 8) (k := 4) dX8_give_47 f8_16 ob_1280 rfl ?_
          refine w_iload_n dX8_give_50 rfl ?_
          refine w_iload_n dX8_give_51 rfl ?_
          obtain ⟨c11, h⟩ := h
          obtain ⟨c12, h⟩ := h
          have h := h _ rfl
          refine w_iast dX8_give_52 rfl (a8_4 ob_1280) c11 c12 ?_
          refine w_iload_n dX8_give_53 rfl ?_
          exact w_ri rfl dX8_give_54 rfl h
      · have h := h.2 q
        refine w_bipush dX8_give_28 (by decide) ?_
        exact w_ri rfl dX8_give_30 zq_m5 h
    · have h := h.1 q
      refine w_iconst dX8_give_17 ?_
      exact w_ri rfl dX8_give_18 zq_m1 h
theorem e_X8_runBy {d : Nat} {Q : Int → zM → Prop} {M : zM} (v1 : Int) (h : wp (Ev d) 8 cX8_runBy (none) Q 0 [some (.ref 1280), some (zI v1), none, none, none] [] M) : Ev (d + 1) mX8_runBy [.ref 1280, zI v1] M Q := ⟨kX8_runBy, Nat.le_of_ble_eq_true rfl, h⟩
theorem v_X8_runBy_0 {E : zE} {Q : Int → zM → Prop} {M : zM} (v1 : Int)  (h : wp E 8 cX8_runBy (none) Q 2 [some (.ref 1280), some (zI v1), some (zI 0), none, none] [] M) : wp E 8 cX8_runBy (none) Q 0 [some (.ref 1280), some (zI v1), none, none, none] [] M := by
  refine w_iconst dX8_runBy_0 ?_
  refine w_istore_n dX8_runBy_1 (Nat.le_of_ble_eq_true rfl) rfl ?_
  exact w_fgt (fgk (fgk (fgk (fgd (fgd (fgn)))))) h
theorem v_X8_runBy_2 {E : zE} {Q : Int → zM → Prop} {M : zM} (v1 : Int) (v2 : Int)  (h : (zw v2 < 12 → ((0 ≤ zw v2) ∧ ((zw v2 < 12) ∧ (∀ M3 : zM, M3 = zs M 1315 (zw v2).toNat (-1) → (wp E 8 cX8_runBy (none) Q 2 [some (.ref 1280), some (zI v1), some (zI (v2 + 1)), none, none] [] M3))))) ∧ (¬ zw v2 < 12 → (wp E 8 cX8_runBy (none) Q 23 [some (.ref 1280), some (zI v1), some (zI 0), none, none] [] M))) : wp E 8 cX8_runBy (none) Q 2 [some (.ref 1280), some (zI v1), some (zI v2), none, none] [] M := by
  refine w_iload_n dX8_runBy_2 rfl ?_
  refine w_bipush dX8_runBy_3 (by decide) ?_
  refine w_icmp_ge (tgt := 21) dX8_runBy_5 (by decide) rfl zq_12 (fun q => ?_) (fun q => ?_)
  · have h := h.2 q
    refine w_iconst dX8_runBy_21 ?_
    refine w_istore_n dX8_runBy_22 (Nat.le_of_ble_eq_true rfl) rfl ?_
    exact w_fgt (fgk (fgk (fgk (fgd (fgd (fgn)))))) h
  · have h := h.1 q
    refine w_aload_n dX8_runBy_8 rfl ?_
    refine w_gfA (ci := 8) (k := 34) dX8_runBy_9 f8_79 ob_1280 rfl ?_
    refine w_iload_n dX8_runBy_12 rfl ?_
    refine w_iconst dX8_runBy_13 ?_
    obtain ⟨c1, h⟩ := h
    obtain ⟨c2, h⟩ := h
    have h := h _ rfl
    refine w_iast dX8_runBy_14 rfl (a8_34 ob_1280) c1 c2 ?_
    refine w_iinc dX8_runBy_15 rfl rfl ?_
    refine w_goto (tgt := 2) dX8_runBy_18 (by decide) ?_
    exact w_fgt (fgk (fgk (fgk (fgd (fgd (fgn)))))) h
theorem v_X8_runBy_23 {E : zE} {Q : Int → zM → Prop} {M : zM} (v1 : Int) (v2 : Int)  (h : (zw v2 < zg M 1280 1 → (E mX8_personAt [.ref 1280, zI v2] M (fun r1 M2 => E mX8_given [.ref 1280, zI r1, zI v1] M2 (fun r3 M4 => (zw r3 < 0 → ((0 ≤ zw r1) ∧ ((zw r1 < 12) ∧ (∀ M10 : zM, M10 = zs M4 1315 (zw r1).toNat (-1) → (wp E 8 cX8_runBy (none) Q 23 [some (.ref 1280), some (zI v1), some (zI (v2 + 1)), none, none] [] M10))))) ∧ (¬ zw r3 < 0 → ((0 ≤ zw r1) ∧ ((zw r1 < 12) ∧ (∀ M7 : zM, M7 = zs M4 1315 (zw r1).toNat r3 → (wp E 8 cX8_runBy (none) Q 23 [some (.ref 1280), some (zI v1), some (zI (v2 + 1)), none, none] [] M7))))))))) ∧ (¬ zw v2 < zg M 1280 1 → (Q 0 M))) : wp E 8 cX8_runBy (none) Q 23 [some (.ref 1280), some (zI v1), some (zI v2), none, none] [] M := by
  refine w_iload_n dX8_runBy_23 rfl ?_
  refine w_aload_n dX8_runBy_24 rfl ?_
  refine w_gfI (ci := 8) (k := 1) dX8_runBy_25 f8_111 ob_1280 rfl ?_
  refine w_icmp_ge (tgt := 68) dX8_runBy_28 (by decide) rfl (zw_zg _ _ _) (fun q => ?_) (fun q => ?_)
  · have h := h.2 q
    exact w_rv rfl dX8_runBy_68 h
  · have h := h.1 q
    refine w_aload_n dX8_runBy_31 rfl ?_
    refine w_iload_n dX8_runBy_32 rfl ?_
    refine w_invVi [_] dX8_runBy_33 l8_288 kX8_personAt rfl rfl (Nat.le_of_ble_eq_true rfl) (Or.inl rfl) ob_1280 h (fun r1 M2 h => ?_)
    refine w_istore_n dX8_runBy_36 (Nat.le_of_ble_eq_true rfl) rfl ?_
    refine w_aload_n dX8_runBy_37 rfl ?_
    refine w_iload_n dX8_runBy_38 rfl ?_
    refine w_iload_n dX8_runBy_39 rfl ?_
    refine w_invVi [_, _] dX8_runBy_40 l8_297 kX8_given rfl rfl (Nat.le_of_ble_eq_true rfl) (Or.inl rfl) ob_1280 h (fun r3 M4 h => ?_)
    refine w_istore dX8_runBy_43 (Nat.le_of_ble_eq_true rfl) rfl ?_
    refine w_aload_n dX8_runBy_45 rfl ?_
    refine w_gfA (ci := 8) (k := 34) dX8_runBy_46 f8_79 ob_1280 rfl ?_
    refine w_iload_n dX8_runBy_49 rfl ?_
    refine w_iload dX8_runBy_50 rfl ?_
    refine w_if_ge (tgt := 59) dX8_runBy_52 (by decide) rfl (fun q => ?_) (fun q => ?_)
    · have h := h.2 q
      refine w_iload dX8_runBy_59 rfl ?_
      obtain ⟨c5, h⟩ := h
      obtain ⟨c6, h⟩ := h
      have h := h _ rfl
      refine w_iast dX8_runBy_61 rfl (a8_34 ob_1280) c5 c6 ?_
      refine w_iinc dX8_runBy_62 rfl rfl ?_
      refine w_goto (tgt := 23) dX8_runBy_65 (by decide) ?_
      exact w_fgt (fgk (fgk (fgk (fgd (fgd (fgn)))))) h
    · have h := h.1 q
      refine w_iconst dX8_runBy_55 ?_
      refine w_goto (tgt := 61) dX8_runBy_56 (by decide) ?_
      obtain ⟨c8, h⟩ := h
      obtain ⟨c9, h⟩ := h
      have h := h _ rfl
      refine w_iast dX8_runBy_61 rfl (a8_34 ob_1280) c8 c9 ?_
      refine w_iinc dX8_runBy_62 rfl rfl ?_
      refine w_goto (tgt := 23) dX8_runBy_65 (by decide) ?_
      exact w_fgt (fgk (fgk (fgk (fgd (fgd (fgn)))))) h
theorem e_X8_run {d : Nat} {Q : Int → zM → Prop} {M : zM} (v1 : Int) (v2 : Int) (h : wp (Ev d) 8 cX8_run (some .int) Q 0 [some (.ref 1280), some (zI v1), some (zI v2)] [] M) : Ev (d + 1) mX8_run [.ref 1280, zI v1, zI v2] M Q := ⟨kX8_run, Nat.le_of_ble_eq_true rfl, h⟩
theorem v_X8_run_0 {E : zE} {Q : Int → zM → Prop} {M : zM} (v1 : Int) (v2 : Int)  (h : E mX8_in [zI v1, zI 0, zI 2] M (fun r1 M2 => (zw r1 = 0 → (Q (-1) M2)) ∧ (¬ zw r1 = 0 → (E mX8_isPerson [.ref 1280, zI v2] M2 (fun r3 M4 => (zw r3 = 0 → (Q (-1) M4)) ∧ (¬ zw r3 = 0 → (E mX8_runBy [.ref 1280, zI v1] M4 (fun r5 M6 => (0 ≤ zw v2) ∧ ((zw v2 < 12) ∧ ((zg M6 1315 (zw v2).toNat < 0 → (Q (-2) M6)) ∧ (¬ zg M6 1315 (zw v2).toNat < 0 → ((0 ≤ zw v2) ∧ ((zw v2 < 12) ∧ (Q (zg M6 1315 (zw v2).toNat) M6)))))))))))))) : wp E 8 cX8_run (some .int) Q 0 [some (.ref 1280), some (zI v1), some (zI v2)] [] M := by
  refine w_iload_n dX8_run_0 rfl ?_
  refine w_iconst dX8_run_1 ?_
  refine w_iconst dX8_run_2 ?_
  refine w_invSi [_, _, _] dX8_run_3 l8_114 kX8_in rfl rfl (Nat.le_of_ble_eq_true rfl) (Or.inr rfl) h (fun r1 M2 h => ?_)
  refine w_if_eq (tgt := 17) dX8_run_6 (by decide) rfl (fun q => ?_) (fun q => ?_)
  · have h := h.1 q
    refine w_iconst dX8_run_17 ?_
    exact w_ri rfl dX8_run_18 zq_m1 h
  · have h := h.2 q
    refine w_aload_n dX8_run_9 rfl ?_
    refine w_iload_n dX8_run_10 rfl ?_
    refine w_invVi [_] dX8_run_11 l8_135 kX8_isPerson rfl rfl (Nat.le_of_ble_eq_true rfl) (Or.inr rfl) ob_1280 h (fun r3 M4 h => ?_)
    refine w_if_ne (tgt := 19) dX8_run_14 (by decide) rfl (fun q => ?_) (fun q => ?_)
    · have h := h.2 q
      refine w_aload_n dX8_run_19 rfl ?_
      refine w_iload_n dX8_run_20 rfl ?_
      refine w_invVv [_] dX8_run_21 l8_300 kX8_runBy rfl rfl (Nat.le_of_ble_eq_true rfl) rfl ob_1280 h (fun r5 M6 h => ?_)
      refine w_aload_n dX8_run_24 rfl ?_
      refine w_gfA (ci := 8) (k := 34) dX8_run_25 f8_79 ob_1280 rfl ?_
      refine w_iload_n dX8_run_28 rfl ?_
      obtain ⟨c7, h⟩ := h
      obtain ⟨c8, h⟩ := h
      refine w_iald dX8_run_29 rfl (a8_34 ob_1280) c7 c8 ?_
      refine w_if_ge (tgt := 38) dX8_run_30 (by decide) (zw_zg _ _ _) (fun q => ?_) (fun q => ?_)
      · have h := h.2 q
        refine w_aload_n dX8_run_38 rfl ?_
        refine w_gfA (ci := 8) (k := 34) dX8_run_39 f8_79 ob_1280 rfl ?_
        refine w_iload_n dX8_run_42 rfl ?_
        obtain ⟨c9, h⟩ := h
        obtain ⟨c10, h⟩ := h
        refine w_iald dX8_run_43 rfl (a8_34 ob_1280) c9 c10 ?_
        exact w_ri rfl dX8_run_44 (zw_zg _ _ _) h
      · have h := h.1 q
        refine w_bipush dX8_run_33 (by decide) ?_
        refine w_goto (tgt := 44) dX8_run_35 (by decide) ?_
        exact w_ri rfl dX8_run_44 zq_m2 h
    · have h := h.1 q
      refine w_iconst dX8_run_17 ?_
      exact w_ri rfl dX8_run_18 zq_m1 h
theorem e_X8_unlikeNames {d : Nat} {Q : Int → zM → Prop} {M : zM}  (h : wp (Ev d) 8 cX8_unlikeNames (some .int) Q 0 [some (.ref 1280), none, none] [] M) : Ev (d + 1) mX8_unlikeNames [.ref 1280] M Q := ⟨kX8_unlikeNames, Nat.le_of_ble_eq_true rfl, h⟩
theorem v_X8_unlikeNames_0 {E : zE} {Q : Int → zM → Prop} {M : zM}   (h : wp E 8 cX8_unlikeNames (some .int) Q 4 [some (.ref 1280), some (zI 0), some (zI 0)] [] M) : wp E 8 cX8_unlikeNames (some .int) Q 0 [some (.ref 1280), none, none] [] M := by
  refine w_iconst dX8_unlikeNames_0 ?_
  refine w_istore_n dX8_unlikeNames_1 (Nat.le_of_ble_eq_true rfl) rfl ?_
  refine w_iconst dX8_unlikeNames_2 ?_
  refine w_istore_n dX8_unlikeNames_3 (Nat.le_of_ble_eq_true rfl) rfl ?_
  exact w_fgt (fgk (fgk (fgk (fgn)))) h
theorem v_X8_unlikeNames_4 {E : zE} {Q : Int → zM → Prop} {M : zM} (v1 : Int) (v2 : Int)  (h : (zw v2 < zg M 1280 1 → ((0 ≤ zw v2) ∧ ((zw v2 < 12) ∧ ((zg M 1315 (zw v2).toNat < 0 → (wp E 8 cX8_unlikeNames (some .int) Q 4 [some (.ref 1280), some (zI v1), some (zI (v2 + 1))] [] M)) ∧ (¬ zg M 1315 (zw v2).toNat < 0 → ((0 ≤ zw v2) ∧ ((zw v2 < 12) ∧ (wp E 8 cX8_unlikeNames (some .int) Q 4 [some (.ref 1280), some (zI (z_or v1 (z_shl 1 (zg M 1315 (zw v2).toNat)))), some (zI (v2 + 1))] [] M)))))))) ∧ (¬ zw v2 < zg M 1280 1 → (E mX8_bitsOf [zI v1] M (fun r1 M2 => Q (zw r1) M2)))) : wp E 8 cX8_unlikeNames (some .int) Q 4 [some (.ref 1280), some (zI v1), some (zI v2)] [] M := by
  refine w_iload_n dX8_unlikeNames_4 rfl ?_
  refine w_aload_n dX8_unlikeNames_5 rfl ?_
  refine w_gfI (ci := 8) (k := 1) dX8_unlikeNames_6 f8_111 ob_1280 rfl ?_
  refine w_icmp_ge (tgt := 38) dX8_unlikeNames_9 (by decide) rfl (zw_zg _ _ _) (fun q => ?_) (fun q => ?_)
  · have h := h.2 q
    refine w_iload_n dX8_unlikeNames_38 rfl ?_
    refine w_invSi [_] dX8_unlikeNames_39 l8_285 kX8_bitsOf rfl rfl (Nat.le_of_ble_eq_true rfl) (Or.inl rfl) h (fun r1 M2 h => ?_)
    exact w_ri rfl dX8_unlikeNames_42 rfl h
  · have h := h.1 q
    refine w_aload_n dX8_unlikeNames_12 rfl ?_
    refine w_gfA (ci := 8) (k := 34) dX8_unlikeNames_13 f8_79 ob_1280 rfl ?_
    refine w_iload_n dX8_unlikeNames_16 rfl ?_
    obtain ⟨c3, h⟩ := h
    obtain ⟨c4, h⟩ := h
    refine w_iald dX8_unlikeNames_17 rfl (a8_34 ob_1280) c3 c4 ?_
    refine w_if_lt (tgt := 32) dX8_unlikeNames_18 (by decide) (zw_zg _ _ _) (fun q => ?_) (fun q => ?_)
    · have h := h.1 q
      refine w_iinc dX8_unlikeNames_32 rfl rfl ?_
      refine w_goto (tgt := 4) dX8_unlikeNames_35 (by decide) ?_
      exact w_fgt (fgk (fgk (fgk (fgn)))) h
    · have h := h.2 q
      refine w_iload_n dX8_unlikeNames_21 rfl ?_
      refine w_iconst dX8_unlikeNames_22 ?_
      refine w_aload_n dX8_unlikeNames_23 rfl ?_
      refine w_gfA (ci := 8) (k := 34) dX8_unlikeNames_24 f8_79 ob_1280 rfl ?_
      refine w_iload_n dX8_unlikeNames_27 rfl ?_
      obtain ⟨c5, h⟩ := h
      obtain ⟨c6, h⟩ := h
      refine w_iald dX8_unlikeNames_28 rfl (a8_34 ob_1280) c5 c6 ?_
      refine w_ishl dX8_unlikeNames_29 ?_
      refine w_ior dX8_unlikeNames_30 ?_
      refine w_istore_n dX8_unlikeNames_31 (Nat.le_of_ble_eq_true rfl) rfl ?_
      refine w_iinc dX8_unlikeNames_32 rfl rfl ?_
      refine w_goto (tgt := 4) dX8_unlikeNames_35 (by decide) ?_
      exact w_fgt (fgk (fgk (fgk (fgn)))) h
theorem e_X8_used {d : Nat} {Q : Int → zM → Prop} {M : zM} (v1 : Int) (v2 : Int) (h : wp (Ev d) 8 cX8_used (some .int) Q 0 [some (.ref 1280), some (zI v1), some (zI v2), none, none] [] M) : Ev (d + 1) mX8_used [.ref 1280, zI v1, zI v2] M Q := ⟨kX8_used, Nat.le_of_ble_eq_true rfl, h⟩
theorem v_X8_used_0 {E : zE} {Q : Int → zM → Prop} {M : zM} (v1 : Int) (v2 : Int)  (h : E mX8_in [zI v1, zI 0, zI 2] M (fun r1 M2 => (zw r1 = 0 → (Q (-1) M2)) ∧ (¬ zw r1 = 0 → (E mX8_in [zI v2, zI 0, zI 2] M2 (fun r3 M4 => (zw r3 = 0 → (Q (-1) M4)) ∧ (¬ zw r3 = 0 → (E mX8_runBy [.ref 1280, zI v1] M4 (fun r5 M6 => (zw v2 = 0 → (E mX8_unlikeNames [.ref 1280] M6 (fun r7 M8 => Q (zw r7) M8))) ∧ (¬ zw v2 = 0 → (wp E 8 cX8_used (some .int) Q 39 [some (.ref 1280), none, some (zI v2), some (zI 0), some (zI 0)] [] M6)))))))))) : wp E 8 cX8_used (some .int) Q 0 [some (.ref 1280), some (zI v1), some (zI v2), none, none] [] M := by
  refine w_iload_n dX8_used_0 rfl ?_
  refine w_iconst dX8_used_1 ?_
  refine w_iconst dX8_used_2 ?_
  refine w_invSi [_, _, _] dX8_used_3 l8_114 kX8_in rfl rfl (Nat.le_of_ble_eq_true rfl) (Or.inr rfl) h (fun r1 M2 h => ?_)
  refine w_if_eq (tgt := 18) dX8_used_6 (by decide) rfl (fun q => ?_) (fun q => ?_)
  · have h := h.1 q
    refine w_iconst dX8_used_18 ?_
    exact w_ri rfl dX8_used_19 zq_m1 h
  · have h := h.2 q
    refine w_iload_n dX8_used_9 rfl ?_
    refine w_iconst dX8_used_10 ?_
    refine w_iconst dX8_used_11 ?_
    refine w_invSi [_, _, _] dX8_used_12 l8_114 kX8_in rfl rfl (Nat.le_of_ble_eq_true rfl) (Or.inr rfl) h (fun r3 M4 h => ?_)
    refine w_if_ne (tgt := 20) dX8_used_15 (by decide) rfl (fun q => ?_) (fun q => ?_)
    · have h := h.2 q
      refine w_aload_n dX8_used_20 rfl ?_
      refine w_iload_n dX8_used_21 rfl ?_
      refine w_invVv [_] dX8_used_22 l8_300 kX8_runBy rfl rfl (Nat.le_of_ble_eq_true rfl) rfl ob_1280 h (fun r5 M6 h => ?_)
      refine w_iload_n dX8_used_25 rfl ?_
      refine w_if_ne (tgt := 34) dX8_used_26 (by decide) rfl (fun q => ?_) (fun q => ?_)
      · have h := h.2 q
        refine w_iconst dX8_used_34 ?_
        refine w_istore_n dX8_used_35 (Nat.le_of_ble_eq_true rfl) rfl ?_
        refine w_iconst dX8_used_36 ?_
        refine w_istore dX8_used_37 (Nat.le_of_ble_eq_true rfl) rfl ?_
        exact w_fgt (fgk (fgd (fgk (fgk (fgk (fgn)))))) h
      · have h := h.1 q
        refine w_aload_n dX8_used_29 rfl ?_
        refine w_invVi [] dX8_used_30 l8_304 kX8_unlikeNames rfl rfl (Nat.le_of_ble_eq_true rfl) (Or.inl rfl) ob_1280 h (fun r7 M8 h => ?_)
        exact w_ri rfl dX8_used_33 rfl h
    · have h := h.1 q
      refine w_iconst dX8_used_18 ?_
      exact w_ri rfl dX8_used_19 zq_m1 h
theorem v_X8_used_39 {E : zE} {Q : Int → zM → Prop} {M : zM} (v2 : Int) (v3 : Int) (v4 : Int)  (h : (zw v4 < zg M 1280 1 → ((zw v2 = 1 → ((0 ≤ zw v4) ∧ ((zw v4 < 12) ∧ ((zg M 1315 (zw v4).toNat < 0 → (wp E 8 cX8_used (some .int) Q 78 [some (.ref 1280), none, some (zI v2), some (zI v3), some (zI v4)] [] M)) ∧ (¬ zg M 1315 (zw v4).toNat < 0 → ((0 ≤ zw v4) ∧ ((zw v4 < 12) ∧ ((0 ≤ zg M 1315 (zw v4).toNat) ∧ ((zg M 1315 (zw v4).toNat < 12) ∧ (wp E 8 cX8_used (some .int) Q 78 [some (.ref 1280), none, some (zI v2), some (zI (v3 + (zg M 1291 (zg M 1315 (zw v4).toNat).toNat))), some (zI v4)] [] M)))))))))) ∧ (¬ zw v2 = 1 → (wp E 8 cX8_used (some .int) Q 78 [some (.ref 1280), none, some (zI v2), some (zI v3), some (zI v4)] [] M)))) ∧ (¬ zw v4 < zg M 1280 1 → (Q (zw v3) M))) : wp E 8 cX8_used (some .int) Q 39 [some (.ref 1280), none, some (zI v2), some (zI v3), some (zI v4)] [] M := by
  refine w_iload dX8_used_39 rfl ?_
  refine w_aload_n dX8_used_41 rfl ?_
  refine w_gfI (ci := 8) (k := 1) dX8_used_42 f8_111 ob_1280 rfl ?_
  refine w_icmp_ge (tgt := 102) dX8_used_45 (by decide) rfl (zw_zg _ _ _) (fun q => ?_) (fun q => ?_)
  · have h := h.2 q
    refine w_iload_n dX8_used_102 rfl ?_
    exact w_ri rfl dX8_used_103 rfl h
  · have h := h.1 q
    refine w_iload_n dX8_used_48 rfl ?_
    refine w_iconst dX8_used_49 ?_
    refine w_icmp_ne (tgt := 78) dX8_used_50 (by decide) rfl zq_1 (fun q => ?_) (fun q => ?_)
    · have h := h.2 q
      exact w_fgt (fgk (fgd (fgk (fgk (fgk (fgn)))))) h
    · have h := h.1 q
      refine w_aload_n dX8_used_53 rfl ?_
      refine w_gfA (ci := 8) (k := 34) dX8_used_54 f8_79 ob_1280 rfl ?_
      refine w_iload dX8_used_57 rfl ?_
      obtain ⟨c1, h⟩ := h
      obtain ⟨c2, h⟩ := h
      refine w_iald dX8_used_59 rfl (a8_34 ob_1280) c1 c2 ?_
      refine w_if_lt (tgt := 78) dX8_used_60 (by decide) (zw_zg _ _ _) (fun q => ?_) (fun q => ?_)
      · have h := h.1 q
        exact w_fgt (fgk (fgd (fgk (fgk (fgk (fgn)))))) h
      · have h := h.2 q
        refine w_iload_n dX8_used_63 rfl ?_
        refine w_aload_n dX8_used_64 rfl ?_
        refine w_gfA (ci := 8) (k := 10) dX8_used_65 f8_28 ob_1280 rfl ?_
        refine w_aload_n dX8_used_68 rfl ?_
        refine w_gfA (ci := 8) (k := 34) dX8_used_69 f8_79 ob_1280 rfl ?_
        refine w_iload dX8_used_72 rfl ?_
        obtain ⟨c3, h⟩ := h
        obtain ⟨c4, h⟩ := h
        refine w_iald dX8_used_74 rfl (a8_34 ob_1280) c3 c4 ?_
        obtain ⟨c5, h⟩ := h
        obtain ⟨c6, h⟩ := h
        refine w_iald dX8_used_75 (zw_zg _ _ _) (a8_10 ob_1280) c5 c6 ?_
        refine w_iadd dX8_used_76 ?_
        refine w_istore_n dX8_used_77 (Nat.le_of_ble_eq_true rfl) rfl ?_
        exact w_fgt (fgk (fgd (fgk (fgk (fgk (fgn)))))) h
theorem v_X8_used_78 {E : zE} {Q : Int → zM → Prop} {M : zM} (v2 : Int) (v3 : Int) (v4 : Int)  (h : (zw v2 = 2 → ((0 ≤ zw v4) ∧ ((zw v4 < 12) ∧ ((zg M 1315 (zw v4).toNat < 0 → (wp E 8 cX8_used (some .int) Q 39 [some (.ref 1280), none, some (zI v2), some (zI (v3 + 1)), some (zI (v4 + 1))] [] M)) ∧ (¬ zg M 1315 (zw v4).toNat < 0 → (wp E 8 cX8_used (some .int) Q 39 [some (.ref 1280), none, some (zI v2), some (zI v3), some (zI (v4 + 1))] [] M)))))) ∧ (¬ zw v2 = 2 → (wp E 8 cX8_used (some .int) Q 39 [some (.ref 1280), none, some (zI v2), some (zI v3), some (zI (v4 + 1))] [] M))) : wp E 8 cX8_used (some .int) Q 78 [some (.ref 1280), none, some (zI v2), some (zI v3), some (zI v4)] [] M := by
  refine w_iload_n dX8_used_78 rfl ?_
  refine w_iconst dX8_used_79 ?_
  refine w_icmp_ne (tgt := 96) dX8_used_80 (by decide) rfl zq_2 (fun q => ?_) (fun q => ?_)
  · have h := h.2 q
    refine w_iinc dX8_used_96 rfl rfl ?_
    refine w_goto (tgt := 39) dX8_used_99 (by decide) ?_
    exact w_fgt (fgk (fgd (fgk (fgk (fgk (fgn)))))) h
  · have h := h.1 q
    refine w_aload_n dX8_used_83 rfl ?_
    refine w_gfA (ci := 8) (k := 34) dX8_used_84 f8_79 ob_1280 rfl ?_
    refine w_iload dX8_used_87 rfl ?_
    obtain ⟨c1, h⟩ := h
    obtain ⟨c2, h⟩ := h
    refine w_iald dX8_used_89 rfl (a8_34 ob_1280) c1 c2 ?_
    refine w_if_ge (tgt := 96) dX8_used_90 (by decide) (zw_zg _ _ _) (fun q => ?_) (fun q => ?_)
    · have h := h.2 q
      refine w_iinc dX8_used_96 rfl rfl ?_
      refine w_goto (tgt := 39) dX8_used_99 (by decide) ?_
      exact w_fgt (fgk (fgd (fgk (fgk (fgk (fgn)))))) h
    · have h := h.1 q
      refine w_iinc dX8_used_93 rfl rfl ?_
      refine w_iinc dX8_used_96 rfl rfl ?_
      refine w_goto (tgt := 39) dX8_used_99 (by decide) ?_
      exact w_fgt (fgk (fgd (fgk (fgk (fgk (fgn)))))) h
theorem e_X8_isFreeWithout {d : Nat} {Q : Int → zM → Prop} {M : zM} (v1 : Int) (v2 : Int) (v3 : Int) (h : wp (Ev d) 8 cX8_isFreeWithout (some .boolean) Q 0 [some (.ref 1280), some (zI v1), some (zI v2), some (zI v3)] [] M) : Ev (d + 1) mX8_isFreeWithout [.ref 1280, zI v1, zI v2, zI v3] M Q := ⟨kX8_isFreeWithout, Nat.le_of_ble_eq_true rfl, h⟩
theorem v_X8_isFreeWithout_0 {E : zE} {Q : Int → zM → Prop} {M : zM} (v1 : Int) (v2 : Int) (v3 : Int)  (h : E mX8_findKnown [.ref 1280, zI v2, zI v3] M (fun r1 M2 => E mX8_everybody [.ref 1280] M2 (fun r3 M4 => E mX8_isHeld [.ref 1280, zI v1, zI v2, zI r3] M4 (fun r5 M6 => (zw r5 = 0 → (Q 1 M6)) ∧ (¬ zw r5 = 0 → (Q 0 M6)))))) : wp E 8 cX8_isFreeWithout (some .boolean) Q 0 [some (.ref 1280), some (zI v1), some (zI v2), some (zI v3)] [] M := by
  refine w_aload_n dX8_isFreeWithout_0 rfl ?_
  refine w_iload_n dX8_isFreeWithout_1 rfl ?_
  refine w_iload_n dX8_isFreeWithout_2 rfl ?_
  refine w_invVv [_, _] dX8_isFreeWithout_3 l8_254 kX8_findKnown rfl rfl (Nat.le_of_ble_eq_true rfl) rfl ob_1280 h (fun r1 M2 h => ?_)
  refine w_aload_n dX8_isFreeWithout_6 rfl ?_
  refine w_iload_n dX8_isFreeWithout_7 rfl ?_
  refine w_iload_n dX8_isFreeWithout_8 rfl ?_
  refine w_aload_n dX8_isFreeWithout_9 rfl ?_
  refine w_invVi [] dX8_isFreeWithout_10 l8_276 kX8_everybody rfl rfl (Nat.le_of_ble_eq_true rfl) (Or.inl rfl) ob_1280 h (fun r3 M4 h => ?_)
  refine w_invVi [_, _, _] dX8_isFreeWithout_13 l8_279 kX8_isHeld rfl rfl (Nat.le_of_ble_eq_true rfl) (Or.inr rfl) ob_1280 h (fun r5 M6 h => ?_)
  refine w_if_ne (tgt := 23) dX8_isFreeWithout_16 (by decide) rfl (fun q => ?_) (fun q => ?_)
  · have h := h.2 q
    refine w_iconst dX8_isFreeWithout_23 ?_
    exact w_rz rfl dX8_isFreeWithout_24 zq_0 (by decide) h
  · have h := h.1 q
    refine w_iconst dX8_isFreeWithout_19 ?_
    refine w_goto (tgt := 24) dX8_isFreeWithout_20 (by decide) ?_
    exact w_rz rfl dX8_isFreeWithout_24 zq_1 (by decide) h
theorem e_X8_apart {d : Nat} {Q : Int → zM → Prop} {M : zM} (v1 : Int) (v2 : Int) (h : wp (Ev d) 8 cX8_apart (some .int) Q 0 [some (.ref 1280), some (zI v1), some (zI v2), none, none, none] [] M) : Ev (d + 1) mX8_apart [.ref 1280, zI v1, zI v2] M Q := ⟨kX8_apart, Nat.le_of_ble_eq_true rfl, h⟩
theorem v_X8_apart_0 {E : zE} {Q : Int → zM → Prop} {M : zM} (v1 : Int) (v2 : Int)  (h : E mX8_isName [zI v1] M (fun r1 M2 => (zw r1 = 0 → (Q (-1) M2)) ∧ (¬ zw r1 = 0 → (E mX8_isYear [zI v2] M2 (fun r3 M4 => (zw r3 = 0 → (Q (-1) M4)) ∧ (¬ zw r3 = 0 → (E mX8_asNamed [.ref 1280] M4 (fun r5 M6 => wp E 8 cX8_apart (some .int) Q 25 [some (.ref 1280), some (zI v1), some (zI v2), some (zI 0), some (zI 0), none] [] M6)))))))) : wp E 8 cX8_apart (some .int) Q 0 [some (.ref 1280), some (zI v1), some (zI v2), none, none, none] [] M := by
  refine w_iload_n dX8_apart_0 rfl ?_
  refine w_invSi [_] dX8_apart_1 l8_148 kX8_isName rfl rfl (Nat.le_of_ble_eq_true rfl) (Or.inr rfl) h (fun r1 M2 h => ?_)
  refine w_if_eq (tgt := 14) dX8_apart_4 (by decide) rfl (fun q => ?_) (fun q => ?_)
  · have h := h.1 q
    refine w_iconst dX8_apart_14 ?_
    exact w_ri rfl dX8_apart_15 zq_m1 h
  · have h := h.2 q
    refine w_iload_n dX8_apart_7 rfl ?_
    refine w_invSi [_] dX8_apart_8 l8_118 kX8_isYear rfl rfl (Nat.le_of_ble_eq_true rfl) (Or.inr rfl) h (fun r3 M4 h => ?_)
    refine w_if_ne (tgt := 16) dX8_apart_11 (by decide) rfl (fun q => ?_) (fun q => ?_)
    · have h := h.2 q
      refine w_aload_n dX8_apart_16 rfl ?_
      refine w_invVv [] dX8_apart_17 l8_273 kX8_asNamed rfl rfl (Nat.le_of_ble_eq_true rfl) rfl ob_1280 h (fun r5 M6 h => ?_)
      refine w_iconst dX8_apart_20 ?_
      refine w_istore_n dX8_apart_21 (Nat.le_of_ble_eq_true rfl) rfl ?_
      refine w_iconst dX8_apart_22 ?_
      refine w_istore dX8_apart_23 (Nat.le_of_ble_eq_true rfl) rfl ?_
      exact w_fgt (fgk (fgk (fgk (fgk (fgk (fgd (fgn))))))) h
    · have h := h.1 q
      refine w_iconst dX8_apart_14 ?_
      exact w_ri rfl dX8_apart_15 zq_m1 h
theorem v_X8_apart_25 {E : zE} {Q : Int → zM → Prop} {M : zM} (v1 : Int) (v2 : Int) (v3 : Int) (v4 : Int)  (h : (zw v4 < zg M 1280 5 → (E mX8_counts [.ref 1280, zI v4] M (fun r3 M4 => (zw r3 = 0 → (wp E 8 cX8_apart (some .int) Q 25 [some (.ref 1280), some (zI v1), some (zI v2), some (zI v3), some (zI (v4 + 1)), none] [] M4)) ∧ (¬ zw r3 = 0 → ((0 ≤ zw v4) ∧ ((zw v4 < 16) ∧ ((zw v2 < zg M4 1289 (zw v4).toNat → (wp E 8 cX8_apart (some .int) Q 25 [some (.ref 1280), some (zI v1), some (zI v2), some (zI v3), some (zI (v4 + 1)), none] [] M4)) ∧ (¬ zw v2 < zg M4 1289 (zw v4).toNat → (wp E 8 cX8_apart (some .int) Q 25 [some (.ref 1280), some (zI v1), some (zI v2), some (zI (z_or v3 (z_shl 1 v4))), some (zI (v4 + 1)), none] [] M4))))))))) ∧ (¬ zw v4 < zg M 1280 5 → (E mX8_isFreeWithout [.ref 1280, zI v1, zI v2, zI v3] M (fun r1 M2 => (zw r1 = 0 → (Q (-2) M2)) ∧ (¬ zw r1 = 0 → (wp E 8 cX8_apart (some .int) Q 83 [some (.ref 1280), some (zI v1), some (zI v2), some (zI v3), some (zI 0), none] [] M2)))))) : wp E 8 cX8_apart (some .int) Q 25 [some (.ref 1280), some (zI v1), some (zI v2), some (zI v3), some (zI v4), none] [] M := by
  refine w_iload dX8_apart_25 rfl ?_
  refine w_aload_n dX8_apart_27 rfl ?_
  refine w_gfI (ci := 8) (k := 5) dX8_apart_28 f8_141 ob_1280 rfl ?_
  refine w_icmp_ge (tgt := 67) dX8_apart_31 (by decide) rfl (zw_zg _ _ _) (fun q => ?_) (fun q => ?_)
  · have h := h.2 q
    refine w_aload_n dX8_apart_67 rfl ?_
    refine w_iload_n dX8_apart_68 rfl ?_
    refine w_iload_n dX8_apart_69 rfl ?_
    refine w_iload_n dX8_apart_70 rfl ?_
    refine w_invVi [_, _, _] dX8_apart_71 l8_307 kX8_isFreeWithout rfl rfl (Nat.le_of_ble_eq_true rfl) (Or.inr rfl) ob_1280 h (fun r1 M2 h => ?_)
    refine w_if_ne (tgt := 80) dX8_apart_74 (by decide) rfl (fun q => ?_) (fun q => ?_)
    · have h := h.2 q
      refine w_iconst dX8_apart_80 ?_
      refine w_istore dX8_apart_81 (Nat.le_of_ble_eq_true rfl) rfl ?_
      exact w_fgt (fgk (fgk (fgk (fgk (fgk (fgd (fgn))))))) h
    · have h := h.1 q
      refine w_bipush dX8_apart_77 (by decide) ?_
      exact w_ri rfl dX8_apart_79 zq_m2 h
  · have h := h.1 q
    refine w_aload_n dX8_apart_34 rfl ?_
    refine w_iload dX8_apart_35 rfl ?_
    refine w_invVi [_] dX8_apart_37 l8_178 kX8_counts rfl rfl (Nat.le_of_ble_eq_true rfl) (Or.inr rfl) ob_1280 h (fun r3 M4 h => ?_)
    refine w_if_eq (tgt := 61) dX8_apart_40 (by decide) rfl (fun q => ?_) (fun q => ?_)
    · have h := h.1 q
      refine w_iinc dX8_apart_61 rfl rfl ?_
      refine w_goto (tgt := 25) dX8_apart_64 (by decide) ?_
      exact w_fgt (fgk (fgk (fgk (fgk (fgk (fgd (fgn))))))) h
    · have h := h.2 q
      refine w_aload_n dX8_apart_43 rfl ?_
      refine w_gfA (ci := 8) (k := 8) dX8_apart_44 f8_25 ob_1280 rfl ?_
      refine w_iload dX8_apart_47 rfl ?_
      obtain ⟨c5, h⟩ := h
      obtain ⟨c6, h⟩ := h
      refine w_iald dX8_apart_49 rfl (a8_8 ob_1280) c5 c6 ?_
      refine w_iload_n dX8_apart_50 rfl ?_
      refine w_icmp_gt (tgt := 61) dX8_apart_51 (by decide) (zw_zg _ _ _) rfl (fun q => ?_) (fun q => ?_)
      · have h := h.1 q
        refine w_iinc dX8_apart_61 rfl rfl ?_
        refine w_goto (tgt := 25) dX8_apart_64 (by decide) ?_
        exact w_fgt (fgk (fgk (fgk (fgk (fgk (fgd (fgn))))))) h
      · have h := h.2 q
        refine w_iload_n dX8_apart_54 rfl ?_
        refine w_iconst dX8_apart_55 ?_
        refine w_iload dX8_apart_56 rfl ?_
        refine w_ishl dX8_apart_58 ?_
        refine w_ior dX8_apart_59 ?_
        refine w_istore_n dX8_apart_60 (Nat.le_of_ble_eq_true rfl) rfl ?_
        refine w_iinc dX8_apart_61 rfl rfl ?_
        refine w_goto (tgt := 25) dX8_apart_64 (by decide) ?_
        exact w_fgt (fgk (fgk (fgk (fgk (fgk (fgd (fgn))))))) h
theorem v_X8_apart_83 {E : zE} {Q : Int → zM → Prop} {M : zM} (v1 : Int) (v2 : Int) (v3 : Int) (v4 : Int)  (h : (zg M 1280 5 < zw v4 → (Q (-2) M)) ∧ (¬ zg M 1280 5 < zw v4 → (wp E 8 cX8_apart (some .int) Q 95 [some (.ref 1280), some (zI v1), some (zI v2), some (zI v3), some (zI v4), some (zI 0)] [] M))) : wp E 8 cX8_apart (some .int) Q 83 [some (.ref 1280), some (zI v1), some (zI v2), some (zI v3), some (zI v4), none] [] M := by
  refine w_iload dX8_apart_83 rfl ?_
  refine w_aload_n dX8_apart_85 rfl ?_
  refine w_gfI (ci := 8) (k := 5) dX8_apart_86 f8_141 ob_1280 rfl ?_
  refine w_icmp_gt (tgt := 146) dX8_apart_89 (by decide) rfl (zw_zg _ _ _) (fun q => ?_) (fun q => ?_)
  · have h := h.1 q
    refine w_bipush dX8_apart_146 (by decide) ?_
    exact w_ri rfl dX8_apart_148 zq_m2 h
  · have h := h.2 q
    refine w_iconst dX8_apart_92 ?_
    refine w_istore dX8_apart_93 (Nat.le_of_ble_eq_true rfl) rfl ?_
    exact w_fgt (fgk (fgk (fgk (fgk (fgk (fgk (fgn))))))) h
theorem v_X8_apart_95 {E : zE} {Q : Int → zM → Prop} {M : zM} (v1 : Int) (v2 : Int) (v3 : Int) (v4 : Int) (v5 : Int)  (h : (zw v3 < zw v5 → (wp E 8 cX8_apart (some .int) Q 83 [some (.ref 1280), some (zI v1), some (zI v2), some (zI v3), some (zI (v4 + 1)), none] [] M)) ∧ (¬ zw v3 < zw v5 → ((z_and v5 (z_xor v3 (-1)) = 0 → (E mX8_bitsOf [zI v5] M (fun r1 M2 => (zw r1 = zw v4 → (E mX8_isFreeWithout [.ref 1280, zI v1, zI v2, zI v5] M2 (fun r3 M4 => (zw r3 = 0 → (wp E 8 cX8_apart (some .int) Q 95 [some (.ref 1280), some (zI v1), some (zI v2), some (zI v3), some (zI v4), some (zI (v5 + 1))] [] M4)) ∧ (¬ zw r3 = 0 → (Q (zw v5) M4))))) ∧ (¬ zw r1 = zw v4 → (wp E 8 cX8_apart (some .int) Q 95 [some (.ref 1280), some (zI v1), some (zI v2), some (zI v3), some (zI v4), some (zI (v5 + 1))] [] M2))))) ∧ (¬ z_and v5 (z_xor v3 (-1)) = 0 → (wp E 8 cX8_apart (some .int) Q 95 [some (.ref 1280), some (zI v1), some (zI v2), some (zI v3), some (zI v4), some (zI (v5 + 1))] [] M))))) : wp E 8 cX8_apart (some .int) Q 95 [some (.ref 1280), some (zI v1), some (zI v2), some (zI v3), some (zI v4), some (zI v5)] [] M := by
  refine w_iload dX8_apart_95 rfl ?_
  refine w_iload_n dX8_apart_97 rfl ?_
  refine w_icmp_gt (tgt := 140) dX8_apart_98 (by decide) rfl rfl (fun q => ?_) (fun q => ?_)
  · have h := h.1 q
    refine w_iinc dX8_apart_140 rfl rfl ?_
    refine w_goto (tgt := 83) dX8_apart_143 (by decide) ?_
    exact w_fgt (fgk (fgk (fgk (fgk (fgk (fgd (fgn))))))) h
  · have h := h.2 q
    refine w_iload dX8_apart_101 rfl ?_
    refine w_iload_n dX8_apart_103 rfl ?_
    refine w_iconst dX8_apart_104 ?_
    refine w_ixor dX8_apart_105 ?_
    refine w_iand dX8_apart_106 ?_
    refine w_if_ne (tgt := 134) dX8_apart_107 (by decide) (zx_and _ _) (fun q => ?_) (fun q => ?_)
    · have h := h.2 q
      refine w_iinc dX8_apart_134 rfl rfl ?_
      refine w_goto (tgt := 95) dX8_apart_137 (by decide) ?_
      exact w_fgt (fgk (fgk (fgk (fgk (fgk (fgk (fgn))))))) h
    · have h := h.1 q
      refine w_iload dX8_apart_110 rfl ?_
      refine w_invSi [_] dX8_apart_112 l8_285 kX8_bitsOf rfl rfl (Nat.le_of_ble_eq_true rfl) (Or.inl rfl) h (fun r1 M2 h => ?_)
      refine w_iload dX8_apart_115 rfl ?_
      refine w_icmp_ne (tgt := 134) dX8_apart_117 (by decide) rfl rfl (fun q => ?_) (fun q => ?_)
      · have h := h.2 q
        refine w_iinc dX8_apart_134 rfl rfl ?_
        refine w_goto (tgt := 95) dX8_apart_137 (by decide) ?_
        exact w_fgt (fgk (fgk (fgk (fgk (fgk (fgk (fgn))))))) h
      · have h := h.1 q
        refine w_aload_n dX8_apart_120 rfl ?_
        refine w_iload_n dX8_apart_121 rfl ?_
        refine w_iload_n dX8_apart_122 rfl ?_
        refine w_iload dX8_apart_123 rfl ?_
        refine w_invVi [_, _, _] dX8_apart_125 l8_307 kX8_isFreeWithout rfl rfl (Nat.le_of_ble_eq_true rfl) (Or.inr rfl) ob_1280 h (fun r3 M4 h => ?_)
        refine w_if_eq (tgt := 134) dX8_apart_128 (by decide) rfl (fun q => ?_) (fun q => ?_)
        · have h := h.1 q
          refine w_iinc dX8_apart_134 rfl rfl ?_
          refine w_goto (tgt := 95) dX8_apart_137 (by decide) ?_
          exact w_fgt (fgk (fgk (fgk (fgk (fgk (fgk (fgn))))))) h
        · have h := h.2 q
          refine w_iload dX8_apart_131 rfl ?_
          exact w_ri rfl dX8_apart_133 rfl h
theorem e_X8_freed {d : Nat} {Q : Int → zM → Prop} {M : zM} (v1 : Int) (v2 : Int) (h : wp (Ev d) 8 cX8_freed (some .int) Q 0 [some (.ref 1280), some (zI v1), some (zI v2), none, none] [] M) : Ev (d + 1) mX8_freed [.ref 1280, zI v1, zI v2] M Q := ⟨kX8_freed, Nat.le_of_ble_eq_true rfl, h⟩
theorem v_X8_freed_0 {E : zE} {Q : Int → zM → Prop} {M : zM} (v1 : Int) (v2 : Int)  (h : E mX8_isPerson [.ref 1280, zI v1] M (fun r1 M2 => (zw r1 = 0 → (Q (-1) M2)) ∧ (¬ zw r1 = 0 → (E mX8_isYear [zI v2] M2 (fun r3 M4 => (zw r3 = 0 → (Q (-1) M4)) ∧ (¬ zw r3 = 0 → (E mX8_asNamed [.ref 1280] M4 (fun r5 M6 => E mX8_findKnown [.ref 1280, zI v2, zI 0] M6 (fun r7 M8 => wp E 8 cX8_freed (some .int) Q 32 [some (.ref 1280), some (zI v1), some (zI v2), some (zI 0), some (zI 0)] [] M8))))))))) : wp E 8 cX8_freed (some .int) Q 0 [some (.ref 1280), some (zI v1), some (zI v2), none, none] [] M := by
  refine w_aload_n dX8_freed_0 rfl ?_
  refine w_iload_n dX8_freed_1 rfl ?_
  refine w_invVi [_] dX8_freed_2 l8_135 kX8_isPerson rfl rfl (Nat.le_of_ble_eq_true rfl) (Or.inr rfl) ob_1280 h (fun r1 M2 h => ?_)
  refine w_if_eq (tgt := 15) dX8_freed_5 (by decide) rfl (fun q => ?_) (fun q => ?_)
  · have h := h.1 q
    refine w_iconst dX8_freed_15 ?_
    exact w_ri rfl dX8_freed_16 zq_m1 h
  · have h := h.2 q
    refine w_iload_n dX8_freed_8 rfl ?_
    refine w_invSi [_] dX8_freed_9 l8_118 kX8_isYear rfl rfl (Nat.le_of_ble_eq_true rfl) (Or.inr rfl) h (fun r3 M4 h => ?_)
    refine w_if_ne (tgt := 17) dX8_freed_12 (by decide) rfl (fun q => ?_) (fun q => ?_)
    · have h := h.2 q
      refine w_aload_n dX8_freed_17 rfl ?_
      refine w_invVv [] dX8_freed_18 l8_273 kX8_asNamed rfl rfl (Nat.le_of_ble_eq_true rfl) rfl ob_1280 h (fun r5 M6 h => ?_)
      refine w_aload_n dX8_freed_21 rfl ?_
      refine w_iload_n dX8_freed_22 rfl ?_
      refine w_iconst dX8_freed_23 ?_
      refine w_invVv [_, _] dX8_freed_24 l8_254 kX8_findKnown rfl rfl (Nat.le_of_ble_eq_true rfl) rfl ob_1280 h (fun r7 M8 h => ?_)
      refine w_iconst dX8_freed_27 ?_
      refine w_istore_n dX8_freed_28 (Nat.le_of_ble_eq_true rfl) rfl ?_
      refine w_iconst dX8_freed_29 ?_
      refine w_istore dX8_freed_30 (Nat.le_of_ble_eq_true rfl) rfl ?_
      exact w_fgt (fgk (fgk (fgk (fgk (fgk (fgn)))))) h
    · have h := h.1 q
      refine w_iconst dX8_freed_15 ?_
      exact w_ri rfl dX8_freed_16 zq_m1 h
theorem v_X8_freed_32 {E : zE} {Q : Int → zM → Prop} {M : zM} (v1 : Int) (v2 : Int) (v3 : Int) (v4 : Int)  (h : (zw v4 < 12 → (E mX8_everybody [.ref 1280] M (fun r1 M2 => E mX8_isFamous [.ref 1280, zI v4, zI v2, zI r1] M2 (fun r3 M4 => (zw r3 = 0 → (E mX8_everybody [.ref 1280] M4 (fun r5 M6 => E mX8_holders [.ref 1280, zI v4, zI v2, zI r5] M6 (fun r7 M8 => (zw r7 = z_shl 1 v1 → (wp E 8 cX8_freed (some .int) Q 32 [some (.ref 1280), some (zI v1), some (zI v2), some (zI (z_or v3 (z_shl 1 v4))), some (zI (v4 + 1))] [] M8)) ∧ (¬ zw r7 = z_shl 1 v1 → (wp E 8 cX8_freed (some .int) Q 32 [some (.ref 1280), some (zI v1), some (zI v2), some (zI v3), some (zI (v4 + 1))] [] M8)))))) ∧ (¬ zw r3 = 0 → (wp E 8 cX8_freed (some .int) Q 32 [some (.ref 1280), some (zI v1), some (zI v2), some (zI v3), some (zI (v4 + 1))] [] M4)))))) ∧ (¬ zw v4 < 12 → (Q (zw v3) M))) : wp E 8 cX8_freed (some .int) Q 32 [some (.ref 1280), some (zI v1), some (zI v2), some (zI v3), some (zI v4)] [] M := by
  refine w_iload dX8_freed_32 rfl ?_
  refine w_bipush dX8_freed_34 (by decide) ?_
  refine w_icmp_ge (tgt := 83) dX8_freed_36 (by decide) rfl zq_12 (fun q => ?_) (fun q => ?_)
  · have h := h.2 q
    refine w_iload_n dX8_freed_83 rfl ?_
    exact w_ri rfl dX8_freed_84 rfl h
  · have h := h.1 q
    refine w_aload_n dX8_freed_39 rfl ?_
    refine w_iload dX8_freed_40 rfl ?_
    refine w_iload_n dX8_freed_42 rfl ?_
    refine w_aload_n dX8_freed_43 rfl ?_
    refine w_invVi [] dX8_freed_44 l8_276 kX8_everybody rfl rfl (Nat.le_of_ble_eq_true rfl) (Or.inl rfl) ob_1280 h (fun r1 M2 h => ?_)
    refine w_invVi [_, _, _] dX8_freed_47 l8_267 kX8_isFamous rfl rfl (Nat.le_of_ble_eq_true rfl) (Or.inr rfl) ob_1280 h (fun r3 M4 h => ?_)
    refine w_if_ne (tgt := 77) dX8_freed_50 (by decide) rfl (fun q => ?_) (fun q => ?_)
    · have h := h.2 q
      refine w_iinc dX8_freed_77 rfl rfl ?_
      refine w_goto (tgt := 32) dX8_freed_80 (by decide) ?_
      exact w_fgt (fgk (fgk (fgk (fgk (fgk (fgn)))))) h
    · have h := h.1 q
      refine w_aload_n dX8_freed_53 rfl ?_
      refine w_iload dX8_freed_54 rfl ?_
      refine w_iload_n dX8_freed_56 rfl ?_
      refine w_aload_n dX8_freed_57 rfl ?_
      refine w_invVi [] dX8_freed_58 l8_276 kX8_everybody rfl rfl (Nat.le_of_ble_eq_true rfl) (Or.inl rfl) ob_1280 h (fun r5 M6 h => ?_)
      refine w_invVi [_, _, _] dX8_freed_61 l8_270 kX8_holders rfl rfl (Nat.le_of_ble_eq_true rfl) (Or.inl rfl) ob_1280 h (fun r7 M8 h => ?_)
      refine w_iconst dX8_freed_64 ?_
      refine w_iload_n dX8_freed_65 rfl ?_
      refine w_ishl dX8_freed_66 ?_
      refine w_icmp_ne (tgt := 77) dX8_freed_67 (by decide) rfl (zx_shl _ _) (fun q => ?_) (fun q => ?_)
      · have h := h.2 q
        refine w_iinc dX8_freed_77 rfl rfl ?_
        refine w_goto (tgt := 32) dX8_freed_80 (by decide) ?_
        exact w_fgt (fgk (fgk (fgk (fgk (fgk (fgn)))))) h
      · have h := h.1 q
        refine w_iload_n dX8_freed_70 rfl ?_
        refine w_iconst dX8_freed_71 ?_
        refine w_iload dX8_freed_72 rfl ?_
        refine w_ishl dX8_freed_74 ?_
        refine w_ior dX8_freed_75 ?_
        refine w_istore_n dX8_freed_76 (Nat.le_of_ble_eq_true rfl) rfl ?_
        refine w_iinc dX8_freed_77 rfl rfl ?_
        refine w_goto (tgt := 32) dX8_freed_80 (by decide) ?_
        exact w_fgt (fgk (fgk (fgk (fgk (fgk (fgn)))))) h
theorem e_X8_never {d : Nat} {Q : Int → zM → Prop} {M : zM} (v1 : Int) (h : wp (Ev d) 8 cX8_never (some .int) Q 0 [some (.ref 1280), some (zI v1), none, none, none] [] M) : Ev (d + 1) mX8_never [.ref 1280, zI v1] M Q := ⟨kX8_never, Nat.le_of_ble_eq_true rfl, h⟩
theorem v_X8_never_0 {E : zE} {Q : Int → zM → Prop} {M : zM} (v1 : Int)  (h : E mX8_isPerson [.ref 1280, zI v1] M (fun r1 M2 => (zw r1 = 0 → (Q (-1) M2)) ∧ (¬ zw r1 = 0 → (wp E 8 cX8_never (some .int) Q 14 [some (.ref 1280), some (zI v1), some (zI 0), some (zI 0), none] [] M2)))) : wp E 8 cX8_never (some .int) Q 0 [some (.ref 1280), some (zI v1), none, none, none] [] M := by
  refine w_aload_n dX8_never_0 rfl ?_
  refine w_iload_n dX8_never_1 rfl ?_
  refine w_invVi [_] dX8_never_2 l8_135 kX8_isPerson rfl rfl (Nat.le_of_ble_eq_true rfl) (Or.inr rfl) ob_1280 h (fun r1 M2 h => ?_)
  refine w_if_ne (tgt := 10) dX8_never_5 (by decide) rfl (fun q => ?_) (fun q => ?_)
  · have h := h.2 q
    refine w_iconst dX8_never_10 ?_
    refine w_istore_n dX8_never_11 (Nat.le_of_ble_eq_true rfl) rfl ?_
    refine w_iconst dX8_never_12 ?_
    refine w_istore_n dX8_never_13 (Nat.le_of_ble_eq_true rfl) rfl ?_
    exact w_fgt (fgk (fgk (fgk (fgk (fgd (fgn)))))) h
  · have h := h.1 q
    refine w_iconst dX8_never_8 ?_
    exact w_ri rfl dX8_never_9 zq_m1 h
theorem v_X8_never_14 {E : zE} {Q : Int → zM → Prop} {M : zM} (v1 : Int) (v2 : Int) (v3 : Int)  (h : (zw v3 < zg M 1280 1 → ((0 ≤ zw v1) ∧ ((zw v1 < 12) ∧ ((zg M 1285 (zw v1).toNat < 0 → (wp E 8 cX8_never (some .int) Q 14 [some (.ref 1280), some (zI v1), some (zI v2), some (zI (v3 + 1)), none] [] M)) ∧ (¬ zg M 1285 (zw v1).toNat < 0 → ((zw v3 = zw v1 → (wp E 8 cX8_never (some .int) Q 14 [some (.ref 1280), some (zI v1), some (zI v2), some (zI (v3 + 1)), none] [] M)) ∧ (¬ zw v3 = zw v1 → ((0 ≤ zw v3) ∧ ((zw v3 < 12) ∧ ((0 ≤ zw v1) ∧ ((zw v1 < 12) ∧ ((zg M 1285 (zw v3).toNat = zg M 1285 (zw v1).toNat → (E mX8_isAhead [.ref 1280, zI v1, zI v3] M (fun r7 M8 => (zw r7 = 0 → (wp E 8 cX8_never (some .int) Q 14 [some (.ref 1280), some (zI v1), some (zI v2), some (zI (v3 + 1)), none] [] M8)) ∧ (¬ zw r7 = 0 → (wp E 8 cX8_never (some .int) Q 66 [some (.ref 1280), some (zI v1), some (zI v2), some (zI v3), some (zI 0)] [] M8))))) ∧ (¬ zg M 1285 (zw v3).toNat = zg M 1285 (zw v1).toNat → (wp E 8 cX8_never (some .int) Q 14 [some (.ref 1280), some (zI v1), some (zI v2), some (zI (v3 + 1)), none] [] M)))))))))))))) ∧ (¬ zw v3 < zg M 1280 1 → (Q (zw v2) M))) : wp E 8 cX8_never (some .int) Q 14 [some (.ref 1280), some (zI v1), some (zI v2), some (zI v3), none] [] M := by
  refine w_iload_n dX8_never_14 rfl ?_
  refine w_aload_n dX8_never_15 rfl ?_
  refine w_gfI (ci := 8) (k := 1) dX8_never_16 f8_111 ob_1280 rfl ?_
  refine w_icmp_ge (tgt := 121) dX8_never_19 (by decide) rfl (zw_zg _ _ _) (fun q => ?_) (fun q => ?_)
  · have h := h.2 q
    refine w_iload_n dX8_never_121 rfl ?_
    exact w_ri rfl dX8_never_122 rfl h
  · have h := h.1 q
    refine w_aload_n dX8_never_22 rfl ?_
    refine w_gfA (ci := 8) (k := 4) dX8_never_23 f8_16 ob_1280 rfl ?_
    refine w_iload_n dX8_never_26 rfl ?_
    obtain ⟨c1, h⟩ := h
    obtain ⟨c2, h⟩ := h
    refine w_iald dX8_never_27 rfl (a8_4 ob_1280) c1 c2 ?_
    refine w_if_lt (tgt := 115) dX8_never_28 (by decide) (zw_zg _ _ _) (fun q => ?_) (fun q => ?_)
    · have h := h.1 q
      refine w_iinc dX8_never_115 rfl rfl ?_
      refine w_goto (tgt := 14) dX8_never_118 (by decide) ?_
      exact w_fgt (fgk (fgk (fgk (fgk (fgd (fgn)))))) h
    · have h := h.2 q
      refine w_iload_n dX8_never_31 rfl ?_
      refine w_iload_n dX8_never_32 rfl ?_
      refine w_icmp_eq (tgt := 115) dX8_never_33 (by decide) rfl rfl (fun q => ?_) (fun q => ?_)
      · have h := h.1 q
        refine w_iinc dX8_never_115 rfl rfl ?_
        refine w_goto (tgt := 14) dX8_never_118 (by decide) ?_
        exact w_fgt (fgk (fgk (fgk (fgk (fgd (fgn)))))) h
      · have h := h.2 q
        refine w_aload_n dX8_never_36 rfl ?_
        refine w_gfA (ci := 8) (k := 4) dX8_never_37 f8_16 ob_1280 rfl ?_
        refine w_iload_n dX8_never_40 rfl ?_
        obtain ⟨c3, h⟩ := h
        obtain ⟨c4, h⟩ := h
        refine w_iald dX8_never_41 rfl (a8_4 ob_1280) c3 c4 ?_
        refine w_aload_n dX8_never_42 rfl ?_
        refine w_gfA (ci := 8) (k := 4) dX8_never_43 f8_16 ob_1280 rfl ?_
        refine w_iload_n dX8_never_46 rfl ?_
        obtain ⟨c5, h⟩ := h
        obtain ⟨c6, h⟩ := h
        refine w_iald dX8_never_47 rfl (a8_4 ob_1280) c5 c6 ?_
        refine w_icmp_ne (tgt := 115) dX8_never_48 (by decide) (zw_zg _ _ _) (zw_zg _ _ _) (fun q => ?_) (fun q => ?_)
        · have h := h.2 q
          refine w_iinc dX8_never_115 rfl rfl ?_
          refine w_goto (tgt := 14) dX8_never_118 (by decide) ?_
          exact w_fgt (fgk (fgk (fgk (fgk (fgd (fgn)))))) h
        · have h := h.1 q
          refine w_aload_n dX8_never_51 rfl ?_
          refine w_iload_n dX8_never_52 rfl ?_
          refine w_iload_n dX8_never_53 rfl ?_
          refine w_invVi [_, _] dX8_never_54 l8_168 kX8_isAhead rfl rfl (Nat.le_of_ble_eq_true rfl) (Or.inr rfl) ob_1280 h (fun r7 M8 h => ?_)
          refine w_if_ne (tgt := 63) dX8_never_57 (by decide) rfl (fun q => ?_) (fun q => ?_)
          · have h := h.2 q
            refine w_iconst dX8_never_63 ?_
            refine w_istore dX8_never_64 (Nat.le_of_ble_eq_true rfl) rfl ?_
            exact w_fgt (fgk (fgk (fgk (fgk (fgk (fgn)))))) h
          · have h := h.1 q
            refine w_goto (tgt := 115) dX8_never_60 (by decide) ?_
            refine w_iinc dX8_never_115 rfl rfl ?_
            refine w_goto (tgt := 14) dX8_never_118 (by decide) ?_
            exact w_fgt (fgk (fgk (fgk (fgk (fgd (fgn)))))) h
theorem v_X8_never_66 {E : zE} {Q : Int → zM → Prop} {M : zM} (v1 : Int) (v2 : Int) (v3 : Int) (v4 : Int)  (h : (zw v4 < zg M 1280 1 → ((zw v4 = zw v1 → (wp E 8 cX8_never (some .int) Q 66 [some (.ref 1280), some (zI v1), some (zI v2), some (zI v3), some (zI (v4 + 1))] [] M)) ∧ (¬ zw v4 = zw v1 → ((zw v4 = zw v3 → (wp E 8 cX8_never (some .int) Q 66 [some (.ref 1280), some (zI v1), some (zI v2), some (zI v3), some (zI (v4 + 1))] [] M)) ∧ (¬ zw v4 = zw v3 → ((0 ≤ zw v3) ∧ ((zw v3 < 12) ∧ (E mX8_lives [.ref 1280, zI v4, zI (zg M 1283 (zw v3).toNat)] M (fun r3 M4 => (zw r3 = 0 → (wp E 8 cX8_never (some .int) Q 66 [some (.ref 1280), some (zI v1), some (zI v2), some (zI v3), some (zI (v4 + 1))] [] M4)) ∧ (¬ zw r3 = 0 → (wp E 8 cX8_never (some .int) Q 66 [some (.ref 1280), some (zI v1), some (zI (z_or v2 (z_shl 1 v4))), some (zI v3), some (zI (v4 + 1))] [] M4))))))))))) ∧ (¬ zw v4 < zg M 1280 1 → (wp E 8 cX8_never (some .int) Q 14 [some (.ref 1280), some (zI v1), some (zI v2), some (zI (v3 + 1)), none] [] M))) : wp E 8 cX8_never (some .int) Q 66 [some (.ref 1280), some (zI v1), some (zI v2), some (zI v3), some (zI v4)] [] M := by
  refine w_iload dX8_never_66 rfl ?_
  refine w_aload_n dX8_never_68 rfl ?_
  refine w_gfI (ci := 8) (k := 1) dX8_never_69 f8_111 ob_1280 rfl ?_
  refine w_icmp_ge (tgt := 115) dX8_never_72 (by decide) rfl (zw_zg _ _ _) (fun q => ?_) (fun q => ?_)
  · have h := h.2 q
    refine w_iinc dX8_never_115 rfl rfl ?_
    refine w_goto (tgt := 14) dX8_never_118 (by decide) ?_
    exact w_fgt (fgk (fgk (fgk (fgk (fgd (fgn)))))) h
  · have h := h.1 q
    refine w_iload dX8_never_75 rfl ?_
    refine w_iload_n dX8_never_77 rfl ?_
    refine w_icmp_eq (tgt := 109) dX8_never_78 (by decide) rfl rfl (fun q => ?_) (fun q => ?_)
    · have h := h.1 q
      refine w_iinc dX8_never_109 rfl rfl ?_
      refine w_goto (tgt := 66) dX8_never_112 (by decide) ?_
      exact w_fgt (fgk (fgk (fgk (fgk (fgk (fgn)))))) h
    · have h := h.2 q
      refine w_iload dX8_never_81 rfl ?_
      refine w_iload_n dX8_never_83 rfl ?_
      refine w_icmp_eq (tgt := 109) dX8_never_84 (by decide) rfl rfl (fun q => ?_) (fun q => ?_)
      · have h := h.1 q
        refine w_iinc dX8_never_109 rfl rfl ?_
        refine w_goto (tgt := 66) dX8_never_112 (by decide) ?_
        exact w_fgt (fgk (fgk (fgk (fgk (fgk (fgn)))))) h
      · have h := h.2 q
        refine w_aload_n dX8_never_87 rfl ?_
        refine w_iload dX8_never_88 rfl ?_
        refine w_aload_n dX8_never_90 rfl ?_
        refine w_gfA (ci := 8) (k := 2) dX8_never_91 f8_7 ob_1280 rfl ?_
        refine w_iload_n dX8_never_94 rfl ?_
        obtain ⟨c1, h⟩ := h
        obtain ⟨c2, h⟩ := h
        refine w_iald dX8_never_95 rfl (a8_2 ob_1280) c1 c2 ?_
        refine w_invVi [_, _] dX8_never_96 l8_138 kX8_lives rfl rfl (Nat.le_of_ble_eq_true rfl) (Or.inr rfl) ob_1280 h (fun r3 M4 h => ?_)
        refine w_if_eq (tgt := 109) dX8_never_99 (by decide) rfl (fun q => ?_) (fun q => ?_)
        · have h := h.1 q
          refine w_iinc dX8_never_109 rfl rfl ?_
          refine w_goto (tgt := 66) dX8_never_112 (by decide) ?_
          exact w_fgt (fgk (fgk (fgk (fgk (fgk (fgn)))))) h
        · have h := h.2 q
          refine w_iload_n dX8_never_102 rfl ?_
          refine w_iconst dX8_never_103 ?_
          refine w_iload dX8_never_104 rfl ?_
          refine w_ishl dX8_never_106 ?_
          refine w_ior dX8_never_107 ?_
          refine w_istore_n dX8_never_108 (Nat.le_of_ble_eq_true rfl) rfl ?_
          refine w_iinc dX8_never_109 rfl rfl ?_
          refine w_goto (tgt := 66) dX8_never_112 (by decide) ?_
          exact w_fgt (fgk (fgk (fgk (fgk (fgk (fgn)))))) h
theorem e_X8_needs {d : Nat} {Q : Int → zM → Prop} {M : zM} (v1 : Int) (v2 : Int) (v3 : Int) (h : wp (Ev d) 8 cX8_needs (some .int) Q 0 [some (.ref 1280), some (zI v1), some (zI v2), some (zI v3), none, none, none, none, none] [] M) : Ev (d + 1) mX8_needs [.ref 1280, zI v1, zI v2, zI v3] M Q := ⟨kX8_needs, Nat.le_of_ble_eq_true rfl, h⟩
theorem v_X8_needs_0 {E : zE} {Q : Int → zM → Prop} {M : zM} (v1 : Int) (v2 : Int) (v3 : Int)  (h : E mX8_in [zI v2, zI 1, zI 20] M (fun r1 M2 => (zw r1 = 0 → (Q (-1) M2)) ∧ (¬ zw r1 = 0 → (E mX8_in [zI v3, zI 0, zI 1] M2 (fun r3 M4 => (zw r3 = 0 → (Q (-1) M4)) ∧ (¬ zw r3 = 0 → (wp E 8 cX8_needs (some .int) Q 24 [some (.ref 1280), some (zI v1), some (zI v2), some (zI v3), some (zI 0), none, none, none, none] [] M4))))))) : wp E 8 cX8_needs (some .int) Q 0 [some (.ref 1280), some (zI v1), some (zI v2), some (zI v3), none, none, none, none, none] [] M := by
  refine w_iload_n dX8_needs_0 rfl ?_
  refine w_iconst dX8_needs_1 ?_
  refine w_bipush dX8_needs_2 (by decide) ?_
  refine w_invSi [_, _, _] dX8_needs_4 l8_114 kX8_in rfl rfl (Nat.le_of_ble_eq_true rfl) (Or.inr rfl) h (fun r1 M2 h => ?_)
  refine w_if_eq (tgt := 19) dX8_needs_7 (by decide) rfl (fun q => ?_) (fun q => ?_)
  · have h := h.1 q
    refine w_iconst dX8_needs_19 ?_
    exact w_ri rfl dX8_needs_20 zq_m1 h
  · have h := h.2 q
    refine w_iload_n dX8_needs_10 rfl ?_
    refine w_iconst dX8_needs_11 ?_
    refine w_iconst dX8_needs_12 ?_
    refine w_invSi [_, _, _] dX8_needs_13 l8_114 kX8_in rfl rfl (Nat.le_of_ble_eq_true rfl) (Or.inr rfl) h (fun r3 M4 h => ?_)
    refine w_if_ne (tgt := 21) dX8_needs_16 (by decide) rfl (fun q => ?_) (fun q => ?_)
    · have h := h.2 q
      refine w_iconst dX8_needs_21 ?_
      refine w_istore dX8_needs_22 (Nat.le_of_ble_eq_true rfl) rfl ?_
      exact w_fgt (fgk (fgk (fgk (fgk (fgk (fgd (fgd (fgd (fgd (fgn)))))))))) h
    · have h := h.1 q
      refine w_iconst dX8_needs_19 ?_
      exact w_ri rfl dX8_needs_20 zq_m1 h
theorem v_X8_needs_24 {E : zE} {Q : Int → zM → Prop} {M : zM} (v1 : Int) (v2 : Int) (v3 : Int) (v4 : Int)  (h : (zw v4 < zg M 1280 1 → ((0 ≤ zw v4) ∧ ((zw v4 < 12) ∧ ((0 ≤ zw v4) ∧ ((zw v4 < 12) ∧ (∀ M5 : zM, M5 = zs M 1316 (zw v4).toNat (zg M 1284 (zw v4).toNat) → (wp E 8 cX8_needs (some .int) Q 24 [some (.ref 1280), some (zI v1), some (zI v2), some (zI v3), some (zI (v4 + 1)), none, none, none, none] [] M5))))))) ∧ (¬ zw v4 < zg M 1280 1 → (wp E 8 cX8_needs (some .int) Q 65 [some (.ref 1280), none, some (zI v2), some (zI v3), some (zI v1), some (zI 0), some (zI 0), some (zI 0), none] [] M))) : wp E 8 cX8_needs (some .int) Q 24 [some (.ref 1280), some (zI v1), some (zI v2), some (zI v3), some (zI v4), none, none, none, none] [] M := by
  refine w_iload dX8_needs_24 rfl ?_
  refine w_aload_n dX8_needs_26 rfl ?_
  refine w_gfI (ci := 8) (k := 1) dX8_needs_27 f8_111 ob_1280 rfl ?_
  refine w_icmp_ge (tgt := 53) dX8_needs_30 (by decide) rfl (zw_zg _ _ _) (fun q => ?_) (fun q => ?_)
  · have h := h.2 q
    refine w_iload_n dX8_needs_53 rfl ?_
    refine w_istore dX8_needs_54 (Nat.le_of_ble_eq_true rfl) rfl ?_
    refine w_iconst dX8_needs_56 ?_
    refine w_istore dX8_needs_57 (Nat.le_of_ble_eq_true rfl) rfl ?_
    refine w_iconst dX8_needs_59 ?_
    refine w_istore dX8_needs_60 (Nat.le_of_ble_eq_true rfl) rfl ?_
    refine w_iconst dX8_needs_62 ?_
    refine w_istore dX8_needs_63 (Nat.le_of_ble_eq_true rfl) rfl ?_
    exact w_fgt (fgk (fgd (fgk (fgk (fgk (fgk (fgk (fgk (fgd (fgn)))))))))) h
  · have h := h.1 q
    refine w_aload_n dX8_needs_33 rfl ?_
    refine w_gfA (ci := 8) (k := 35) dX8_needs_34 f8_82 ob_1280 rfl ?_
    refine w_iload dX8_needs_37 rfl ?_
    refine w_aload_n dX8_needs_39 rfl ?_
    refine w_gfA (ci := 8) (k := 3) dX8_needs_40 f8_13 ob_1280 rfl ?_
    refine w_iload dX8_needs_43 rfl ?_
    obtain ⟨c1, h⟩ := h
    obtain ⟨c2, h⟩ := h
    refine w_iald dX8_needs_45 rfl (a8_3 ob_1280) c1 c2 ?_
    obtain ⟨c3, h⟩ := h
    obtain ⟨c4, h⟩ := h
    have h := h _ rfl
    refine w_iast dX8_needs_46 rfl (a8_35 ob_1280) c3 c4 ?_
    refine w_iinc dX8_needs_47 rfl rfl ?_
    refine w_goto (tgt := 24) dX8_needs_50 (by decide) ?_
    exact w_fgt (fgk (fgk (fgk (fgk (fgk (fgd (fgd (fgd (fgd (fgn)))))))))) h
theorem v_X8_needs_65 {E : zE} {Q : Int → zM → Prop} {M : zM} (v2 : Int) (v3 : Int) (v4 : Int) (v5 : Int) (v6 : Int) (v7 : Int)  (h : (zw v7 < zw v2 → (wp E 8 cX8_needs (some .int) Q 74 [some (.ref 1280), none, some (zI v2), some (zI v3), some (zI v4), some (zI v5), some (zI v6), some (zI v7), some (zI 0)] [] M)) ∧ (¬ zw v7 < zw v2 → (wp E 8 cX8_needs (some .int) Q 172 [some (.ref 1280), none, some (zI v2), some (zI v3), none, some (zI v5), some (zI v6), some (zI 0), none] [] M))) : wp E 8 cX8_needs (some .int) Q 65 [some (.ref 1280), none, some (zI v2), some (zI v3), some (zI v4), some (zI v5), some (zI v6), some (zI v7), none] [] M := by
  refine w_iload dX8_needs_65 rfl ?_
  refine w_iload_n dX8_needs_67 rfl ?_
  refine w_icmp_ge (tgt := 169) dX8_needs_68 (by decide) rfl rfl (fun q => ?_) (fun q => ?_)
  · have h := h.2 q
    refine w_iconst dX8_needs_169 ?_
    refine w_istore dX8_needs_170 (Nat.le_of_ble_eq_true rfl) rfl ?_
    exact w_fgt (fgk (fgd (fgk (fgk (fgd (fgk (fgk (fgk (fgd (fgn)))))))))) h
  · have h := h.1 q
    refine w_iconst dX8_needs_71 ?_
    refine w_istore dX8_needs_72 (Nat.le_of_ble_eq_true rfl) rfl ?_
    exact w_fgt (fgk (fgd (fgk (fgk (fgk (fgk (fgk (fgk (fgk (fgn)))))))))) h
theorem v_X8_needs_74 {E : zE} {Q : Int → zM → Prop} {M : zM} (v2 : Int) (v3 : Int) (v4 : Int) (v5 : Int) (v6 : Int) (v7 : Int) (v8 : Int)  (h : (zw v8 < zg M 1280 1 → ((0 ≤ zw v8) ∧ ((zw v8 < 12) ∧ ((0 ≤ zw v8) ∧ ((zw v8 < 12) ∧ ((¬ zw (100 - (zg M 1283 (zw v8).toNat)) = 0) ∧ ((0 ≤ zw v8) ∧ ((zw v8 < 12) ∧ (∀ M12 : zM, M12 = zs M 1284 (zw v8).toNat (((zg M 1283 (zw v8).toNat) + 1) + (z_rem (z_ushr ((v4 * 1103515245) + 12345) 8) (100 - (zg M 1283 (zw v8).toNat)))) → (wp E 8 cX8_needs (some .int) Q 74 [some (.ref 1280), none, some (zI v2), some (zI v3), some (zI ((v4 * 1103515245) + 12345)), some (zI v5), some (zI v6), some (zI v7), some (zI (v8 + 1))] [] M12)))))))))) ∧ (¬ zw v8 < zg M 1280 1 → (E mX8_runBy [.ref 1280, zI 0] M (fun r1 M2 => E mX8_unlikeNames [.ref 1280] M2 (fun r3 M4 => (zw v6 < zw r3 → (wp E 8 cX8_needs (some .int) Q 65 [some (.ref 1280), none, some (zI v2), some (zI v3), some (zI v4), some (zI (v5 + r3)), some (zI r3), some (zI (v7 + 1)), none] [] M4)) ∧ (¬ zw v6 < zw r3 → (wp E 8 cX8_needs (some .int) Q 65 [some (.ref 1280), none, some (zI v2), some (zI v3), some (zI v4), some (zI (v5 + r3)), some (zI v6), some (zI (v7 + 1)), none] [] M4))))))) : wp E 8 cX8_needs (some .int) Q 74 [some (.ref 1280), none, some (zI v2), some (zI v3), some (zI v4), some (zI v5), some (zI v6), some (zI v7), some (zI v8)] [] M := by
  refine w_iload dX8_needs_74 rfl ?_
  refine w_aload_n dX8_needs_76 rfl ?_
  refine w_gfI (ci := 8) (k := 1) dX8_needs_77 f8_111 ob_1280 rfl ?_
  refine w_icmp_ge (tgt := 134) dX8_needs_80 (by decide) rfl (zw_zg _ _ _) (fun q => ?_) (fun q => ?_)
  · have h := h.2 q
    refine w_aload_n dX8_needs_134 rfl ?_
    refine w_iconst dX8_needs_135 ?_
    refine w_invVv [_] dX8_needs_136 l8_300 kX8_runBy rfl rfl (Nat.le_of_ble_eq_true rfl) rfl ob_1280 h (fun r1 M2 h => ?_)
    refine w_aload_n dX8_needs_139 rfl ?_
    refine w_invVi [] dX8_needs_140 l8_304 kX8_unlikeNames rfl rfl (Nat.le_of_ble_eq_true rfl) (Or.inl rfl) ob_1280 h (fun r3 M4 h => ?_)
    refine w_istore dX8_needs_143 (Nat.le_of_ble_eq_true rfl) rfl ?_
    refine w_iload dX8_needs_145 rfl ?_
    refine w_iload dX8_needs_147 rfl ?_
    refine w_iadd dX8_needs_149 ?_
    refine w_istore dX8_needs_150 (Nat.le_of_ble_eq_true rfl) rfl ?_
    refine w_iload dX8_needs_152 rfl ?_
    refine w_iload dX8_needs_154 rfl ?_
    refine w_icmp_le (tgt := 163) dX8_needs_156 (by decide) rfl rfl (fun q => ?_) (fun q => ?_)
    · have h := h.2 q
      refine w_iinc dX8_needs_163 rfl rfl ?_
      refine w_goto (tgt := 65) dX8_needs_166 (by decide) ?_
      exact w_fgt (fgk (fgd (fgk (fgk (fgk (fgk (fgk (fgk (fgd (fgn)))))))))) h
    · have h := h.1 q
      refine w_iload dX8_needs_159 rfl ?_
      refine w_istore dX8_needs_161 (Nat.le_of_ble_eq_true rfl) rfl ?_
      refine w_iinc dX8_needs_163 rfl rfl ?_
      refine w_goto (tgt := 65) dX8_needs_166 (by decide) ?_
      exact w_fgt (fgk (fgd (fgk (fgk (fgk (fgk (fgk (fgk (fgd (fgn)))))))))) h
  · have h := h.1 q
    refine w_iload dX8_needs_83 rfl ?_
    refine w_ldcw (n := 1103515245) dX8_needs_85 o8_310 ?_
    refine w_imul dX8_needs_88 ?_
    refine w_sipush dX8_needs_89 (by decide) ?_
    refine w_iadd dX8_needs_92 ?_
    refine w_istore dX8_needs_93 (Nat.le_of_ble_eq_true rfl) rfl ?_
    refine w_aload_n dX8_needs_95 rfl ?_
    refine w_gfA (ci := 8) (k := 3) dX8_needs_96 f8_13 ob_1280 rfl ?_
    refine w_iload dX8_needs_99 rfl ?_
    refine w_aload_n dX8_needs_101 rfl ?_
    refine w_gfA (ci := 8) (k := 2) dX8_needs_102 f8_7 ob_1280 rfl ?_
    refine w_iload dX8_needs_105 rfl ?_
    obtain ⟨c5, h⟩ := h
    obtain ⟨c6, h⟩ := h
    refine w_iald dX8_needs_107 rfl (a8_2 ob_1280) c5 c6 ?_
    refine w_iconst dX8_needs_108 ?_
    refine w_iadd dX8_needs_109 ?_
    refine w_iload dX8_needs_110 rfl ?_
    refine w_bipush dX8_needs_112 (by decide) ?_
    refine w_iushr dX8_needs_114 ?_
    refine w_bipush dX8_needs_115 (by decide) ?_
    refine w_aload_n dX8_needs_117 rfl ?_
    refine w_gfA (ci := 8) (k := 2) dX8_needs_118 f8_7 ob_1280 rfl ?_
    refine w_iload dX8_needs_121 rfl ?_
    obtain ⟨c7, h⟩ := h
    obtain ⟨c8, h⟩ := h
    refine w_iald dX8_needs_123 rfl (a8_2 ob_1280) c7 c8 ?_
    refine w_isub dX8_needs_124 ?_
    obtain ⟨c9, h⟩ := h
    refine w_irem dX8_needs_125 c9 ?_
    refine w_iadd dX8_needs_126 ?_
    obtain ⟨c10, h⟩ := h
    obtain ⟨c11, h⟩ := h
    have h := h _ rfl
    refine w_iast dX8_needs_127 rfl (a8_3 ob_1280) c10 c11 ?_
    refine w_iinc dX8_needs_128 rfl rfl ?_
    refine w_goto (tgt := 74) dX8_needs_131 (by decide) ?_
    exact w_fgt (fgk (fgd (fgk (fgk (fgk (fgk (fgk (fgk (fgk (fgn)))))))))) h
theorem v_X8_needs_172 {E : zE} {Q : Int → zM → Prop} {M : zM} (v2 : Int) (v3 : Int) (v5 : Int) (v6 : Int) (v7 : Int)  (h : (zw v7 < zg M 1280 1 → ((0 ≤ zw v7) ∧ ((zw v7 < 12) ∧ ((0 ≤ zw v7) ∧ ((zw v7 < 12) ∧ (∀ M6 : zM, M6 = zs M 1284 (zw v7).toNat (zg M 1316 (zw v7).toNat) → (wp E 8 cX8_needs (some .int) Q 172 [some (.ref 1280), none, some (zI v2), some (zI v3), none, some (zI v5), some (zI v6), some (zI (v7 + 1)), none] [] M6))))))) ∧ (¬ zw v7 < zg M 1280 1 → ((zw v3 = 0 → ((¬ zw v2 = 0) ∧ (Q (z_div v5 v2) M))) ∧ (¬ zw v3 = 0 → (Q (zw v6) M))))) : wp E 8 cX8_needs (some .int) Q 172 [some (.ref 1280), none, some (zI v2), some (zI v3), none, some (zI v5), some (zI v6), some (zI v7), none] [] M := by
  refine w_iload dX8_needs_172 rfl ?_
  refine w_aload_n dX8_needs_174 rfl ?_
  refine w_gfI (ci := 8) (k := 1) dX8_needs_175 f8_111 ob_1280 rfl ?_
  refine w_icmp_ge (tgt := 201) dX8_needs_178 (by decide) rfl (zw_zg _ _ _) (fun q => ?_) (fun q => ?_)
  · have h := h.2 q
    refine w_iload_n dX8_needs_201 rfl ?_
    refine w_if_ne (tgt := 212) dX8_needs_202 (by decide) rfl (fun q => ?_) (fun q => ?_)
    · have h := h.2 q
      refine w_iload dX8_needs_212 rfl ?_
      exact w_ri rfl dX8_needs_214 rfl h
    · have h := h.1 q
      refine w_iload dX8_needs_205 rfl ?_
      refine w_iload_n dX8_needs_207 rfl ?_
      obtain ⟨c1, h⟩ := h
      refine w_idiv dX8_needs_208 c1 ?_
      refine w_goto (tgt := 214) dX8_needs_209 (by decide) ?_
      exact w_ri rfl dX8_needs_214 (zx_div _ _) h
  · have h := h.1 q
    refine w_aload_n dX8_needs_181 rfl ?_
    refine w_gfA (ci := 8) (k := 3) dX8_needs_182 f8_13 ob_1280 rfl ?_
    refine w_iload dX8_needs_185 rfl ?_
    refine w_aload_n dX8_needs_187 rfl ?_
    refine w_gfA (ci := 8) (k := 35) dX8_needs_188 f8_82 ob_1280 rfl ?_
    refine w_iload dX8_needs_191 rfl ?_
    obtain ⟨c2, h⟩ := h
    obtain ⟨c3, h⟩ := h
    refine w_iald dX8_needs_193 rfl (a8_35 ob_1280) c2 c3 ?_
    obtain ⟨c4, h⟩ := h
    obtain ⟨c5, h⟩ := h
    have h := h _ rfl
    refine w_iast dX8_needs_194 rfl (a8_3 ob_1280) c4 c5 ?_
    refine w_iinc dX8_needs_195 rfl rfl ?_
    refine w_goto (tgt := 172) dX8_needs_198 (by decide) ?_
    exact w_fgt (fgk (fgd (fgk (fgk (fgd (fgk (fgk (fgk (fgd (fgn)))))))))) h
theorem e_X8_image {d : Nat} {Q : Int → zM → Prop} {M : zM}  (h : wp (Ev d) 8 cX8_image (some .int) Q 0 [some (.ref 1280), none] [] M) : Ev (d + 1) mX8_image [.ref 1280] M Q := ⟨kX8_image, Nat.le_of_ble_eq_true rfl, h⟩
theorem v_X8_image_0 {E : zE} {Q : Int → zM → Prop} {M : zM}   (h : ∀ M1 : zM, M1 = zs M 1280 36 1 → (∀ M2 : zM, M2 = zs M1 1280 37 (zg M1 1280 1) → (wp E 8 cX8_image (some .int) Q 15 [some (.ref 1280), some (zI 0)] [] M2))) : wp E 8 cX8_image (some .int) Q 0 [some (.ref 1280), none] [] M := by
  refine w_aload_n dX8_image_0 rfl ?_
  refine w_iconst dX8_image_1 ?_
  have h := h _ rfl
  refine w_pfZ (ci := 8) (k := 36) dX8_image_2 f8_311 ob_1280 rfl rfl rfl (by decide) ?_
  refine w_aload_n dX8_image_5 rfl ?_
  refine w_aload_n dX8_image_6 rfl ?_
  refine w_gfI (ci := 8) (k := 1) dX8_image_7 f8_111 ob_1280 rfl ?_
  have h := h _ rfl
  refine w_pfI (ci := 8) (k := 37) dX8_image_10 f8_314 ob_1280 rfl rfl rfl ?_
  refine w_iconst dX8_image_13 ?_
  refine w_istore_n dX8_image_14 (Nat.le_of_ble_eq_true rfl) rfl ?_
  exact w_fgt (fgk (fgk (fgn))) h
theorem v_X8_image_15 {E : zE} {Q : Int → zM → Prop} {M : zM} (v1 : Int)  (h : (zw v1 < zg M 1280 1 → ((0 ≤ zw v1) ∧ ((zw v1 < 12) ∧ ((0 ≤ zw v1) ∧ ((zw v1 < 12) ∧ (∀ M5 : zM, M5 = zs M 1319 (zw v1).toNat (zg M 1285 (zw v1).toNat) → (wp E 8 cX8_image (some .int) Q 15 [some (.ref 1280), some (zI (v1 + 1))] [] M5))))))) ∧ (¬ zw v1 < zg M 1280 1 → (Q (zg M 1280 1) M))) : wp E 8 cX8_image (some .int) Q 15 [some (.ref 1280), some (zI v1)] [] M := by
  refine w_iload_n dX8_image_15 rfl ?_
  refine w_aload_n dX8_image_16 rfl ?_
  refine w_gfI (ci := 8) (k := 1) dX8_image_17 f8_111 ob_1280 rfl ?_
  refine w_icmp_ge (tgt := 41) dX8_image_20 (by decide) rfl (zw_zg _ _ _) (fun q => ?_) (fun q => ?_)
  · have h := h.2 q
    refine w_aload_n dX8_image_41 rfl ?_
    refine w_gfI (ci := 8) (k := 1) dX8_image_42 f8_111 ob_1280 rfl ?_
    exact w_ri rfl dX8_image_45 (zw_zg _ _ _) h
  · have h := h.1 q
    refine w_aload_n dX8_image_23 rfl ?_
    refine w_gfA (ci := 8) (k := 38) dX8_image_24 f8_85 ob_1280 rfl ?_
    refine w_iload_n dX8_image_27 rfl ?_
    refine w_aload_n dX8_image_28 rfl ?_
    refine w_gfA (ci := 8) (k := 4) dX8_image_29 f8_16 ob_1280 rfl ?_
    refine w_iload_n dX8_image_32 rfl ?_
    obtain ⟨c1, h⟩ := h
    obtain ⟨c2, h⟩ := h
    refine w_iald dX8_image_33 rfl (a8_4 ob_1280) c1 c2 ?_
    obtain ⟨c3, h⟩ := h
    obtain ⟨c4, h⟩ := h
    have h := h _ rfl
    refine w_iast dX8_image_34 rfl (a8_38 ob_1280) c3 c4 ?_
    refine w_iinc dX8_image_35 rfl rfl ?_
    refine w_goto (tgt := 15) dX8_image_38 (by decide) ?_
    exact w_fgt (fgk (fgk (fgn))) h
theorem e_X8_back {d : Nat} {Q : Int → zM → Prop} {M : zM}  (h : wp (Ev d) 8 cX8_back (some .int) Q 0 [some (.ref 1280), none] [] M) : Ev (d + 1) mX8_back [.ref 1280] M Q := ⟨kX8_back, Nat.le_of_ble_eq_true rfl, h⟩
theorem v_X8_back_0 {E : zE} {Q : Int → zM → Prop} {M : zM}   (h : (zg M 1280 36 = 0 → (Q (-5) M)) ∧ (¬ zg M 1280 36 = 0 → (wp E 8 cX8_back (some .int) Q 12 [some (.ref 1280), some (zI 0)] [] M))) : wp E 8 cX8_back (some .int) Q 0 [some (.ref 1280), none] [] M := by
  refine w_aload_n dX8_back_0 rfl ?_
  refine w_gfI (ci := 8) (k := 36) dX8_back_1 f8_311 ob_1280 rfl ?_
  refine w_if_ne (tgt := 10) dX8_back_4 (by decide) (zw_zg _ _ _) (fun q => ?_) (fun q => ?_)
  · have h := h.2 q
    refine w_iconst dX8_back_10 ?_
    refine w_istore_n dX8_back_11 (Nat.le_of_ble_eq_true rfl) rfl ?_
    exact w_fgt (fgk (fgk (fgn))) h
  · have h := h.1 q
    refine w_bipush dX8_back_7 (by decide) ?_
    exact w_ri rfl dX8_back_9 zq_m5 h
theorem v_X8_back_12 {E : zE} {Q : Int → zM → Prop} {M : zM} (v1 : Int)  (h : (zw v1 < zg M 1280 37 → ((0 ≤ zw v1) ∧ ((zw v1 < 12) ∧ ((0 ≤ zw v1) ∧ ((zw v1 < 12) ∧ (∀ M5 : zM, M5 = zs M 1285 (zw v1).toNat (zg M 1319 (zw v1).toNat) → (wp E 8 cX8_back (some .int) Q 12 [some (.ref 1280), some (zI (v1 + 1))] [] M5))))))) ∧ (¬ zw v1 < zg M 1280 37 → (Q (zg M 1280 37) M))) : wp E 8 cX8_back (some .int) Q 12 [some (.ref 1280), some (zI v1)] [] M := by
  refine w_iload_n dX8_back_12 rfl ?_
  refine w_aload_n dX8_back_13 rfl ?_
  refine w_gfI (ci := 8) (k := 37) dX8_back_14 f8_314 ob_1280 rfl ?_
  refine w_icmp_ge (tgt := 38) dX8_back_17 (by decide) rfl (zw_zg _ _ _) (fun q => ?_) (fun q => ?_)
  · have h := h.2 q
    refine w_aload_n dX8_back_38 rfl ?_
    refine w_gfI (ci := 8) (k := 37) dX8_back_39 f8_314 ob_1280 rfl ?_
    exact w_ri rfl dX8_back_42 (zw_zg _ _ _) h
  · have h := h.1 q
    refine w_aload_n dX8_back_20 rfl ?_
    refine w_gfA (ci := 8) (k := 4) dX8_back_21 f8_16 ob_1280 rfl ?_
    refine w_iload_n dX8_back_24 rfl ?_
    refine w_aload_n dX8_back_25 rfl ?_
    refine w_gfA (ci := 8) (k := 38) dX8_back_26 f8_85 ob_1280 rfl ?_
    refine w_iload_n dX8_back_29 rfl ?_
    obtain ⟨c1, h⟩ := h
    obtain ⟨c2, h⟩ := h
    refine w_iald dX8_back_30 rfl (a8_38 ob_1280) c1 c2 ?_
    obtain ⟨c3, h⟩ := h
    obtain ⟨c4, h⟩ := h
    have h := h _ rfl
    refine w_iast dX8_back_31 rfl (a8_4 ob_1280) c3 c4 ?_
    refine w_iinc dX8_back_32 rfl rfl ?_
    refine w_goto (tgt := 12) dX8_back_35 (by decide) ?_
    exact w_fgt (fgk (fgk (fgn))) h
theorem e_X8_isBody {d : Nat} {Q : Int → zM → Prop} {M : zM} (v1 : Int) (h : wp (Ev d) 8 cX8_isBody (some .boolean) Q 0 [some (.ref 1280), some (zI v1)] [] M) : Ev (d + 1) mX8_isBody [.ref 1280, zI v1] M Q := ⟨kX8_isBody, Nat.le_of_ble_eq_true rfl, h⟩
theorem v_X8_isBody_0 {E : zE} {Q : Int → zM → Prop} {M : zM} (v1 : Int)  (h : E mX8_in [zI v1, zI 0, zI ((zg M 1280 39) - 1)] M (fun r1 M2 => (zw r1 = 0 ∨ zw r1 = 1) ∧ (Q (zw r1) M2))) : wp E 8 cX8_isBody (some .boolean) Q 0 [some (.ref 1280), some (zI v1)] [] M := by
  refine w_iload_n dX8_isBody_0 rfl ?_
  refine w_iconst dX8_isBody_1 ?_
  refine w_aload_n dX8_isBody_2 rfl ?_
  refine w_gfI (ci := 8) (k := 39) dX8_isBody_3 f8_317 ob_1280 rfl ?_
  refine w_iconst dX8_isBody_6 ?_
  refine w_isub dX8_isBody_7 ?_
  refine w_invSi [_, _, _] dX8_isBody_8 l8_114 kX8_in rfl rfl (Nat.le_of_ble_eq_true rfl) (Or.inr rfl) h (fun r1 M2 h => ?_)
  obtain ⟨c3, h⟩ := h
  exact w_rz rfl dX8_isBody_11 rfl c3 h
theorem e_X8_ran {d : Nat} {Q : Int → zM → Prop} {M : zM} (v1 : Int) (h : wp (Ev d) 8 cX8_ran (none) Q 0 [some (.ref 1280), some (zI v1)] [] M) : Ev (d + 1) mX8_ran [.ref 1280, zI v1] M Q := ⟨kX8_ran, Nat.le_of_ble_eq_true rfl, h⟩
theorem v_X8_ran_0 {E : zE} {Q : Int → zM → Prop} {M : zM} (v1 : Int)  (h : (zg M 1280 41 < 24 → ((0 ≤ zg M 1280 41) ∧ ((zg M 1280 41 < 24) ∧ (∀ M4 : zM, M4 = zs M 1323 (zg M 1280 41).toNat v1 → (∀ M5 : zM, M5 = zs M4 1280 41 ((zg M4 1280 41) + 1) → (Q 0 M5)))))) ∧ (¬ zg M 1280 41 < 24 → (∀ M1 : zM, M1 = zs M 1280 41 ((zg M 1280 41) + 1) → (Q 0 M1)))) : wp E 8 cX8_ran (none) Q 0 [some (.ref 1280), some (zI v1)] [] M := by
  refine w_aload_n dX8_ran_0 rfl ?_
  refine w_gfI (ci := 8) (k := 41) dX8_ran_1 f8_320 ob_1280 rfl ?_
  refine w_bipush dX8_ran_4 (by decide) ?_
  refine w_icmp_ge (tgt := 19) dX8_ran_6 (by decide) (zw_zg _ _ _) zq_24 (fun q => ?_) (fun q => ?_)
  · have h := h.2 q
    refine w_aload_n dX8_ran_19 rfl ?_
    refine w_dup dX8_ran_20 rfl ?_
    refine w_gfI (ci := 8) (k := 41) dX8_ran_21 f8_320 ob_1280 rfl ?_
    refine w_iconst dX8_ran_24 ?_
    refine w_iadd dX8_ran_25 ?_
    have h := h _ rfl
    refine w_pfI (ci := 8) (k := 41) dX8_ran_26 f8_320 ob_1280 rfl rfl rfl ?_
    exact w_rv rfl dX8_ran_29 h
  · have h := h.1 q
    refine w_aload_n dX8_ran_9 rfl ?_
    refine w_gfA (ci := 8) (k := 42) dX8_ran_10 f8_91 ob_1280 rfl ?_
    refine w_aload_n dX8_ran_13 rfl ?_
    refine w_gfI (ci := 8) (k := 41) dX8_ran_14 f8_320 ob_1280 rfl ?_
    refine w_iload_n dX8_ran_17 rfl ?_
    obtain ⟨c2, h⟩ := h
    obtain ⟨c3, h⟩ := h
    have h := h _ rfl
    refine w_iast dX8_ran_18 (zw_zg _ _ _) (a8_42 ob_1280) c2 c3 ?_
    refine w_aload_n dX8_ran_19 rfl ?_
    refine w_dup dX8_ran_20 rfl ?_
    refine w_gfI (ci := 8) (k := 41) dX8_ran_21 f8_320 ob_1280 rfl ?_
    refine w_iconst dX8_ran_24 ?_
    refine w_iadd dX8_ran_25 ?_
    have h := h _ rfl
    refine w_pfI (ci := 8) (k := 41) dX8_ran_26 f8_320 ob_1280 rfl rfl rfl ?_
    exact w_rv rfl dX8_ran_29 h
theorem e_X8_trace {d : Nat} {Q : Int → zM → Prop} {M : zM} (v1 : Int) (h : wp (Ev d) 8 cX8_trace (some .int) Q 0 [some (.ref 1280), some (zI v1)] [] M) : Ev (d + 1) mX8_trace [.ref 1280, zI v1] M Q := ⟨kX8_trace, Nat.le_of_ble_eq_true rfl, h⟩
theorem v_X8_trace_0 {E : zE} {Q : Int → zM → Prop} {M : zM} (v1 : Int)  (h : (zw v1 < 0 → (Q (-1) M)) ∧ (¬ zw v1 < 0 → ((zw v1 < zg M 1280 41 → ((zw v1 < 24 → ((0 ≤ zw v1) ∧ ((zw v1 < 24) ∧ (Q (zg M 1323 (zw v1).toNat) M)))) ∧ (¬ zw v1 < 24 → (Q (-1) M)))) ∧ (¬ zw v1 < zg M 1280 41 → (Q (-1) M))))) : wp E 8 cX8_trace (some .int) Q 0 [some (.ref 1280), some (zI v1)] [] M := by
  refine w_iload_n dX8_trace_0 rfl ?_
  refine w_if_lt (tgt := 27) dX8_trace_1 (by decide) rfl (fun q => ?_) (fun q => ?_)
  · have h := h.1 q
    refine w_iconst dX8_trace_27 ?_
    exact w_ri rfl dX8_trace_28 zq_m1 h
  · have h := h.2 q
    refine w_iload_n dX8_trace_4 rfl ?_
    refine w_aload_n dX8_trace_5 rfl ?_
    refine w_gfI (ci := 8) (k := 41) dX8_trace_6 f8_320 ob_1280 rfl ?_
    refine w_icmp_ge (tgt := 27) dX8_trace_9 (by decide) rfl (zw_zg _ _ _) (fun q => ?_) (fun q => ?_)
    · have h := h.2 q
      refine w_iconst dX8_trace_27 ?_
      exact w_ri rfl dX8_trace_28 zq_m1 h
    · have h := h.1 q
      refine w_iload_n dX8_trace_12 rfl ?_
      refine w_bipush dX8_trace_13 (by decide) ?_
      refine w_icmp_ge (tgt := 27) dX8_trace_15 (by decide) rfl zq_24 (fun q => ?_) (fun q => ?_)
      · have h := h.2 q
        refine w_iconst dX8_trace_27 ?_
        exact w_ri rfl dX8_trace_28 zq_m1 h
      · have h := h.1 q
        refine w_aload_n dX8_trace_18 rfl ?_
        refine w_gfA (ci := 8) (k := 42) dX8_trace_19 f8_91 ob_1280 rfl ?_
        refine w_iload_n dX8_trace_22 rfl ?_
        obtain ⟨c1, h⟩ := h
        obtain ⟨c2, h⟩ := h
        refine w_iald dX8_trace_23 rfl (a8_42 ob_1280) c1 c2 ?_
        refine w_goto (tgt := 28) dX8_trace_24 (by decide) ?_
        exact w_ri rfl dX8_trace_28 (zw_zg _ _ _) h
theorem e_X8_body {d : Nat} {Q : Int → zM → Prop} {M : zM} (v1 : Int) (h : wp (Ev d) 8 cX8_body (some .int) Q 0 [some (.ref 1280), some (zI v1)] [] M) : Ev (d + 1) mX8_body [.ref 1280, zI v1] M Q := ⟨kX8_body, Nat.le_of_ble_eq_true rfl, h⟩
theorem v_X8_body_0 {E : zE} {Q : Int → zM → Prop} {M : zM} (v1 : Int)  (h : E mX8_in [zI v1, zI 0, zI 7] M (fun r1 M2 => (zw r1 = 0 → (Q (-1) M2)) ∧ (¬ zw r1 = 0 → ((zg M2 1280 39 = 50 → (Q (-3) M2)) ∧ (¬ zg M2 1280 39 = 50 → ((0 ≤ zg M2 1280 39) ∧ ((zg M2 1280 39 < 50) ∧ (∀ M5 : zM, M5 = zs M2 1321 (zg M2 1280 39).toNat v1 → (∀ M6 : zM, M6 = zs M5 1280 39 ((zg M5 1280 39) + 1) → (Q (zw ((zg M6 1280 39) - 1)) M6)))))))))) : wp E 8 cX8_body (some .int) Q 0 [some (.ref 1280), some (zI v1)] [] M := by
  refine w_iload_n dX8_body_0 rfl ?_
  refine w_iconst dX8_body_1 ?_
  refine w_bipush dX8_body_2 (by decide) ?_
  refine w_invSi [_, _, _] dX8_body_4 l8_114 kX8_in rfl rfl (Nat.le_of_ble_eq_true rfl) (Or.inr rfl) h (fun r1 M2 h => ?_)
  refine w_if_ne (tgt := 12) dX8_body_7 (by decide) rfl (fun q => ?_) (fun q => ?_)
  · have h := h.2 q
    refine w_aload_n dX8_body_12 rfl ?_
    refine w_gfI (ci := 8) (k := 39) dX8_body_13 f8_317 ob_1280 rfl ?_
    refine w_bipush dX8_body_16 (by decide) ?_
    refine w_icmp_ne (tgt := 24) dX8_body_18 (by decide) (zw_zg _ _ _) zq_50 (fun q => ?_) (fun q => ?_)
    · have h := h.2 q
      refine w_aload_n dX8_body_24 rfl ?_
      refine w_gfA (ci := 8) (k := 40) dX8_body_25 f8_88 ob_1280 rfl ?_
      refine w_aload_n dX8_body_28 rfl ?_
      refine w_gfI (ci := 8) (k := 39) dX8_body_29 f8_317 ob_1280 rfl ?_
      refine w_iload_n dX8_body_32 rfl ?_
      obtain ⟨c3, h⟩ := h
      obtain ⟨c4, h⟩ := h
      have h := h _ rfl
      refine w_iast dX8_body_33 (zw_zg _ _ _) (a8_40 ob_1280) c3 c4 ?_
      refine w_aload_n dX8_body_34 rfl ?_
      refine w_dup dX8_body_35 rfl ?_
      refine w_gfI (ci := 8) (k := 39) dX8_body_36 f8_317 ob_1280 rfl ?_
      refine w_iconst dX8_body_39 ?_
      refine w_iadd dX8_body_40 ?_
      have h := h _ rfl
      refine w_pfI (ci := 8) (k := 39) dX8_body_41 f8_317 ob_1280 rfl rfl rfl ?_
      refine w_aload_n dX8_body_44 rfl ?_
      refine w_gfI (ci := 8) (k := 39) dX8_body_45 f8_317 ob_1280 rfl ?_
      refine w_iconst dX8_body_48 ?_
      refine w_isub dX8_body_49 ?_
      exact w_ri rfl dX8_body_50 rfl h
    · have h := h.1 q
      refine w_bipush dX8_body_21 (by decide) ?_
      exact w_ri rfl dX8_body_23 zq_m3 h
  · have h := h.1 q
    refine w_iconst dX8_body_10 ?_
    exact w_ri rfl dX8_body_11 zq_m1 h
theorem e_X8_isUnder {d : Nat} {Q : Int → zM → Prop} {M : zM} (v0 : Int) (v1 : Int) (h : wp (Ev d) 8 cX8_isUnder (some .boolean) Q 0 [some (zI v0), some (zI v1)] [] M) : Ev (d + 1) mX8_isUnder [zI v0, zI v1] M Q := ⟨kX8_isUnder, Nat.le_of_ble_eq_true rfl, h⟩
theorem v_X8_isUnder_0 {E : zE} {Q : Int → zM → Prop} {M : zM} (v0 : Int) (v1 : Int)  (h : (zw v1 = 0 → (Q 1 M)) ∧ (¬ zw v1 = 0 → ((zw v0 = zw v1 → (Q 1 M)) ∧ (¬ zw v0 = zw v1 → ((zw v1 = 1 → ((zw v0 = 4 → (Q 1 M)) ∧ (¬ zw v0 = 4 → (wp E 8 cX8_isUnder (some .boolean) Q 19 [some (zI v0), some (zI v1)] [] M)))) ∧ (¬ zw v1 = 1 → (wp E 8 cX8_isUnder (some .boolean) Q 19 [some (zI v0), some (zI v1)] [] M))))))) : wp E 8 cX8_isUnder (some .boolean) Q 0 [some (zI v0), some (zI v1)] [] M := by
  refine w_iload_n dX8_isUnder_0 rfl ?_
  refine w_if_eq (tgt := 56) dX8_isUnder_1 (by decide) rfl (fun q => ?_) (fun q => ?_)
  · have h := h.1 q
    refine w_iconst dX8_isUnder_56 ?_
    refine w_goto (tgt := 61) dX8_isUnder_57 (by decide) ?_
    exact w_rz rfl dX8_isUnder_61 zq_1 (by decide) h
  · have h := h.2 q
    refine w_iload_n dX8_isUnder_4 rfl ?_
    refine w_iload_n dX8_isUnder_5 rfl ?_
    refine w_icmp_eq (tgt := 56) dX8_isUnder_6 (by decide) rfl rfl (fun q => ?_) (fun q => ?_)
    · have h := h.1 q
      refine w_iconst dX8_isUnder_56 ?_
      refine w_goto (tgt := 61) dX8_isUnder_57 (by decide) ?_
      exact w_rz rfl dX8_isUnder_61 zq_1 (by decide) h
    · have h := h.2 q
      refine w_iload_n dX8_isUnder_9 rfl ?_
      refine w_iconst dX8_isUnder_10 ?_
      refine w_icmp_ne (tgt := 19) dX8_isUnder_11 (by decide) rfl zq_1 (fun q => ?_) (fun q => ?_)
      · have h := h.2 q
        exact w_fgt (fgk (fgk (fgn))) h
      · have h := h.1 q
        refine w_iload_n dX8_isUnder_14 rfl ?_
        refine w_iconst dX8_isUnder_15 ?_
        refine w_icmp_eq (tgt := 56) dX8_isUnder_16 (by decide) rfl zq_4 (fun q => ?_) (fun q => ?_)
        · have h := h.1 q
          refine w_iconst dX8_isUnder_56 ?_
          refine w_goto (tgt := 61) dX8_isUnder_57 (by decide) ?_
          exact w_rz rfl dX8_isUnder_61 zq_1 (by decide) h
        · have h := h.2 q
          exact w_fgt (fgk (fgk (fgn))) h
theorem v_X8_isUnder_19 {E : zE} {Q : Int → zM → Prop} {M : zM} (v0 : Int) (v1 : Int)  (h : (zw v1 = 2 → ((zw v0 = 3 → (Q 1 M)) ∧ (¬ zw v0 = 3 → ((zw v0 = 5 → (Q 1 M)) ∧ (¬ zw v0 = 5 → (wp E 8 cX8_isUnder (some .boolean) Q 34 [some (zI v0), some (zI v1)] [] M)))))) ∧ (¬ zw v1 = 2 → (wp E 8 cX8_isUnder (some .boolean) Q 34 [some (zI v0), some (zI v1)] [] M))) : wp E 8 cX8_isUnder (some .boolean) Q 19 [some (zI v0), some (zI v1)] [] M := by
  refine w_iload_n dX8_isUnder_19 rfl ?_
  refine w_iconst dX8_isUnder_20 ?_
  refine w_icmp_ne (tgt := 34) dX8_isUnder_21 (by decide) rfl zq_2 (fun q => ?_) (fun q => ?_)
  · have h := h.2 q
    exact w_fgt (fgk (fgk (fgn))) h
  · have h := h.1 q
    refine w_iload_n dX8_isUnder_24 rfl ?_
    refine w_iconst dX8_isUnder_25 ?_
    refine w_icmp_eq (tgt := 56) dX8_isUnder_26 (by decide) rfl zq_3 (fun q => ?_) (fun q => ?_)
    · have h := h.1 q
      refine w_iconst dX8_isUnder_56 ?_
      refine w_goto (tgt := 61) dX8_isUnder_57 (by decide) ?_
      exact w_rz rfl dX8_isUnder_61 zq_1 (by decide) h
    · have h := h.2 q
      refine w_iload_n dX8_isUnder_29 rfl ?_
      refine w_iconst dX8_isUnder_30 ?_
      refine w_icmp_eq (tgt := 56) dX8_isUnder_31 (by decide) rfl zq_5 (fun q => ?_) (fun q => ?_)
      · have h := h.1 q
        refine w_iconst dX8_isUnder_56 ?_
        refine w_goto (tgt := 61) dX8_isUnder_57 (by decide) ?_
        exact w_rz rfl dX8_isUnder_61 zq_1 (by decide) h
      · have h := h.2 q
        exact w_fgt (fgk (fgk (fgn))) h
theorem v_X8_isUnder_34 {E : zE} {Q : Int → zM → Prop} {M : zM} (v0 : Int) (v1 : Int)  (h : (zw v1 = 3 → ((zw v0 = 5 → (Q 1 M)) ∧ (¬ zw v0 = 5 → (wp E 8 cX8_isUnder (some .boolean) Q 44 [some (zI v0), some (zI v1)] [] M)))) ∧ (¬ zw v1 = 3 → (wp E 8 cX8_isUnder (some .boolean) Q 44 [some (zI v0), some (zI v1)] [] M))) : wp E 8 cX8_isUnder (some .boolean) Q 34 [some (zI v0), some (zI v1)] [] M := by
  refine w_iload_n dX8_isUnder_34 rfl ?_
  refine w_iconst dX8_isUnder_35 ?_
  refine w_icmp_ne (tgt := 44) dX8_isUnder_36 (by decide) rfl zq_3 (fun q => ?_) (fun q => ?_)
  · have h := h.2 q
    exact w_fgt (fgk (fgk (fgn))) h
  · have h := h.1 q
    refine w_iload_n dX8_isUnder_39 rfl ?_
    refine w_iconst dX8_isUnder_40 ?_
    refine w_icmp_eq (tgt := 56) dX8_isUnder_41 (by decide) rfl zq_5 (fun q => ?_) (fun q => ?_)
    · have h := h.1 q
      refine w_iconst dX8_isUnder_56 ?_
      refine w_goto (tgt := 61) dX8_isUnder_57 (by decide) ?_
      exact w_rz rfl dX8_isUnder_61 zq_1 (by decide) h
    · have h := h.2 q
      exact w_fgt (fgk (fgk (fgn))) h
theorem v_X8_isUnder_44 {E : zE} {Q : Int → zM → Prop} {M : zM} (v0 : Int) (v1 : Int)  (h : (zw v1 = 6 → ((zw v0 = 7 → (Q 1 M)) ∧ (¬ zw v0 = 7 → (Q 0 M)))) ∧ (¬ zw v1 = 6 → (Q 0 M))) : wp E 8 cX8_isUnder (some .boolean) Q 44 [some (zI v0), some (zI v1)] [] M := by
  refine w_iload_n dX8_isUnder_44 rfl ?_
  refine w_bipush dX8_isUnder_45 (by decide) ?_
  refine w_icmp_ne (tgt := 60) dX8_isUnder_47 (by decide) rfl zq_6 (fun q => ?_) (fun q => ?_)
  · have h := h.2 q
    refine w_iconst dX8_isUnder_60 ?_
    exact w_rz rfl dX8_isUnder_61 zq_0 (by decide) h
  · have h := h.1 q
    refine w_iload_n dX8_isUnder_50 rfl ?_
    refine w_bipush dX8_isUnder_51 (by decide) ?_
    refine w_icmp_ne (tgt := 60) dX8_isUnder_53 (by decide) rfl zq_7 (fun q => ?_) (fun q => ?_)
    · have h := h.2 q
      refine w_iconst dX8_isUnder_60 ?_
      exact w_rz rfl dX8_isUnder_61 zq_0 (by decide) h
    · have h := h.1 q
      refine w_iconst dX8_isUnder_56 ?_
      refine w_goto (tgt := 61) dX8_isUnder_57 (by decide) ?_
      exact w_rz rfl dX8_isUnder_61 zq_1 (by decide) h
theorem e_X8_plainGives {d : Nat} {Q : Int → zM → Prop} {M : zM} (v1 : Int) (v2 : Int) (h : wp (Ev d) 8 cX8_plainGives (some .int) Q 0 [some (.ref 1280), some (zI v1), some (zI v2)] [] M) : Ev (d + 1) mX8_plainGives [.ref 1280, zI v1, zI v2] M Q := ⟨kX8_plainGives, Nat.le_of_ble_eq_true rfl, h⟩
theorem v_X8_plainGives_0 {E : zE} {Q : Int → zM → Prop} {M : zM} (v1 : Int) (v2 : Int)  (h : E mX8_ran [.ref 1280, zI 1] M (fun r1 M2 => Q (zw (v2 + v1)) M2)) : wp E 8 cX8_plainGives (some .int) Q 0 [some (.ref 1280), some (zI v1), some (zI v2)] [] M := by
  refine w_aload_n dX8_plainGives_0 rfl ?_
  refine w_iconst dX8_plainGives_1 ?_
  refine w_invVv [_] dX8_plainGives_2 l8_323 kX8_ran rfl rfl (Nat.le_of_ble_eq_true rfl) rfl ob_1280 h (fun r1 M2 h => ?_)
  refine w_iload_n dX8_plainGives_5 rfl ?_
  refine w_iload_n dX8_plainGives_6 rfl ?_
  refine w_iadd dX8_plainGives_7 ?_
  exact w_ri rfl dX8_plainGives_8 rfl h
theorem e_X8_toldGives {d : Nat} {Q : Int → zM → Prop} {M : zM} (v1 : Int) (v2 : Int) (h : wp (Ev d) 8 cX8_toldGives (some .int) Q 0 [some (.ref 1280), some (zI v1), some (zI v2)] [] M) : Ev (d + 1) mX8_toldGives [.ref 1280, zI v1, zI v2] M Q := ⟨kX8_toldGives, Nat.le_of_ble_eq_true rfl, h⟩
theorem v_X8_toldGives_0 {E : zE} {Q : Int → zM → Prop} {M : zM} (v1 : Int) (v2 : Int)  (h : E mX8_ran [.ref 1280, zI 70] M (fun r1 M2 => E mX8_plainGives [.ref 1280, zI v1, zI v2] M2 (fun r3 M4 => Q (zw (r3 * 2)) M4))) : wp E 8 cX8_toldGives (some .int) Q 0 [some (.ref 1280), some (zI v1), some (zI v2)] [] M := by
  refine w_aload_n dX8_toldGives_0 rfl ?_
  refine w_bipush dX8_toldGives_1 (by decide) ?_
  refine w_invVv [_] dX8_toldGives_3 l8_323 kX8_ran rfl rfl (Nat.le_of_ble_eq_true rfl) rfl ob_1280 h (fun r1 M2 h => ?_)
  refine w_aload_n dX8_toldGives_6 rfl ?_
  refine w_iload_n dX8_toldGives_7 rfl ?_
  refine w_iload_n dX8_toldGives_8 rfl ?_
  refine w_invVi [_, _] dX8_toldGives_9 l8_326 kX8_plainGives rfl rfl (Nat.le_of_ble_eq_true rfl) (Or.inl rfl) ob_1280 h (fun r3 M4 h => ?_)
  refine w_iconst dX8_toldGives_12 ?_
  refine w_imul dX8_toldGives_13 ?_
  exact w_ri rfl dX8_toldGives_14 rfl h
theorem e_X8_giving {d : Nat} {Q : Int → zM → Prop} {M : zM} (v1 : Int) (v2 : Int) (h : wp (Ev d) 8 cX8_giving (some .int) Q 0 [some (.ref 1280), some (zI v1), some (zI v2)] [] M) : Ev (d + 1) mX8_giving [.ref 1280, zI v1, zI v2] M Q := ⟨kX8_giving, Nat.le_of_ble_eq_true rfl, h⟩
theorem v_X8_giving_0 {E : zE} {Q : Int → zM → Prop} {M : zM} (v1 : Int) (v2 : Int)  (h : (0 ≤ zw v1) ∧ ((zw v1 < 50) ∧ (E mX8_isUnder [zI (zg M 1321 (zw v1).toNat), zI 1] M (fun r3 M4 => (zw r3 = 0 → ((0 ≤ zw v1) ∧ ((zw v1 < 50) ∧ ((zg M4 1321 (zw v1).toNat = 7 → (E mX8_ran [.ref 1280, zI 81] M4 (fun r13 M14 => E mX8_toldGives [.ref 1280, zI v1, zI v2] M14 (fun r15 M16 => Q (zw (r15 - 1)) M16)))) ∧ (¬ zg M4 1321 (zw v1).toNat = 7 → ((0 ≤ zw v1) ∧ ((zw v1 < 50) ∧ ((zg M4 1321 (zw v1).toNat = 6 → (E mX8_toldGives [.ref 1280, zI v1, zI v2] M4 (fun r11 M12 => Q (zw r11) M12))) ∧ (¬ zg M4 1321 (zw v1).toNat = 6 → (E mX8_plainGives [.ref 1280, zI v1, zI v2] M4 (fun r9 M10 => Q (zw r9) M10))))))))))) ∧ (¬ zw r3 = 0 → (E mX8_ran [.ref 1280, zI 20] M4 (fun r17 M18 => E mX8_plainGives [.ref 1280, zI v1, zI v2] M18 (fun r19 M20 => Q (zw (r19 + 3)) M20)))))))) : wp E 8 cX8_giving (some .int) Q 0 [some (.ref 1280), some (zI v1), some (zI v2)] [] M := by
  refine w_aload_n dX8_giving_0 rfl ?_
  refine w_gfA (ci := 8) (k := 40) dX8_giving_1 f8_88 ob_1280 rfl ?_
  refine w_iload_n dX8_giving_4 rfl ?_
  obtain ⟨c1, h⟩ := h
  obtain ⟨c2, h⟩ := h
  refine w_iald dX8_giving_5 rfl (a8_40 ob_1280) c1 c2 ?_
  refine w_iconst dX8_giving_6 ?_
  refine w_invSi [_, _] dX8_giving_7 l8_329 kX8_isUnder rfl rfl (Nat.le_of_ble_eq_true rfl) (Or.inr rfl) h (fun r3 M4 h => ?_)
  refine w_if_eq (tgt := 28) dX8_giving_10 (by decide) rfl (fun q => ?_) (fun q => ?_)
  · have h := h.1 q
    refine w_aload_n dX8_giving_28 rfl ?_
    refine w_gfA (ci := 8) (k := 40) dX8_giving_29 f8_88 ob_1280 rfl ?_
    refine w_iload_n dX8_giving_32 rfl ?_
    obtain ⟨c5, h⟩ := h
    obtain ⟨c6, h⟩ := h
    refine w_iald dX8_giving_33 rfl (a8_40 ob_1280) c5 c6 ?_
    refine w_bipush dX8_giving_34 (by decide) ?_
    refine w_icmp_ne (tgt := 54) dX8_giving_36 (by decide) (zw_zg _ _ _) zq_7 (fun q => ?_) (fun q => ?_)
    · have h := h.2 q
      refine w_aload_n dX8_giving_54 rfl ?_
      refine w_gfA (ci := 8) (k := 40) dX8_giving_55 f8_88 ob_1280 rfl ?_
      refine w_iload_n dX8_giving_58 rfl ?_
      obtain ⟨c7, h⟩ := h
      obtain ⟨c8, h⟩ := h
      refine w_iald dX8_giving_59 rfl (a8_40 ob_1280) c7 c8 ?_
      refine w_bipush dX8_giving_60 (by decide) ?_
      refine w_icmp_ne (tgt := 74) dX8_giving_62 (by decide) (zw_zg _ _ _) zq_6 (fun q => ?_) (fun q => ?_)
      · have h := h.2 q
        refine w_aload_n dX8_giving_74 rfl ?_
        refine w_iload_n dX8_giving_75 rfl ?_
        refine w_iload_n dX8_giving_76 rfl ?_
        refine w_invVi [_, _] dX8_giving_77 l8_326 kX8_plainGives rfl rfl (Nat.le_of_ble_eq_true rfl) (Or.inl rfl) ob_1280 h (fun r9 M10 h => ?_)
        exact w_ri rfl dX8_giving_80 rfl h
      · have h := h.1 q
        refine w_aload_n dX8_giving_65 rfl ?_
        refine w_iload_n dX8_giving_66 rfl ?_
        refine w_iload_n dX8_giving_67 rfl ?_
        refine w_invVi [_, _] dX8_giving_68 l8_332 kX8_toldGives rfl rfl (Nat.le_of_ble_eq_true rfl) (Or.inl rfl) ob_1280 h (fun r11 M12 h => ?_)
        refine w_goto (tgt := 80) dX8_giving_71 (by decide) ?_
        exact w_ri rfl dX8_giving_80 rfl h
    · have h := h.1 q
      refine w_aload_n dX8_giving_39 rfl ?_
      refine w_bipush dX8_giving_40 (by decide) ?_
      refine w_invVv [_] dX8_giving_42 l8_323 kX8_ran rfl rfl (Nat.le_of_ble_eq_true rfl) rfl ob_1280 h (fun r13 M14 h => ?_)
      refine w_aload_n dX8_giving_45 rfl ?_
      refine w_iload_n dX8_giving_46 rfl ?_
      refine w_iload_n dX8_giving_47 rfl ?_
      refine w_invVi [_, _] dX8_giving_48 l8_332 kX8_toldGives rfl rfl (Nat.le_of_ble_eq_true rfl) (Or.inl rfl) ob_1280 h (fun r15 M16 h => ?_)
      refine w_iconst dX8_giving_51 ?_
      refine w_isub dX8_giving_52 ?_
      exact w_ri rfl dX8_giving_53 rfl h
  · have h := h.2 q
    refine w_aload_n dX8_giving_13 rfl ?_
    refine w_bipush dX8_giving_14 (by decide) ?_
    refine w_invVv [_] dX8_giving_16 l8_323 kX8_ran rfl rfl (Nat.le_of_ble_eq_true rfl) rfl ob_1280 h (fun r17 M18 h => ?_)
    refine w_aload_n dX8_giving_19 rfl ?_
    refine w_iload_n dX8_giving_20 rfl ?_
    refine w_iload_n dX8_giving_21 rfl ?_
    refine w_invVi [_, _] dX8_giving_22 l8_326 kX8_plainGives rfl rfl (Nat.le_of_ble_eq_true rfl) (Or.inl rfl) ob_1280 h (fun r19 M20 h => ?_)
    refine w_iconst dX8_giving_25 ?_
    refine w_iadd dX8_giving_26 ?_
    exact w_ri rfl dX8_giving_27 rfl h
theorem e_X8_plainHolds {d : Nat} {Q : Int → zM → Prop} {M : zM} (v1 : Int) (v2 : Int) (h : wp (Ev d) 8 cX8_plainHolds (some .int) Q 0 [some (.ref 1280), some (zI v1), some (zI v2)] [] M) : Ev (d + 1) mX8_plainHolds [.ref 1280, zI v1, zI v2] M Q := ⟨kX8_plainHolds, Nat.le_of_ble_eq_true rfl, h⟩
theorem v_X8_plainHolds_0 {E : zE} {Q : Int → zM → Prop} {M : zM} (v1 : Int) (v2 : Int)  (h : E mX8_ran [.ref 1280, zI 10] M (fun r1 M2 => E mX8_giving [.ref 1280, zI v1, zI v2] M2 (fun r3 M4 => Q (zw (r3 * 2)) M4))) : wp E 8 cX8_plainHolds (some .int) Q 0 [some (.ref 1280), some (zI v1), some (zI v2)] [] M := by
  refine w_aload_n dX8_plainHolds_0 rfl ?_
  refine w_bipush dX8_plainHolds_1 (by decide) ?_
  refine w_invVv [_] dX8_plainHolds_3 l8_323 kX8_ran rfl rfl (Nat.le_of_ble_eq_true rfl) rfl ob_1280 h (fun r1 M2 h => ?_)
  refine w_aload_n dX8_plainHolds_6 rfl ?_
  refine w_iload_n dX8_plainHolds_7 rfl ?_
  refine w_iload_n dX8_plainHolds_8 rfl ?_
  refine w_invVi [_, _] dX8_plainHolds_9 l8_335 kX8_giving rfl rfl (Nat.le_of_ble_eq_true rfl) (Or.inl rfl) ob_1280 h (fun r3 M4 h => ?_)
  refine w_iconst dX8_plainHolds_12 ?_
  refine w_imul dX8_plainHolds_13 ?_
  exact w_ri rfl dX8_plainHolds_14 rfl h
theorem e_X8_soonHolds {d : Nat} {Q : Int → zM → Prop} {M : zM} (v1 : Int) (v2 : Int) (h : wp (Ev d) 8 cX8_soonHolds (some .int) Q 0 [some (.ref 1280), some (zI v1), some (zI v2)] [] M) : Ev (d + 1) mX8_soonHolds [.ref 1280, zI v1, zI v2] M Q := ⟨kX8_soonHolds, Nat.le_of_ble_eq_true rfl, h⟩
theorem v_X8_soonHolds_0 {E : zE} {Q : Int → zM → Prop} {M : zM} (v1 : Int) (v2 : Int)  (h : E mX8_ran [.ref 1280, zI 30] M (fun r1 M2 => E mX8_plainHolds [.ref 1280, zI v1, zI v2] M2 (fun r3 M4 => Q (zw (-r3)) M4))) : wp E 8 cX8_soonHolds (some .int) Q 0 [some (.ref 1280), some (zI v1), some (zI v2)] [] M := by
  refine w_aload_n dX8_soonHolds_0 rfl ?_
  refine w_bipush dX8_soonHolds_1 (by decide) ?_
  refine w_invVv [_] dX8_soonHolds_3 l8_323 kX8_ran rfl rfl (Nat.le_of_ble_eq_true rfl) rfl ob_1280 h (fun r1 M2 h => ?_)
  refine w_aload_n dX8_soonHolds_6 rfl ?_
  refine w_iload_n dX8_soonHolds_7 rfl ?_
  refine w_iload_n dX8_soonHolds_8 rfl ?_
  refine w_invVi [_, _] dX8_soonHolds_9 l8_338 kX8_plainHolds rfl rfl (Nat.le_of_ble_eq_true rfl) (Or.inl rfl) ob_1280 h (fun r3 M4 h => ?_)
  refine w_ineg dX8_soonHolds_12 ?_
  exact w_ri rfl dX8_soonHolds_13 rfl h
theorem e_X8_holding {d : Nat} {Q : Int → zM → Prop} {M : zM} (v1 : Int) (v2 : Int) (h : wp (Ev d) 8 cX8_holding (some .int) Q 0 [some (.ref 1280), some (zI v1), some (zI v2), none] [] M) : Ev (d + 1) mX8_holding [.ref 1280, zI v1, zI v2] M Q := ⟨kX8_holding, Nat.le_of_ble_eq_true rfl, h⟩
theorem v_X8_holding_0 {E : zE} {Q : Int → zM → Prop} {M : zM} (v1 : Int) (v2 : Int)  (h : (0 ≤ zw v1) ∧ ((zw v1 < 50) ∧ (E mX8_isUnder [zI (zg M 1321 (zw v1).toNat), zI 3] M (fun r3 M4 => (zw r3 = 0 → ((0 ≤ zw v1) ∧ ((zw v1 < 50) ∧ ((zg M4 1321 (zw v1).toNat = 7 → (E mX8_ran [.ref 1280, zI 80] M4 (fun r13 M14 => E mX8_plainHolds [.ref 1280, zI v1, zI v2] M14 (fun r15 M16 => E mX8_knowing [.ref 1280, zI v1, zI 2] M16 (fun r17 M18 => Q (zw (r15 + r17)) M18))))) ∧ (¬ zg M4 1321 (zw v1).toNat = 7 → ((0 ≤ zw v1) ∧ ((zw v1 < 50) ∧ ((zg M4 1321 (zw v1).toNat = 2 → (E mX8_soonHolds [.ref 1280, zI v1, zI v2] M4 (fun r11 M12 => Q (zw r11) M12))) ∧ (¬ zg M4 1321 (zw v1).toNat = 2 → (E mX8_plainHolds [.ref 1280, zI v1, zI v2] M4 (fun r9 M10 => Q (zw r9) M10))))))))))) ∧ (¬ zw r3 = 0 → (E mX8_ran [.ref 1280, zI 41] M4 (fun r19 M20 => E mX8_soonHolds [.ref 1280, zI v1, zI (v2 + 1)] M20 (fun r21 M22 => Q (zw r21) M22)))))))) : wp E 8 cX8_holding (some .int) Q 0 [some (.ref 1280), some (zI v1), some (zI v2), none] [] M := by
  refine w_aload_n dX8_holding_0 rfl ?_
  refine w_gfA (ci := 8) (k := 40) dX8_holding_1 f8_88 ob_1280 rfl ?_
  refine w_iload_n dX8_holding_4 rfl ?_
  obtain ⟨c1, h⟩ := h
  obtain ⟨c2, h⟩ := h
  refine w_iald dX8_holding_5 rfl (a8_40 ob_1280) c1 c2 ?_
  refine w_iconst dX8_holding_6 ?_
  refine w_invSi [_, _] dX8_holding_7 l8_329 kX8_isUnder rfl rfl (Nat.le_of_ble_eq_true rfl) (Or.inr rfl) h (fun r3 M4 h => ?_)
  refine w_if_eq (tgt := 28) dX8_holding_10 (by decide) rfl (fun q => ?_) (fun q => ?_)
  · have h := h.1 q
    refine w_aload_n dX8_holding_28 rfl ?_
    refine w_gfA (ci := 8) (k := 40) dX8_holding_29 f8_88 ob_1280 rfl ?_
    refine w_iload_n dX8_holding_32 rfl ?_
    obtain ⟨c5, h⟩ := h
    obtain ⟨c6, h⟩ := h
    refine w_iald dX8_holding_33 rfl (a8_40 ob_1280) c5 c6 ?_
    refine w_bipush dX8_holding_34 (by decide) ?_
    refine w_icmp_ne (tgt := 61) dX8_holding_36 (by decide) (zw_zg _ _ _) zq_7 (fun q => ?_) (fun q => ?_)
    · have h := h.2 q
      refine w_aload_n dX8_holding_61 rfl ?_
      refine w_gfA (ci := 8) (k := 40) dX8_holding_62 f8_88 ob_1280 rfl ?_
      refine w_iload_n dX8_holding_65 rfl ?_
      obtain ⟨c7, h⟩ := h
      obtain ⟨c8, h⟩ := h
      refine w_iald dX8_holding_66 rfl (a8_40 ob_1280) c7 c8 ?_
      refine w_iconst dX8_holding_67 ?_
      refine w_icmp_ne (tgt := 80) dX8_holding_68 (by decide) (zw_zg _ _ _) zq_2 (fun q => ?_) (fun q => ?_)
      · have h := h.2 q
        refine w_aload_n dX8_holding_80 rfl ?_
        refine w_iload_n dX8_holding_81 rfl ?_
        refine w_iload_n dX8_holding_82 rfl ?_
        refine w_invVi [_, _] dX8_holding_83 l8_338 kX8_plainHolds rfl rfl (Nat.le_of_ble_eq_true rfl) (Or.inl rfl) ob_1280 h (fun r9 M10 h => ?_)
        exact w_ri rfl dX8_holding_86 rfl h
      · have h := h.1 q
        refine w_aload_n dX8_holding_71 rfl ?_
        refine w_iload_n dX8_holding_72 rfl ?_
        refine w_iload_n dX8_holding_73 rfl ?_
        refine w_invVi [_, _] dX8_holding_74 l8_341 kX8_soonHolds rfl rfl (Nat.le_of_ble_eq_true rfl) (Or.inl rfl) ob_1280 h (fun r11 M12 h => ?_)
        refine w_goto (tgt := 86) dX8_holding_77 (by decide) ?_
        exact w_ri rfl dX8_holding_86 rfl h
    · have h := h.1 q
      refine w_aload_n dX8_holding_39 rfl ?_
      refine w_bipush dX8_holding_40 (by decide) ?_
      refine w_invVv [_] dX8_holding_42 l8_323 kX8_ran rfl rfl (Nat.le_of_ble_eq_true rfl) rfl ob_1280 h (fun r13 M14 h => ?_)
      refine w_aload_n dX8_holding_45 rfl ?_
      refine w_iload_n dX8_holding_46 rfl ?_
      refine w_iload_n dX8_holding_47 rfl ?_
      refine w_invVi [_, _] dX8_holding_48 l8_338 kX8_plainHolds rfl rfl (Nat.le_of_ble_eq_true rfl) (Or.inl rfl) ob_1280 h (fun r15 M16 h => ?_)
      refine w_istore_n dX8_holding_51 (Nat.le_of_ble_eq_true rfl) rfl ?_
      refine w_iload_n dX8_holding_52 rfl ?_
      refine w_aload_n dX8_holding_53 rfl ?_
      refine w_iload_n dX8_holding_54 rfl ?_
      refine w_iconst dX8_holding_55 ?_
      refine w_invVi [_, _] dX8_holding_56 l8_344 kX8_knowing rfl rfl (Nat.le_of_ble_eq_true rfl) (Or.inl rfl) ob_1280 h (fun r17 M18 h => ?_)
      refine w_iadd dX8_holding_59 ?_
      exact w_ri rfl dX8_holding_60 rfl h
  · have h := h.2 q
    refine w_aload_n dX8_holding_13 rfl ?_
    refine w_bipush dX8_holding_14 (by decide) ?_
    refine w_invVv [_] dX8_holding_16 l8_323 kX8_ran rfl rfl (Nat.le_of_ble_eq_true rfl) rfl ob_1280 h (fun r19 M20 h => ?_)
    refine w_aload_n dX8_holding_19 rfl ?_
    refine w_iload_n dX8_holding_20 rfl ?_
    refine w_iload_n dX8_holding_21 rfl ?_
    refine w_iconst dX8_holding_22 ?_
    refine w_iadd dX8_holding_23 ?_
    refine w_invVi [_, _] dX8_holding_24 l8_341 kX8_soonHolds rfl rfl (Nat.le_of_ble_eq_true rfl) (Or.inl rfl) ob_1280 h (fun r21 M22 h => ?_)
    exact w_ri rfl dX8_holding_27 rfl h
theorem e_X8_plainKnows {d : Nat} {Q : Int → zM → Prop} {M : zM} (v1 : Int) (v2 : Int) (h : wp (Ev d) 8 cX8_plainKnows (some .int) Q 0 [some (.ref 1280), some (zI v1), some (zI v2)] [] M) : Ev (d + 1) mX8_plainKnows [.ref 1280, zI v1, zI v2] M Q := ⟨kX8_plainKnows, Nat.le_of_ble_eq_true rfl, h⟩
theorem v_X8_plainKnows_0 {E : zE} {Q : Int → zM → Prop} {M : zM} (v1 : Int) (v2 : Int)  (h : E mX8_ran [.ref 1280, zI 11] M (fun r1 M2 => Q (z_xor v2 v1) M2)) : wp E 8 cX8_plainKnows (some .int) Q 0 [some (.ref 1280), some (zI v1), some (zI v2)] [] M := by
  refine w_aload_n dX8_plainKnows_0 rfl ?_
  refine w_bipush dX8_plainKnows_1 (by decide) ?_
  refine w_invVv [_] dX8_plainKnows_3 l8_323 kX8_ran rfl rfl (Nat.le_of_ble_eq_true rfl) rfl ob_1280 h (fun r1 M2 h => ?_)
  refine w_iload_n dX8_plainKnows_6 rfl ?_
  refine w_iload_n dX8_plainKnows_7 rfl ?_
  refine w_ixor dX8_plainKnows_8 ?_
  exact w_ri rfl dX8_plainKnows_9 (zx_xor _ _) h
theorem e_X8_wishKnows {d : Nat} {Q : Int → zM → Prop} {M : zM} (v1 : Int) (v2 : Int) (h : wp (Ev d) 8 cX8_wishKnows (some .int) Q 0 [some (.ref 1280), some (zI v1), some (zI v2)] [] M) : Ev (d + 1) mX8_wishKnows [.ref 1280, zI v1, zI v2] M Q := ⟨kX8_wishKnows, Nat.le_of_ble_eq_true rfl, h⟩
theorem v_X8_wishKnows_0 {E : zE} {Q : Int → zM → Prop} {M : zM} (v1 : Int) (v2 : Int)  (h : E mX8_ran [.ref 1280, zI 40] M (fun r1 M2 => E mX8_plainKnows [.ref 1280, zI v1, zI v2] M2 (fun r3 M4 => Q (zw (r3 * 3)) M4))) : wp E 8 cX8_wishKnows (some .int) Q 0 [some (.ref 1280), some (zI v1), some (zI v2)] [] M := by
  refine w_aload_n dX8_wishKnows_0 rfl ?_
  refine w_bipush dX8_wishKnows_1 (by decide) ?_
  refine w_invVv [_] dX8_wishKnows_3 l8_323 kX8_ran rfl rfl (Nat.le_of_ble_eq_true rfl) rfl ob_1280 h (fun r1 M2 h => ?_)
  refine w_aload_n dX8_wishKnows_6 rfl ?_
  refine w_iload_n dX8_wishKnows_7 rfl ?_
  refine w_iload_n dX8_wishKnows_8 rfl ?_
  refine w_invVi [_, _] dX8_wishKnows_9 l8_347 kX8_plainKnows rfl rfl (Nat.le_of_ble_eq_true rfl) (Or.inl rfl) ob_1280 h (fun r3 M4 h => ?_)
  refine w_iconst dX8_wishKnows_12 ?_
  refine w_imul dX8_wishKnows_13 ?_
  exact w_ri rfl dX8_wishKnows_14 rfl h
theorem e_X8_knowing {d : Nat} {Q : Int → zM → Prop} {M : zM} (v1 : Int) (v2 : Int) (h : wp (Ev d) 8 cX8_knowing (some .int) Q 0 [some (.ref 1280), some (zI v1), some (zI v2), none] [] M) : Ev (d + 1) mX8_knowing [.ref 1280, zI v1, zI v2] M Q := ⟨kX8_knowing, Nat.le_of_ble_eq_true rfl, h⟩
theorem v_X8_knowing_0 {E : zE} {Q : Int → zM → Prop} {M : zM} (v1 : Int) (v2 : Int)  (h : (0 ≤ zw v1) ∧ ((zw v1 < 50) ∧ ((zg M 1321 (zw v1).toNat = 5 → (E mX8_ran [.ref 1280, zI 60] M (fun r9 M10 => E mX8_wishKnows [.ref 1280, zI v1, zI v2] M10 (fun r11 M12 => E mX8_giving [.ref 1280, zI v1, zI 2] M12 (fun r13 M14 => Q (zw (r11 - r13)) M14))))) ∧ (¬ zg M 1321 (zw v1).toNat = 5 → ((0 ≤ zw v1) ∧ ((zw v1 < 50) ∧ ((zg M 1321 (zw v1).toNat = 3 → (E mX8_wishKnows [.ref 1280, zI v1, zI v2] M (fun r7 M8 => Q (zw r7) M8))) ∧ (¬ zg M 1321 (zw v1).toNat = 3 → (E mX8_plainKnows [.ref 1280, zI v1, zI v2] M (fun r5 M6 => Q (zw r5) M6)))))))))) : wp E 8 cX8_knowing (some .int) Q 0 [some (.ref 1280), some (zI v1), some (zI v2), none] [] M := by
  refine w_aload_n dX8_knowing_0 rfl ?_
  refine w_gfA (ci := 8) (k := 40) dX8_knowing_1 f8_88 ob_1280 rfl ?_
  refine w_iload_n dX8_knowing_4 rfl ?_
  obtain ⟨c1, h⟩ := h
  obtain ⟨c2, h⟩ := h
  refine w_iald dX8_knowing_5 rfl (a8_40 ob_1280) c1 c2 ?_
  refine w_iconst dX8_knowing_6 ?_
  refine w_icmp_ne (tgt := 32) dX8_knowing_7 (by decide) (zw_zg _ _ _) zq_5 (fun q => ?_) (fun q => ?_)
  · have h := h.2 q
    refine w_aload_n dX8_knowing_32 rfl ?_
    refine w_gfA (ci := 8) (k := 40) dX8_knowing_33 f8_88 ob_1280 rfl ?_
    refine w_iload_n dX8_knowing_36 rfl ?_
    obtain ⟨c3, h⟩ := h
    obtain ⟨c4, h⟩ := h
    refine w_iald dX8_knowing_37 rfl (a8_40 ob_1280) c3 c4 ?_
    refine w_iconst dX8_knowing_38 ?_
    refine w_icmp_ne (tgt := 51) dX8_knowing_39 (by decide) (zw_zg _ _ _) zq_3 (fun q => ?_) (fun q => ?_)
    · have h := h.2 q
      refine w_aload_n dX8_knowing_51 rfl ?_
      refine w_iload_n dX8_knowing_52 rfl ?_
      refine w_iload_n dX8_knowing_53 rfl ?_
      refine w_invVi [_, _] dX8_knowing_54 l8_347 kX8_plainKnows rfl rfl (Nat.le_of_ble_eq_true rfl) (Or.inl rfl) ob_1280 h (fun r5 M6 h => ?_)
      exact w_ri rfl dX8_knowing_57 rfl h
    · have h := h.1 q
      refine w_aload_n dX8_knowing_42 rfl ?_
      refine w_iload_n dX8_knowing_43 rfl ?_
      refine w_iload_n dX8_knowing_44 rfl ?_
      refine w_invVi [_, _] dX8_knowing_45 l8_350 kX8_wishKnows rfl rfl (Nat.le_of_ble_eq_true rfl) (Or.inl rfl) ob_1280 h (fun r7 M8 h => ?_)
      refine w_goto (tgt := 57) dX8_knowing_48 (by decide) ?_
      exact w_ri rfl dX8_knowing_57 rfl h
  · have h := h.1 q
    refine w_aload_n dX8_knowing_10 rfl ?_
    refine w_bipush dX8_knowing_11 (by decide) ?_
    refine w_invVv [_] dX8_knowing_13 l8_323 kX8_ran rfl rfl (Nat.le_of_ble_eq_true rfl) rfl ob_1280 h (fun r9 M10 h => ?_)
    refine w_aload_n dX8_knowing_16 rfl ?_
    refine w_iload_n dX8_knowing_17 rfl ?_
    refine w_iload_n dX8_knowing_18 rfl ?_
    refine w_invVi [_, _] dX8_knowing_19 l8_350 kX8_wishKnows rfl rfl (Nat.le_of_ble_eq_true rfl) (Or.inl rfl) ob_1280 h (fun r11 M12 h => ?_)
    refine w_istore_n dX8_knowing_22 (Nat.le_of_ble_eq_true rfl) rfl ?_
    refine w_iload_n dX8_knowing_23 rfl ?_
    refine w_aload_n dX8_knowing_24 rfl ?_
    refine w_iload_n dX8_knowing_25 rfl ?_
    refine w_iconst dX8_knowing_26 ?_
    refine w_invVi [_, _] dX8_knowing_27 l8_335 kX8_giving rfl rfl (Nat.le_of_ble_eq_true rfl) (Or.inl rfl) ob_1280 h (fun r13 M14 h => ?_)
    refine w_isub dX8_knowing_30 ?_
    exact w_ri rfl dX8_knowing_31 rfl h
theorem e_X8_plainTells {d : Nat} {Q : Int → zM → Prop} {M : zM} (v1 : Int) (v2 : Int) (h : wp (Ev d) 8 cX8_plainTells (some .int) Q 0 [some (.ref 1280), some (zI v1), some (zI v2), none] [] M) : Ev (d + 1) mX8_plainTells [.ref 1280, zI v1, zI v2] M Q := ⟨kX8_plainTells, Nat.le_of_ble_eq_true rfl, h⟩
theorem v_X8_plainTells_0 {E : zE} {Q : Int → zM → Prop} {M : zM} (v1 : Int) (v2 : Int)  (h : E mX8_ran [.ref 1280, zI 2] M (fun r1 M2 => E mX8_holding [.ref 1280, zI v1, zI v2] M2 (fun r3 M4 => E mX8_knowing [.ref 1280, zI v1, zI 1] M4 (fun r5 M6 => Q (zw (r3 - r5)) M6)))) : wp E 8 cX8_plainTells (some .int) Q 0 [some (.ref 1280), some (zI v1), some (zI v2), none] [] M := by
  refine w_aload_n dX8_plainTells_0 rfl ?_
  refine w_iconst dX8_plainTells_1 ?_
  refine w_invVv [_] dX8_plainTells_2 l8_323 kX8_ran rfl rfl (Nat.le_of_ble_eq_true rfl) rfl ob_1280 h (fun r1 M2 h => ?_)
  refine w_aload_n dX8_plainTells_5 rfl ?_
  refine w_iload_n dX8_plainTells_6 rfl ?_
  refine w_iload_n dX8_plainTells_7 rfl ?_
  refine w_invVi [_, _] dX8_plainTells_8 l8_353 kX8_holding rfl rfl (Nat.le_of_ble_eq_true rfl) (Or.inl rfl) ob_1280 h (fun r3 M4 h => ?_)
  refine w_istore_n dX8_plainTells_11 (Nat.le_of_ble_eq_true rfl) rfl ?_
  refine w_iload_n dX8_plainTells_12 rfl ?_
  refine w_aload_n dX8_plainTells_13 rfl ?_
  refine w_iload_n dX8_plainTells_14 rfl ?_
  refine w_iconst dX8_plainTells_15 ?_
  refine w_invVi [_, _] dX8_plainTells_16 l8_344 kX8_knowing rfl rfl (Nat.le_of_ble_eq_true rfl) (Or.inl rfl) ob_1280 h (fun r5 M6 h => ?_)
  refine w_isub dX8_plainTells_19 ?_
  exact w_ri rfl dX8_plainTells_20 rfl h
theorem e_X8_telling {d : Nat} {Q : Int → zM → Prop} {M : zM} (v1 : Int) (v2 : Int) (h : wp (Ev d) 8 cX8_telling (some .int) Q 0 [some (.ref 1280), some (zI v1), some (zI v2)] [] M) : Ev (d + 1) mX8_telling [.ref 1280, zI v1, zI v2] M Q := ⟨kX8_telling, Nat.le_of_ble_eq_true rfl, h⟩
theorem v_X8_telling_0 {E : zE} {Q : Int → zM → Prop} {M : zM} (v1 : Int) (v2 : Int)  (h : (0 ≤ zw v1) ∧ ((zw v1 < 50) ∧ ((zg M 1321 (zw v1).toNat = 4 → (E mX8_ran [.ref 1280, zI 50] M (fun r11 M12 => E mX8_plainTells [.ref 1280, zI v1, zI v2] M12 (fun r13 M14 => Q (z_xor r13 5) M14)))) ∧ (¬ zg M 1321 (zw v1).toNat = 4 → ((0 ≤ zw v1) ∧ ((zw v1 < 50) ∧ ((zg M 1321 (zw v1).toNat = 5 → (E mX8_ran [.ref 1280, zI 61] M (fun r7 M8 => E mX8_plainTells [.ref 1280, zI v1, zI v2] M8 (fun r9 M10 => Q (zw (r9 + 1)) M10)))) ∧ (¬ zg M 1321 (zw v1).toNat = 5 → (E mX8_plainTells [.ref 1280, zI v1, zI v2] M (fun r5 M6 => Q (zw r5) M6)))))))))) : wp E 8 cX8_telling (some .int) Q 0 [some (.ref 1280), some (zI v1), some (zI v2)] [] M := by
  refine w_aload_n dX8_telling_0 rfl ?_
  refine w_gfA (ci := 8) (k := 40) dX8_telling_1 f8_88 ob_1280 rfl ?_
  refine w_iload_n dX8_telling_4 rfl ?_
  obtain ⟨c1, h⟩ := h
  obtain ⟨c2, h⟩ := h
  refine w_iald dX8_telling_5 rfl (a8_40 ob_1280) c1 c2 ?_
  refine w_iconst dX8_telling_6 ?_
  refine w_icmp_ne (tgt := 25) dX8_telling_7 (by decide) (zw_zg _ _ _) zq_4 (fun q => ?_) (fun q => ?_)
  · have h := h.2 q
    refine w_aload_n dX8_telling_25 rfl ?_
    refine w_gfA (ci := 8) (k := 40) dX8_telling_26 f8_88 ob_1280 rfl ?_
    refine w_iload_n dX8_telling_29 rfl ?_
    obtain ⟨c3, h⟩ := h
    obtain ⟨c4, h⟩ := h
    refine w_iald dX8_telling_30 rfl (a8_40 ob_1280) c3 c4 ?_
    refine w_iconst dX8_telling_31 ?_
    refine w_icmp_ne (tgt := 50) dX8_telling_32 (by decide) (zw_zg _ _ _) zq_5 (fun q => ?_) (fun q => ?_)
    · have h := h.2 q
      refine w_aload_n dX8_telling_50 rfl ?_
      refine w_iload_n dX8_telling_51 rfl ?_
      refine w_iload_n dX8_telling_52 rfl ?_
      refine w_invVi [_, _] dX8_telling_53 l8_356 kX8_plainTells rfl rfl (Nat.le_of_ble_eq_true rfl) (Or.inl rfl) ob_1280 h (fun r5 M6 h => ?_)
      exact w_ri rfl dX8_telling_56 rfl h
    · have h := h.1 q
      refine w_aload_n dX8_telling_35 rfl ?_
      refine w_bipush dX8_telling_36 (by decide) ?_
      refine w_invVv [_] dX8_telling_38 l8_323 kX8_ran rfl rfl (Nat.le_of_ble_eq_true rfl) rfl ob_1280 h (fun r7 M8 h => ?_)
      refine w_aload_n dX8_telling_41 rfl ?_
      refine w_iload_n dX8_telling_42 rfl ?_
      refine w_iload_n dX8_telling_43 rfl ?_
      refine w_invVi [_, _] dX8_telling_44 l8_356 kX8_plainTells rfl rfl (Nat.le_of_ble_eq_true rfl) (Or.inl rfl) ob_1280 h (fun r9 M10 h => ?_)
      refine w_iconst dX8_telling_47 ?_
      refine w_iadd dX8_telling_48 ?_
      exact w_ri rfl dX8_telling_49 rfl h
  · have h := h.1 q
    refine w_aload_n dX8_telling_10 rfl ?_
    refine w_bipush dX8_telling_11 (by decide) ?_
    refine w_invVv [_] dX8_telling_13 l8_323 kX8_ran rfl rfl (Nat.le_of_ble_eq_true rfl) rfl ob_1280 h (fun r11 M12 h => ?_)
    refine w_aload_n dX8_telling_16 rfl ?_
    refine w_iload_n dX8_telling_17 rfl ?_
    refine w_iload_n dX8_telling_18 rfl ?_
    refine w_invVi [_, _] dX8_telling_19 l8_356 kX8_plainTells rfl rfl (Nat.le_of_ble_eq_true rfl) (Or.inl rfl) ob_1280 h (fun r13 M14 h => ?_)
    refine w_iconst dX8_telling_22 ?_
    refine w_ixor dX8_telling_23 ?_
    exact w_ri rfl dX8_telling_24 (zx_xor _ _) h
theorem e_X8_act {d : Nat} {Q : Int → zM → Prop} {M : zM} (v1 : Int) (v2 : Int) (v3 : Int) (h : wp (Ev d) 8 cX8_act (some .int) Q 0 [some (.ref 1280), some (zI v1), some (zI v2), some (zI v3)] [] M) : Ev (d + 1) mX8_act [.ref 1280, zI v1, zI v2, zI v3] M Q := ⟨kX8_act, Nat.le_of_ble_eq_true rfl, h⟩
theorem v_X8_act_0 {E : zE} {Q : Int → zM → Prop} {M : zM} (v1 : Int) (v2 : Int) (v3 : Int)  (h : ∀ M1 : zM, M1 = zs M 1280 41 0 → (E mX8_isBody [.ref 1280, zI v1] M1 (fun r2 M3 => (zw r2 = 0 → (Q 0 M3)) ∧ (¬ zw r2 = 0 → (E mX8_in [zI v2, zI 0, zI 3] M3 (fun r4 M5 => (zw r4 = 0 → (Q 0 M5)) ∧ (¬ zw r4 = 0 → ((zw v2 = 0 → (E mX8_giving [.ref 1280, zI v1, zI v3] M5 (fun r12 M13 => Q (zw r12) M13))) ∧ (¬ zw v2 = 0 → ((zw v2 = 1 → (E mX8_holding [.ref 1280, zI v1, zI v3] M5 (fun r10 M11 => Q (zw r10) M11))) ∧ (¬ zw v2 = 1 → ((zw v2 = 2 → (E mX8_knowing [.ref 1280, zI v1, zI v3] M5 (fun r8 M9 => Q (zw r8) M9))) ∧ (¬ zw v2 = 2 → (E mX8_telling [.ref 1280, zI v1, zI v3] M5 (fun r6 M7 => Q (zw r6) M7))))))))))))))) : wp E 8 cX8_act (some .int) Q 0 [some (.ref 1280), some (zI v1), some (zI v2), some (zI v3)] [] M := by
  refine w_aload_n dX8_act_0 rfl ?_
  refine w_iconst dX8_act_1 ?_
  have h := h _ rfl
  refine w_pfI (ci := 8) (k := 41) dX8_act_2 f8_320 ob_1280 rfl rfl rfl ?_
  refine w_aload_n dX8_act_5 rfl ?_
  refine w_iload_n dX8_act_6 rfl ?_
  refine w_invVi [_] dX8_act_7 l8_359 kX8_isBody rfl rfl (Nat.le_of_ble_eq_true rfl) (Or.inr rfl) ob_1280 h (fun r2 M3 h => ?_)
  refine w_if_eq (tgt := 22) dX8_act_10 (by decide) rfl (fun q => ?_) (fun q => ?_)
  · have h := h.1 q
    refine w_iconst dX8_act_22 ?_
    exact w_ri rfl dX8_act_23 zq_0 h
  · have h := h.2 q
    refine w_iload_n dX8_act_13 rfl ?_
    refine w_iconst dX8_act_14 ?_
    refine w_iconst dX8_act_15 ?_
    refine w_invSi [_, _, _] dX8_act_16 l8_114 kX8_in rfl rfl (Nat.le_of_ble_eq_true rfl) (Or.inr rfl) h (fun r4 M5 h => ?_)
    refine w_if_ne (tgt := 24) dX8_act_19 (by decide) rfl (fun q => ?_) (fun q => ?_)
    · have h := h.2 q
      refine w_iload_n dX8_act_24 rfl ?_
      refine w_if_ne (tgt := 37) dX8_act_25 (by decide) rfl (fun q => ?_) (fun q => ?_)
      · have h := h.2 q
        refine w_iload_n dX8_act_37 rfl ?_
        refine w_iconst dX8_act_38 ?_
        refine w_icmp_ne (tgt := 51) dX8_act_39 (by decide) rfl zq_1 (fun q => ?_) (fun q => ?_)
        · have h := h.2 q
          refine w_iload_n dX8_act_51 rfl ?_
          refine w_iconst dX8_act_52 ?_
          refine w_icmp_ne (tgt := 65) dX8_act_53 (by decide) rfl zq_2 (fun q => ?_) (fun q => ?_)
          · have h := h.2 q
            refine w_aload_n dX8_act_65 rfl ?_
            refine w_iload_n dX8_act_66 rfl ?_
            refine w_iload_n dX8_act_67 rfl ?_
            refine w_invVi [_, _] dX8_act_68 l8_362 kX8_telling rfl rfl (Nat.le_of_ble_eq_true rfl) (Or.inl rfl) ob_1280 h (fun r6 M7 h => ?_)
            exact w_ri rfl dX8_act_71 rfl h
          · have h := h.1 q
            refine w_aload_n dX8_act_56 rfl ?_
            refine w_iload_n dX8_act_57 rfl ?_
            refine w_iload_n dX8_act_58 rfl ?_
            refine w_invVi [_, _] dX8_act_59 l8_344 kX8_knowing rfl rfl (Nat.le_of_ble_eq_true rfl) (Or.inl rfl) ob_1280 h (fun r8 M9 h => ?_)
            refine w_goto (tgt := 71) dX8_act_62 (by decide) ?_
            exact w_ri rfl dX8_act_71 rfl h
        · have h := h.1 q
          refine w_aload_n dX8_act_42 rfl ?_
          refine w_iload_n dX8_act_43 rfl ?_
          refine w_iload_n dX8_act_44 rfl ?_
          refine w_invVi [_, _] dX8_act_45 l8_353 kX8_holding rfl rfl (Nat.le_of_ble_eq_true rfl) (Or.inl rfl) ob_1280 h (fun r10 M11 h => ?_)
          refine w_goto (tgt := 71) dX8_act_48 (by decide) ?_
          exact w_ri rfl dX8_act_71 rfl h
      · have h := h.1 q
        refine w_aload_n dX8_act_28 rfl ?_
        refine w_iload_n dX8_act_29 rfl ?_
        refine w_iload_n dX8_act_30 rfl ?_
        refine w_invVi [_, _] dX8_act_31 l8_335 kX8_giving rfl rfl (Nat.le_of_ble_eq_true rfl) (Or.inl rfl) ob_1280 h (fun r12 M13 h => ?_)
        refine w_goto (tgt := 71) dX8_act_34 (by decide) ?_
        exact w_ri rfl dX8_act_71 rfl h
    · have h := h.1 q
      refine w_iconst dX8_act_22 ?_
      exact w_ri rfl dX8_act_23 zq_0 h
theorem e_X8_namedMany {d : Nat} {Q : Int → zM → Prop} {M : zM}  (h : wp (Ev d) 8 cX8_namedMany (some .int) Q 0 [some (.ref 1280), none, none] [] M) : Ev (d + 1) mX8_namedMany [.ref 1280] M Q := ⟨kX8_namedMany, Nat.le_of_ble_eq_true rfl, h⟩
theorem v_X8_namedMany_0 {E : zE} {Q : Int → zM → Prop} {M : zM}   (h : wp E 8 cX8_namedMany (some .int) Q 4 [some (.ref 1280), some (zI 0), some (zI 0)] [] M) : wp E 8 cX8_namedMany (some .int) Q 0 [some (.ref 1280), none, none] [] M := by
  refine w_iconst dX8_namedMany_0 ?_
  refine w_istore_n dX8_namedMany_1 (Nat.le_of_ble_eq_true rfl) rfl ?_
  refine w_iconst dX8_namedMany_2 ?_
  refine w_istore_n dX8_namedMany_3 (Nat.le_of_ble_eq_true rfl) rfl ?_
  exact w_fgt (fgk (fgk (fgk (fgn)))) h
theorem v_X8_namedMany_4 {E : zE} {Q : Int → zM → Prop} {M : zM} (v1 : Int) (v2 : Int)  (h : (zw v2 < zg M 1280 1 → ((0 ≤ zw v2) ∧ ((zw v2 < 12) ∧ ((zg M 1285 (zw v2).toNat < 0 → (wp E 8 cX8_namedMany (some .int) Q 4 [some (.ref 1280), some (zI v1), some (zI (v2 + 1))] [] M)) ∧ (¬ zg M 1285 (zw v2).toNat < 0 → (wp E 8 cX8_namedMany (some .int) Q 4 [some (.ref 1280), some (zI (v1 + 1)), some (zI (v2 + 1))] [] M)))))) ∧ (¬ zw v2 < zg M 1280 1 → (Q (zw v1) M))) : wp E 8 cX8_namedMany (some .int) Q 4 [some (.ref 1280), some (zI v1), some (zI v2)] [] M := by
  refine w_iload_n dX8_namedMany_4 rfl ?_
  refine w_aload_n dX8_namedMany_5 rfl ?_
  refine w_gfI (ci := 8) (k := 1) dX8_namedMany_6 f8_111 ob_1280 rfl ?_
  refine w_icmp_ge (tgt := 30) dX8_namedMany_9 (by decide) rfl (zw_zg _ _ _) (fun q => ?_) (fun q => ?_)
  · have h := h.2 q
    refine w_iload_n dX8_namedMany_30 rfl ?_
    exact w_ri rfl dX8_namedMany_31 rfl h
  · have h := h.1 q
    refine w_aload_n dX8_namedMany_12 rfl ?_
    refine w_gfA (ci := 8) (k := 4) dX8_namedMany_13 f8_16 ob_1280 rfl ?_
    refine w_iload_n dX8_namedMany_16 rfl ?_
    obtain ⟨c1, h⟩ := h
    obtain ⟨c2, h⟩ := h
    refine w_iald dX8_namedMany_17 rfl (a8_4 ob_1280) c1 c2 ?_
    refine w_if_lt (tgt := 24) dX8_namedMany_18 (by decide) (zw_zg _ _ _) (fun q => ?_) (fun q => ?_)
    · have h := h.1 q
      refine w_iinc dX8_namedMany_24 rfl rfl ?_
      refine w_goto (tgt := 4) dX8_namedMany_27 (by decide) ?_
      exact w_fgt (fgk (fgk (fgk (fgn)))) h
    · have h := h.2 q
      refine w_iinc dX8_namedMany_21 rfl rfl ?_
      refine w_iinc dX8_namedMany_24 rfl rfl ?_
      refine w_goto (tgt := 4) dX8_namedMany_27 (by decide) ?_
      exact w_fgt (fgk (fgk (fgk (fgn)))) h
theorem e_X8_count {d : Nat} {Q : Int → zM → Prop} {M : zM} (v1 : Int) (h : wp (Ev d) 8 cX8_count (some .int) Q 0 [some (.ref 1280), some (zI v1)] [] M) : Ev (d + 1) mX8_count [.ref 1280, zI v1] M Q := ⟨kX8_count, Nat.le_of_ble_eq_true rfl, h⟩
theorem v_X8_count_0 {E : zE} {Q : Int → zM → Prop} {M : zM} (v1 : Int)  (h : (zw v1 = 0 → (Q (zg M 1280 1) M)) ∧ (zw v1 = 1 → (Q (zg M 1280 5) M)) ∧ (zw v1 = 2 → (E mX8_namedMany [.ref 1280] M (fun r1 M2 => Q (zw r1) M2))) ∧ (zw v1 = 3 → (Q (zg M 1280 19) M)) ∧ (zw v1 = 4 → (Q (zg M 1280 12) M)) ∧ (zw v1 = 5 → (Q (zg M 1280 39) M)) ∧ (zw v1 = 6 → (Q (zg M 1280 41) M)) ∧ (¬ zw v1 = 0 → ¬ zw v1 = 1 → ¬ zw v1 = 2 → ¬ zw v1 = 3 → ¬ zw v1 = 4 → ¬ zw v1 = 5 → ¬ zw v1 = 6 → (Q (-1) M))) : wp E 8 cX8_count (some .int) Q 0 [some (.ref 1280), some (zI v1)] [] M := by
  refine w_iload_n dX8_count_0 rfl ?_
  by_cases q0 : zw v1 = 0
  · refine w_tsw (tgt := 44) dX8_count_1 (by rw [q0]; decide) (by rw [q0]; decide) ?_
    have h := h.1 q0
    refine w_aload_n dX8_count_44 rfl ?_
    refine w_gfI (ci := 8) (k := 1) dX8_count_45 f8_111 ob_1280 rfl ?_
    exact w_ri rfl dX8_count_48 (zw_zg _ _ _) h
  · skip
    by_cases q1 : zw v1 = 1
    · refine w_tsw (tgt := 49) dX8_count_1 (by rw [q1]; decide) (by rw [q1]; decide) ?_
      have h := h.2.1 q1
      refine w_aload_n dX8_count_49 rfl ?_
      refine w_gfI (ci := 8) (k := 5) dX8_count_50 f8_141 ob_1280 rfl ?_
      exact w_ri rfl dX8_count_53 (zw_zg _ _ _) h
    · skip
      by_cases q2 : zw v1 = 2
      · refine w_tsw (tgt := 54) dX8_count_1 (by rw [q2]; decide) (by rw [q2]; decide) ?_
        have h := h.2.2.1 q2
        refine w_aload_n dX8_count_54 rfl ?_
        refine w_invVi [] dX8_count_55 l8_365 kX8_namedMany rfl rfl (Nat.le_of_ble_eq_true rfl) (Or.inl rfl) ob_1280 h (fun r1 M2 h => ?_)
        exact w_ri rfl dX8_count_58 rfl h
      · skip
        by_cases q3 : zw v1 = 3
        · refine w_tsw (tgt := 59) dX8_count_1 (by rw [q3]; decide) (by rw [q3]; decide) ?_
          have h := h.2.2.2.1 q3
          refine w_aload_n dX8_count_59 rfl ?_
          refine w_gfI (ci := 8) (k := 19) dX8_count_60 f8_181 ob_1280 rfl ?_
          exact w_ri rfl dX8_count_63 (zw_zg _ _ _) h
        · skip
          by_cases q4 : zw v1 = 4
          · refine w_tsw (tgt := 64) dX8_count_1 (by rw [q4]; decide) (by rw [q4]; decide) ?_
            have h := h.2.2.2.2.1 q4
            refine w_aload_n dX8_count_64 rfl ?_
            refine w_gfI (ci := 8) (k := 12) dX8_count_65 f8_158 ob_1280 rfl ?_
            exact w_ri rfl dX8_count_68 (zw_zg _ _ _) h
          · skip
            by_cases q5 : zw v1 = 5
            · refine w_tsw (tgt := 69) dX8_count_1 (by rw [q5]; decide) (by rw [q5]; decide) ?_
              have h := h.2.2.2.2.2.1 q5
              refine w_aload_n dX8_count_69 rfl ?_
              refine w_gfI (ci := 8) (k := 39) dX8_count_70 f8_317 ob_1280 rfl ?_
              exact w_ri rfl dX8_count_73 (zw_zg _ _ _) h
            · skip
              by_cases q6 : zw v1 = 6
              · refine w_tsw (tgt := 74) dX8_count_1 (by rw [q6]; decide) (by rw [q6]; decide) ?_
                have h := h.2.2.2.2.2.2.1 q6
                refine w_aload_n dX8_count_74 rfl ?_
                refine w_gfI (ci := 8) (k := 41) dX8_count_75 f8_320 ob_1280 rfl ?_
                exact w_ri rfl dX8_count_78 (zw_zg _ _ _) h
              · skip
                have hz : (1 : Int) + zts (78) 0 6 #[43, 48, 53, 58, 63, 68, 73] (zw v1) = (79 : Nat) := by
                  rcases (show zw v1 < 0 ∨ 6 < zw v1 by omega) with z | z <;> first | (rw [zts, if_pos (Or.inl z)]; rfl) | (rw [zts, if_pos (Or.inr z)]; rfl) | (rw [z]; decide)
                have hn : ¬ (zw v1 < 0 ∨ 6 < zw v1) → ((zw v1 - 0).toNat) < (#[43, 48, 53, 58, 63, 68, 73] : Array Int).size := by
                  intro z
                  show _ < 7
                  omega
                refine w_tsw (tgt := 79) dX8_count_1 hz hn ?_
                have h := h.2.2.2.2.2.2.2 q0 q1 q2 q3 q4 q5 q6
                refine w_iconst dX8_count_79 ?_
                exact w_ri rfl dX8_count_80 zq_m1 h
theorem e_X8_isShelf {d : Nat} {Q : Int → zM → Prop} {M : zM} (v0 : Int) (h : wp (Ev d) 8 cX8_isShelf (some .boolean) Q 0 [some (zI v0)] [] M) : Ev (d + 1) mX8_isShelf [zI v0] M Q := ⟨kX8_isShelf, Nat.le_of_ble_eq_true rfl, h⟩
theorem v_X8_isShelf_0 {E : zE} {Q : Int → zM → Prop} {M : zM} (v0 : Int)  (h : E mX8_in [zI v0, zI 0, zI 5] M (fun r1 M2 => (zw r1 = 0 ∨ zw r1 = 1) ∧ (Q (zw r1) M2))) : wp E 8 cX8_isShelf (some .boolean) Q 0 [some (zI v0)] [] M := by
  refine w_iload_n dX8_isShelf_0 rfl ?_
  refine w_iconst dX8_isShelf_1 ?_
  refine w_iconst dX8_isShelf_2 ?_
  refine w_invSi [_, _, _] dX8_isShelf_3 l8_114 kX8_in rfl rfl (Nat.le_of_ble_eq_true rfl) (Or.inr rfl) h (fun r1 M2 h => ?_)
  obtain ⟨c3, h⟩ := h
  exact w_rz rfl dX8_isShelf_6 rfl c3 h
theorem e_X8_keep {d : Nat} {Q : Int → zM → Prop} {M : zM} (v1 : Int) (v2 : Int) (h : wp (Ev d) 8 cX8_keep (some .int) Q 0 [some (.ref 1280), some (zI v1), some (zI v2)] [] M) : Ev (d + 1) mX8_keep [.ref 1280, zI v1, zI v2] M Q := ⟨kX8_keep, Nat.le_of_ble_eq_true rfl, h⟩
theorem v_X8_keep_0 {E : zE} {Q : Int → zM → Prop} {M : zM} (v1 : Int) (v2 : Int)  (h : E mX8_isShelf [zI v1] M (fun r1 M2 => (zw r1 = 0 → (Q (-1) M2)) ∧ (¬ zw r1 = 0 → ((zw v2 = (-1) → ((0 ≤ zw v1) ∧ ((zw v1 < 6) ∧ (∀ M5 : zM, M5 = zs M2 1324 (zw v1).toNat v2 → (Q 1 M5))))) ∧ (¬ zw v2 = (-1) → (E mX8_isBody [.ref 1280, zI v2] M2 (fun r6 M7 => (zw r6 = 0 → (Q (-1) M7)) ∧ (¬ zw r6 = 0 → ((0 ≤ zw v1) ∧ ((zw v1 < 6) ∧ (∀ M10 : zM, M10 = zs M7 1324 (zw v1).toNat v2 → (Q 1 M10)))))))))))) : wp E 8 cX8_keep (some .int) Q 0 [some (.ref 1280), some (zI v1), some (zI v2)] [] M := by
  refine w_iload_n dX8_keep_0 rfl ?_
  refine w_invSi [_] dX8_keep_1 l8_130 kX8_isShelf rfl rfl (Nat.le_of_ble_eq_true rfl) (Or.inr rfl) h (fun r1 M2 h => ?_)
  refine w_if_eq (tgt := 20) dX8_keep_4 (by decide) rfl (fun q => ?_) (fun q => ?_)
  · have h := h.1 q
    refine w_iconst dX8_keep_20 ?_
    exact w_ri rfl dX8_keep_21 zq_m1 h
  · have h := h.2 q
    refine w_iload_n dX8_keep_7 rfl ?_
    refine w_iconst dX8_keep_8 ?_
    refine w_icmp_eq (tgt := 22) dX8_keep_9 (by decide) rfl zq_m1 (fun q => ?_) (fun q => ?_)
    · have h := h.1 q
      refine w_aload_n dX8_keep_22 rfl ?_
      refine w_gfA (ci := 8) (k := 43) dX8_keep_23 f8_94 ob_1280 rfl ?_
      refine w_iload_n dX8_keep_26 rfl ?_
      refine w_iload_n dX8_keep_27 rfl ?_
      obtain ⟨c3, h⟩ := h
      obtain ⟨c4, h⟩ := h
      have h := h _ rfl
      refine w_iast dX8_keep_28 rfl (a8_43 ob_1280) c3 c4 ?_
      refine w_iconst dX8_keep_29 ?_
      exact w_ri rfl dX8_keep_30 zq_1 h
    · have h := h.2 q
      refine w_aload_n dX8_keep_12 rfl ?_
      refine w_iload_n dX8_keep_13 rfl ?_
      refine w_invVi [_] dX8_keep_14 l8_359 kX8_isBody rfl rfl (Nat.le_of_ble_eq_true rfl) (Or.inr rfl) ob_1280 h (fun r6 M7 h => ?_)
      refine w_if_ne (tgt := 22) dX8_keep_17 (by decide) rfl (fun q => ?_) (fun q => ?_)
      · have h := h.2 q
        refine w_aload_n dX8_keep_22 rfl ?_
        refine w_gfA (ci := 8) (k := 43) dX8_keep_23 f8_94 ob_1280 rfl ?_
        refine w_iload_n dX8_keep_26 rfl ?_
        refine w_iload_n dX8_keep_27 rfl ?_
        obtain ⟨c8, h⟩ := h
        obtain ⟨c9, h⟩ := h
        have h := h _ rfl
        refine w_iast dX8_keep_28 rfl (a8_43 ob_1280) c8 c9 ?_
        refine w_iconst dX8_keep_29 ?_
        exact w_ri rfl dX8_keep_30 zq_1 h
      · have h := h.1 q
        refine w_iconst dX8_keep_20 ?_
        exact w_ri rfl dX8_keep_21 zq_m1 h
theorem e_X8_row {d : Nat} {Q : Int → zM → Prop} {M : zM} (v1 : Int) (v2 : Int) (v3 : Int) (h : wp (Ev d) 8 cX8_row (some .int) Q 0 [some (.ref 1280), some (zI v1), some (zI v2), some (zI v3), none] [] M) : Ev (d + 1) mX8_row [.ref 1280, zI v1, zI v2, zI v3] M Q := ⟨kX8_row, Nat.le_of_ble_eq_true rfl, h⟩
theorem v_X8_row_0 {E : zE} {Q : Int → zM → Prop} {M : zM} (v1 : Int) (v2 : Int) (v3 : Int)  (h : E mX8_isShelf [zI v1] M (fun r1 M2 => (zw r1 = 0 → (Q (-1) M2)) ∧ (¬ zw r1 = 0 → (E mX8_in [zI v2, zI 0, zI 4] M2 (fun r3 M4 => (zw r3 = 0 → (Q (-1) M4)) ∧ (¬ zw r3 = 0 → ((60 < zw v3 → (Q (-1) M4)) ∧ (¬ 60 < zw v3 → ((zw v3 < 0 → (Q (-14) M4)) ∧ (¬ zw v3 < 0 → ((0 ≤ zw v1) ∧ ((zw v1 < 6) ∧ (∀ M7 : zM, M7 = zs M4 1324 (zw v1).toNat ((-2) - v2) → ((0 ≤ zw v1) ∧ ((zw v1 < 6) ∧ (∀ M10 : zM, M10 = zs M7 1325 (zw v1).toNat v3 → (wp E 8 cX8_row (some .int) Q 54 [some (.ref 1280), some (zI v1), none, none, some (zI (60 * v1))] [] M10))))))))))))))))) : wp E 8 cX8_row (some .int) Q 0 [some (.ref 1280), some (zI v1), some (zI v2), some (zI v3), none] [] M := by
  refine w_iload_n dX8_row_0 rfl ?_
  refine w_invSi [_] dX8_row_1 l8_130 kX8_isShelf rfl rfl (Nat.le_of_ble_eq_true rfl) (Or.inr rfl) h (fun r1 M2 h => ?_)
  refine w_if_eq (tgt := 22) dX8_row_4 (by decide) rfl (fun q => ?_) (fun q => ?_)
  · have h := h.1 q
    refine w_iconst dX8_row_22 ?_
    exact w_ri rfl dX8_row_23 zq_m1 h
  · have h := h.2 q
    refine w_iload_n dX8_row_7 rfl ?_
    refine w_iconst dX8_row_8 ?_
    refine w_iconst dX8_row_9 ?_
    refine w_invSi [_, _, _] dX8_row_10 l8_114 kX8_in rfl rfl (Nat.le_of_ble_eq_true rfl) (Or.inr rfl) h (fun r3 M4 h => ?_)
    refine w_if_eq (tgt := 22) dX8_row_13 (by decide) rfl (fun q => ?_) (fun q => ?_)
    · have h := h.1 q
      refine w_iconst dX8_row_22 ?_
      exact w_ri rfl dX8_row_23 zq_m1 h
    · have h := h.2 q
      refine w_iload_n dX8_row_16 rfl ?_
      refine w_bipush dX8_row_17 (by decide) ?_
      refine w_icmp_le (tgt := 24) dX8_row_19 (by decide) rfl zq_60 (fun q => ?_) (fun q => ?_)
      · have h := h.2 q
        refine w_iload_n dX8_row_24 rfl ?_
        refine w_if_ge (tgt := 31) dX8_row_25 (by decide) rfl (fun q => ?_) (fun q => ?_)
        · have h := h.2 q
          refine w_aload_n dX8_row_31 rfl ?_
          refine w_gfA (ci := 8) (k := 43) dX8_row_32 f8_94 ob_1280 rfl ?_
          refine w_iload_n dX8_row_35 rfl ?_
          refine w_bipush dX8_row_36 (by decide) ?_
          refine w_iload_n dX8_row_38 rfl ?_
          refine w_isub dX8_row_39 ?_
          obtain ⟨c5, h⟩ := h
          obtain ⟨c6, h⟩ := h
          have h := h _ rfl
          refine w_iast dX8_row_40 rfl (a8_43 ob_1280) c5 c6 ?_
          refine w_aload_n dX8_row_41 rfl ?_
          refine w_gfA (ci := 8) (k := 44) dX8_row_42 f8_97 ob_1280 rfl ?_
          refine w_iload_n dX8_row_45 rfl ?_
          refine w_iload_n dX8_row_46 rfl ?_
          obtain ⟨c8, h⟩ := h
          obtain ⟨c9, h⟩ := h
          have h := h _ rfl
          refine w_iast dX8_row_47 rfl (a8_44 ob_1280) c8 c9 ?_
          refine w_bipush dX8_row_48 (by decide) ?_
          refine w_iload_n dX8_row_50 rfl ?_
          refine w_imul dX8_row_51 ?_
          refine w_istore dX8_row_52 (Nat.le_of_ble_eq_true rfl) rfl ?_
          exact w_fgt (fgk (fgk (fgd (fgd (fgk (fgn)))))) h
        · have h := h.1 q
          refine w_bipush dX8_row_28 (by decide) ?_
          exact w_ri rfl dX8_row_30 zq_m14 h
      · have h := h.1 q
        refine w_iconst dX8_row_22 ?_
        exact w_ri rfl dX8_row_23 zq_m1 h
theorem v_X8_row_54 {E : zE} {Q : Int → zM → Prop} {M : zM} (v1 : Int) (v4 : Int)  (h : (zw v4 < zw ((60 * v1) + 60) → ((0 ≤ zw v4) ∧ ((zw v4 < 360) ∧ (∀ M3 : zM, M3 = zt M 1326 (zw v4).toNat 0 → (wp E 8 cX8_row (some .int) Q 54 [some (.ref 1280), some (zI v1), none, none, some (zI (v4 + 1))] [] M3))))) ∧ (¬ zw v4 < zw ((60 * v1) + 60) → (Q 1 M))) : wp E 8 cX8_row (some .int) Q 54 [some (.ref 1280), some (zI v1), none, none, some (zI v4)] [] M := by
  refine w_iload dX8_row_54 rfl ?_
  refine w_bipush dX8_row_56 (by decide) ?_
  refine w_iload_n dX8_row_58 rfl ?_
  refine w_imul dX8_row_59 ?_
  refine w_bipush dX8_row_60 (by decide) ?_
  refine w_iadd dX8_row_62 ?_
  refine w_icmp_ge (tgt := 80) dX8_row_63 (by decide) rfl rfl (fun q => ?_) (fun q => ?_)
  · have h := h.2 q
    refine w_iconst dX8_row_80 ?_
    exact w_ri rfl dX8_row_81 zq_1 h
  · have h := h.1 q
    refine w_aload_n dX8_row_66 rfl ?_
    refine w_gfA (ci := 8) (k := 45) dX8_row_67 f8_100 ob_1280 rfl ?_
    refine w_iload dX8_row_70 rfl ?_
    refine w_lconst dX8_row_72 ?_
    obtain ⟨c1, h⟩ := h
    obtain ⟨c2, h⟩ := h
    have h := h _ rfl
    refine w_last dX8_row_73 rfl (a8_45 ob_1280) c1 c2 ?_
    refine w_iinc dX8_row_74 rfl rfl ?_
    refine w_goto (tgt := 54) dX8_row_77 (by decide) ?_
    exact w_fgt (fgk (fgk (fgd (fgd (fgk (fgn)))))) h
theorem e_X8_whyNoPlace {d : Nat} {Q : Int → zM → Prop} {M : zM} (v1 : Int) (v2 : Int) (h : wp (Ev d) 8 cX8_whyNoPlace (some .int) Q 0 [some (.ref 1280), some (zI v1), some (zI v2)] [] M) : Ev (d + 1) mX8_whyNoPlace [.ref 1280, zI v1, zI v2] M Q := ⟨kX8_whyNoPlace, Nat.le_of_ble_eq_true rfl, h⟩
theorem v_X8_whyNoPlace_0 {E : zE} {Q : Int → zM → Prop} {M : zM} (v1 : Int) (v2 : Int)  (h : E mX8_isShelf [zI v1] M (fun r1 M2 => (zw r1 = 0 → (Q (-1) M2)) ∧ (¬ zw r1 = 0 → ((0 ≤ zw v1) ∧ ((zw v1 < 6) ∧ ((zg M2 1324 (zw v1).toNat = (-1) → (Q (-11) M2)) ∧ (¬ zg M2 1324 (zw v1).toNat = (-1) → ((0 ≤ zw v1) ∧ ((zw v1 < 6) ∧ ((zg M2 1324 (zw v1).toNat < 0 → ((0 ≤ zw v1) ∧ ((zw v1 < 6) ∧ (E mX8_in [zI v2, zI 0, zI ((zg M2 1325 (zw v1).toNat) - 1)] M2 (fun r9 M10 => (zw r9 = 0 → (Q (-13) M10)) ∧ (¬ zw r9 = 0 → (Q 0 M10))))))) ∧ (¬ zg M2 1324 (zw v1).toNat < 0 → (Q (-12) M2)))))))))))) : wp E 8 cX8_whyNoPlace (some .int) Q 0 [some (.ref 1280), some (zI v1), some (zI v2)] [] M := by
  refine w_iload_n dX8_whyNoPlace_0 rfl ?_
  refine w_invSi [_] dX8_whyNoPlace_1 l8_130 kX8_isShelf rfl rfl (Nat.le_of_ble_eq_true rfl) (Or.inr rfl) h (fun r1 M2 h => ?_)
  refine w_if_ne (tgt := 9) dX8_whyNoPlace_4 (by decide) rfl (fun q => ?_) (fun q => ?_)
  · have h := h.2 q
    refine w_aload_n dX8_whyNoPlace_9 rfl ?_
    refine w_gfA (ci := 8) (k := 43) dX8_whyNoPlace_10 f8_94 ob_1280 rfl ?_
    refine w_iload_n dX8_whyNoPlace_13 rfl ?_
    obtain ⟨c3, h⟩ := h
    obtain ⟨c4, h⟩ := h
    refine w_iald dX8_whyNoPlace_14 rfl (a8_43 ob_1280) c3 c4 ?_
    refine w_iconst dX8_whyNoPlace_15 ?_
    refine w_icmp_ne (tgt := 22) dX8_whyNoPlace_16 (by decide) (zw_zg _ _ _) zq_m1 (fun q => ?_) (fun q => ?_)
    · have h := h.2 q
      refine w_aload_n dX8_whyNoPlace_22 rfl ?_
      refine w_gfA (ci := 8) (k := 43) dX8_whyNoPlace_23 f8_94 ob_1280 rfl ?_
      refine w_iload_n dX8_whyNoPlace_26 rfl ?_
      obtain ⟨c5, h⟩ := h
      obtain ⟨c6, h⟩ := h
      refine w_iald dX8_whyNoPlace_27 rfl (a8_43 ob_1280) c5 c6 ?_
      refine w_if_lt (tgt := 34) dX8_whyNoPlace_28 (by decide) (zw_zg _ _ _) (fun q => ?_) (fun q => ?_)
      · have h := h.1 q
        refine w_iload_n dX8_whyNoPlace_34 rfl ?_
        refine w_iconst dX8_whyNoPlace_35 ?_
        refine w_aload_n dX8_whyNoPlace_36 rfl ?_
        refine w_gfA (ci := 8) (k := 44) dX8_whyNoPlace_37 f8_97 ob_1280 rfl ?_
        refine w_iload_n dX8_whyNoPlace_40 rfl ?_
        obtain ⟨c7, h⟩ := h
        obtain ⟨c8, h⟩ := h
        refine w_iald dX8_whyNoPlace_41 rfl (a8_44 ob_1280) c7 c8 ?_
        refine w_iconst dX8_whyNoPlace_42 ?_
        refine w_isub dX8_whyNoPlace_43 ?_
        refine w_invSi [_, _, _] dX8_whyNoPlace_44 l8_114 kX8_in rfl rfl (Nat.le_of_ble_eq_true rfl) (Or.inr rfl) h (fun r9 M10 h => ?_)
        refine w_if_eq (tgt := 54) dX8_whyNoPlace_47 (by decide) rfl (fun q => ?_) (fun q => ?_)
        · have h := h.1 q
          refine w_bipush dX8_whyNoPlace_54 (by decide) ?_
          exact w_ri rfl dX8_whyNoPlace_56 zq_m13 h
        · have h := h.2 q
          refine w_iconst dX8_whyNoPlace_50 ?_
          refine w_goto (tgt := 56) dX8_whyNoPlace_51 (by decide) ?_
          exact w_ri rfl dX8_whyNoPlace_56 zq_0 h
      · have h := h.2 q
        refine w_bipush dX8_whyNoPlace_31 (by decide) ?_
        exact w_ri rfl dX8_whyNoPlace_33 zq_m12 h
    · have h := h.1 q
      refine w_bipush dX8_whyNoPlace_19 (by decide) ?_
      exact w_ri rfl dX8_whyNoPlace_21 zq_m11 h
  · have h := h.1 q
    refine w_iconst dX8_whyNoPlace_7 ?_
    exact w_ri rfl dX8_whyNoPlace_8 zq_m1 h
theorem e_X8_put {d : Nat} {Q : Int → zM → Prop} {M : zM} (v1 : Int) (v2 : Int) (v3 : Int) (h : wp (Ev d) 8 cX8_put (some .int) Q 0 [some (.ref 1280), some (zI v1), some (zI v2), some (zJ v3), none, none, none] [] M) : Ev (d + 1) mX8_put [.ref 1280, zI v1, zI v2, zJ v3] M Q := ⟨kX8_put, Nat.le_of_ble_eq_true rfl, h⟩
theorem v_X8_put_0 {E : zE} {Q : Int → zM → Prop} {M : zM} (v1 : Int) (v2 : Int) (v3 : Int)  (h : E mX8_whyNoPlace [.ref 1280, zI v1, zI v2] M (fun r1 M2 => (zw r1 < 0 → (Q (zw r1) M2)) ∧ (¬ zw r1 < 0 → ((0 ≤ zw v1) ∧ ((zw v1 < 6) ∧ ((zw ((-2) - (zg M2 1324 (zw v1).toNat)) = 0 → ((0 ≤ zw ((60 * v1) + v2)) ∧ ((zw ((60 * v1) + v2) < 360) ∧ (∀ M22 : zM, M22 = zt M2 1326 (zw ((60 * v1) + v2)).toNat (zw (z_b (zv v3))) → (Q 1 M22))))) ∧ (¬ zw ((-2) - (zg M2 1324 (zw v1).toNat)) = 0 → ((zw ((-2) - (zg M2 1324 (zw v1).toNat)) = 1 → ((0 ≤ zw ((60 * v1) + v2)) ∧ ((zw ((60 * v1) + v2) < 360) ∧ (∀ M19 : zM, M19 = zt M2 1326 (zw ((60 * v1) + v2)).toNat (zw (z_s (zv v3))) → (Q 1 M19))))) ∧ (¬ zw ((-2) - (zg M2 1324 (zw v1).toNat)) = 1 → ((zw ((-2) - (zg M2 1324 (zw v1).toNat)) = 2 → ((0 ≤ zw ((60 * v1) + v2)) ∧ ((zw ((60 * v1) + v2) < 360) ∧ (∀ M16 : zM, M16 = zt M2 1326 (zw ((60 * v1) + v2)).toNat (zw (zv v3)) → (Q 1 M16))))) ∧ (¬ zw ((-2) - (zg M2 1324 (zw v1).toNat)) = 2 → ((zw ((-2) - (zg M2 1324 (zw v1).toNat)) = 3 → ((0 ≤ zw ((60 * v1) + v2)) ∧ ((zw ((60 * v1) + v2) < 360) ∧ (∀ M13 : zM, M13 = zt M2 1326 (zw ((60 * v1) + v2)).toNat v3 → (Q 1 M13))))) ∧ (¬ zw ((-2) - (zg M2 1324 (zw v1).toNat)) = 3 → ((zw (z_lc v3 0) = 0 → ((0 ≤ zw ((60 * v1) + v2)) ∧ ((zw ((60 * v1) + v2) < 360) ∧ (∀ M7 : zM, M7 = zt M2 1326 (zw ((60 * v1) + v2)).toNat 0 → (Q 1 M7))))) ∧ (¬ zw (z_lc v3 0) = 0 → ((0 ≤ zw ((60 * v1) + v2)) ∧ ((zw ((60 * v1) + v2) < 360) ∧ (∀ M10 : zM, M10 = zt M2 1326 (zw ((60 * v1) + v2)).toNat 1 → (Q 1 M10))))))))))))))))))) : wp E 8 cX8_put (some .int) Q 0 [some (.ref 1280), some (zI v1), some (zI v2), some (zJ v3), none, none, none] [] M := by
  refine w_aload_n dX8_put_0 rfl ?_
  refine w_iload_n dX8_put_1 rfl ?_
  refine w_iload_n dX8_put_2 rfl ?_
  refine w_invVi [_, _] dX8_put_3 l8_368 kX8_whyNoPlace rfl rfl (Nat.le_of_ble_eq_true rfl) (Or.inl rfl) ob_1280 h (fun r1 M2 h => ?_)
  refine w_istore dX8_put_6 (Nat.le_of_ble_eq_true rfl) rfl ?_
  refine w_iload dX8_put_8 rfl ?_
  refine w_if_ge (tgt := 16) dX8_put_10 (by decide) rfl (fun q => ?_) (fun q => ?_)
  · have h := h.2 q
    refine w_bipush dX8_put_16 (by decide) ?_
    refine w_aload_n dX8_put_18 rfl ?_
    refine w_gfA (ci := 8) (k := 43) dX8_put_19 f8_94 ob_1280 rfl ?_
    refine w_iload_n dX8_put_22 rfl ?_
    obtain ⟨c3, h⟩ := h
    obtain ⟨c4, h⟩ := h
    refine w_iald dX8_put_23 rfl (a8_43 ob_1280) c3 c4 ?_
    refine w_isub dX8_put_24 ?_
    refine w_istore dX8_put_25 (Nat.le_of_ble_eq_true rfl) rfl ?_
    refine w_aload_n dX8_put_27 rfl ?_
    refine w_gfA (ci := 8) (k := 45) dX8_put_28 f8_100 ob_1280 rfl ?_
    refine w_bipush dX8_put_31 (by decide) ?_
    refine w_iload_n dX8_put_33 rfl ?_
    refine w_imul dX8_put_34 ?_
    refine w_iload_n dX8_put_35 rfl ?_
    refine w_iadd dX8_put_36 ?_
    refine w_iload dX8_put_37 rfl ?_
    refine w_if_ne (tgt := 49) dX8_put_39 (by decide) rfl (fun q => ?_) (fun q => ?_)
    · have h := h.2 q
      refine w_iload dX8_put_49 rfl ?_
      refine w_iconst dX8_put_51 ?_
      refine w_icmp_ne (tgt := 62) dX8_put_52 (by decide) rfl zq_1 (fun q => ?_) (fun q => ?_)
      · have h := h.2 q
        refine w_iload dX8_put_62 rfl ?_
        refine w_iconst dX8_put_64 ?_
        refine w_icmp_ne (tgt := 74) dX8_put_65 (by decide) rfl zq_2 (fun q => ?_) (fun q => ?_)
        · have h := h.2 q
          refine w_iload dX8_put_74 rfl ?_
          refine w_iconst dX8_put_76 ?_
          refine w_icmp_ne (tgt := 84) dX8_put_77 (by decide) rfl zq_3 (fun q => ?_) (fun q => ?_)
          · have h := h.2 q
            refine w_lload_n dX8_put_84 rfl ?_
            refine w_lconst dX8_put_85 ?_
            refine w_lcmp dX8_put_86 ?_
            refine w_if_eq (tgt := 94) dX8_put_87 (by decide) rfl (fun q => ?_) (fun q => ?_)
            · have h := h.1 q
              refine w_lconst dX8_put_94 ?_
              obtain ⟨c5, h⟩ := h
              obtain ⟨c6, h⟩ := h
              have h := h _ rfl
              refine w_last dX8_put_95 rfl (a8_45 ob_1280) c5 c6 ?_
              refine w_iconst dX8_put_96 ?_
              exact w_ri rfl dX8_put_97 zq_1 h
            · have h := h.2 q
              refine w_lconst dX8_put_90 ?_
              refine w_goto (tgt := 95) dX8_put_91 (by decide) ?_
              obtain ⟨c8, h⟩ := h
              obtain ⟨c9, h⟩ := h
              have h := h _ rfl
              refine w_last dX8_put_95 rfl (a8_45 ob_1280) c8 c9 ?_
              refine w_iconst dX8_put_96 ?_
              exact w_ri rfl dX8_put_97 zq_1 h
          · have h := h.1 q
            refine w_lload_n dX8_put_80 rfl ?_
            refine w_goto (tgt := 95) dX8_put_81 (by decide) ?_
            obtain ⟨c11, h⟩ := h
            obtain ⟨c12, h⟩ := h
            have h := h _ rfl
            refine w_last dX8_put_95 rfl (a8_45 ob_1280) c11 c12 ?_
            refine w_iconst dX8_put_96 ?_
            exact w_ri rfl dX8_put_97 zq_1 h
        · have h := h.1 q
          refine w_lload_n dX8_put_68 rfl ?_
          refine w_l2i dX8_put_69 ?_
          refine w_i2l dX8_put_70 ?_
          refine w_goto (tgt := 95) dX8_put_71 (by decide) ?_
          obtain ⟨c14, h⟩ := h
          obtain ⟨c15, h⟩ := h
          have h := h _ rfl
          refine w_last dX8_put_95 rfl (a8_45 ob_1280) c14 c15 ?_
          refine w_iconst dX8_put_96 ?_
          exact w_ri rfl dX8_put_97 zq_1 h
      · have h := h.1 q
        refine w_lload_n dX8_put_55 rfl ?_
        refine w_l2i dX8_put_56 ?_
        refine w_i2s dX8_put_57 ?_
        refine w_i2l dX8_put_58 ?_
        refine w_goto (tgt := 95) dX8_put_59 (by decide) ?_
        obtain ⟨c17, h⟩ := h
        obtain ⟨c18, h⟩ := h
        have h := h _ rfl
        refine w_last dX8_put_95 rfl (a8_45 ob_1280) c17 c18 ?_
        refine w_iconst dX8_put_96 ?_
        exact w_ri rfl dX8_put_97 zq_1 h
    · have h := h.1 q
      refine w_lload_n dX8_put_42 rfl ?_
      refine w_l2i dX8_put_43 ?_
      refine w_i2b dX8_put_44 ?_
      refine w_i2l dX8_put_45 ?_
      refine w_goto (tgt := 95) dX8_put_46 (by decide) ?_
      obtain ⟨c20, h⟩ := h
      obtain ⟨c21, h⟩ := h
      have h := h _ rfl
      refine w_last dX8_put_95 rfl (a8_45 ob_1280) c20 c21 ?_
      refine w_iconst dX8_put_96 ?_
      exact w_ri rfl dX8_put_97 zq_1 h
  · have h := h.1 q
    refine w_iload dX8_put_13 rfl ?_
    exact w_ri rfl dX8_put_15 rfl h
theorem e_X8_element {d : Nat} {Q : Int → zM → Prop} {M : zM} (v1 : Int) (v2 : Int) (h : wp (Ev d) 8 cX8_element (some .long) Q 0 [some (.ref 1280), some (zI v1), some (zI v2)] [] M) : Ev (d + 1) mX8_element [.ref 1280, zI v1, zI v2] M Q := ⟨kX8_element, Nat.le_of_ble_eq_true rfl, h⟩
theorem v_X8_element_0 {E : zE} {Q : Int → zM → Prop} {M : zM} (v1 : Int) (v2 : Int)  (h : E mX8_whyNoPlace [.ref 1280, zI v1, zI v2] M (fun r1 M2 => (zw r1 < 0 → (Q (-9223372036854775808) M2)) ∧ (¬ zw r1 < 0 → ((0 ≤ zw ((60 * v1) + v2)) ∧ ((zw ((60 * v1) + v2) < 360) ∧ (Q (zh M2 1326 (zw ((60 * v1) + v2)).toNat) M2)))))) : wp E 8 cX8_element (some .long) Q 0 [some (.ref 1280), some (zI v1), some (zI v2)] [] M := by
  refine w_aload_n dX8_element_0 rfl ?_
  refine w_iload_n dX8_element_1 rfl ?_
  refine w_iload_n dX8_element_2 rfl ?_
  refine w_invVi [_, _] dX8_element_3 l8_368 kX8_whyNoPlace rfl rfl (Nat.le_of_ble_eq_true rfl) (Or.inl rfl) ob_1280 h (fun r1 M2 h => ?_)
  refine w_if_ge (tgt := 15) dX8_element_6 (by decide) rfl (fun q => ?_) (fun q => ?_)
  · have h := h.2 q
    refine w_aload_n dX8_element_15 rfl ?_
    refine w_gfA (ci := 8) (k := 45) dX8_element_16 f8_100 ob_1280 rfl ?_
    refine w_bipush dX8_element_19 (by decide) ?_
    refine w_iload_n dX8_element_21 rfl ?_
    refine w_imul dX8_element_22 ?_
    refine w_iload_n dX8_element_23 rfl ?_
    refine w_iadd dX8_element_24 ?_
    obtain ⟨c3, h⟩ := h
    obtain ⟨c4, h⟩ := h
    refine w_lald dX8_element_25 rfl (a8_45 ob_1280) c3 c4 ?_
    exact w_rl rfl dX8_element_26 (zv_zh _ _ _) h
  · have h := h.1 q
    refine w_ldc2 (n := -9223372036854775808) dX8_element_9 o8_373 ?_
    refine w_goto (tgt := 26) dX8_element_12 (by decide) ?_
    exact w_rl rfl dX8_element_26 zqv_m9223372036854775808 h
theorem e_X8_shift {d : Nat} {Q : Int → zM → Prop} {M : zM} (v1 : Int) (v2 : Int) (v3 : Int) (v4 : Int) (v5 : Int) (h : wp (Ev d) 8 cX8_shift (some .int) Q 0 [some (.ref 1280), some (zI v1), some (zI v2), some (zI v3), some (zI v4), some (zI v5), none] [] M) : Ev (d + 1) mX8_shift [.ref 1280, zI v1, zI v2, zI v3, zI v4, zI v5] M Q := ⟨kX8_shift, Nat.le_of_ble_eq_true rfl, h⟩
theorem v_X8_shift_0 {E : zE} {Q : Int → zM → Prop} {M : zM} (v1 : Int) (v2 : Int) (v3 : Int) (v4 : Int) (v5 : Int)  (h : E mX8_isShelf [zI v1] M (fun r1 M2 => (zw r1 = 0 → (Q (-1) M2)) ∧ (¬ zw r1 = 0 → (E mX8_isShelf [zI v3] M2 (fun r3 M4 => (zw r3 = 0 → (Q (-1) M4)) ∧ (¬ zw r3 = 0 → ((0 ≤ zw v1) ∧ ((zw v1 < 6) ∧ ((zg M4 1324 (zw v1).toNat = (-1) → (Q (-11) M4)) ∧ (¬ zg M4 1324 (zw v1).toNat = (-1) → ((0 ≤ zw v3) ∧ ((zw v3 < 6) ∧ ((zg M4 1324 (zw v3).toNat = (-1) → (Q (-11) M4)) ∧ (¬ zg M4 1324 (zw v3).toNat = (-1) → ((0 ≤ zw v1) ∧ ((zw v1 < 6) ∧ ((zg M4 1324 (zw v1).toNat < 0 → ((0 ≤ zw v1) ∧ ((zw v1 < 6) ∧ ((0 ≤ zw v3) ∧ ((zw v3 < 6) ∧ ((zg M4 1324 (zw v1).toNat = zg M4 1324 (zw v3).toNat → ((zw v5 < 0 → (Q (-13) M4)) ∧ (¬ zw v5 < 0 → ((zw v2 < 0 → (Q (-13) M4)) ∧ (¬ zw v2 < 0 → ((zw v4 < 0 → (Q (-13) M4)) ∧ (¬ zw v4 < 0 → ((0 ≤ zw v1) ∧ ((zw v1 < 6) ∧ ((zw ((zg M4 1325 (zw v1).toNat) - v5) < zw v2 → (Q (-13) M4)) ∧ (¬ zw ((zg M4 1325 (zw v1).toNat) - v5) < zw v2 → ((0 ≤ zw v3) ∧ ((zw v3 < 6) ∧ ((zw ((zg M4 1325 (zw v3).toNat) - v5) < zw v4 → (Q (-13) M4)) ∧ (¬ zw ((zg M4 1325 (zw v3).toNat) - v5) < zw v4 → (wp E 8 cX8_shift (some .int) Q 113 [some (.ref 1280), some (zI v1), some (zI v2), some (zI v3), some (zI v4), some (zI v5), some (zI 0)] [] M4)))))))))))))))) ∧ (¬ zg M4 1324 (zw v1).toNat = zg M4 1324 (zw v3).toNat → (Q (-12) M4)))))))) ∧ (¬ zg M4 1324 (zw v1).toNat < 0 → (Q (-12) M4))))))))))))))))))) : wp E 8 cX8_shift (some .int) Q 0 [some (.ref 1280), some (zI v1), some (zI v2), some (zI v3), some (zI v4), some (zI v5), none] [] M := by
  refine w_iload_n dX8_shift_0 rfl ?_
  refine w_invSi [_] dX8_shift_1 l8_130 kX8_isShelf rfl rfl (Nat.le_of_ble_eq_true rfl) (Or.inr rfl) h (fun r1 M2 h => ?_)
  refine w_if_eq (tgt := 14) dX8_shift_4 (by decide) rfl (fun q => ?_) (fun q => ?_)
  · have h := h.1 q
    refine w_iconst dX8_shift_14 ?_
    exact w_ri rfl dX8_shift_15 zq_m1 h
  · have h := h.2 q
    refine w_iload_n dX8_shift_7 rfl ?_
    refine w_invSi [_] dX8_shift_8 l8_130 kX8_isShelf rfl rfl (Nat.le_of_ble_eq_true rfl) (Or.inr rfl) h (fun r3 M4 h => ?_)
    refine w_if_ne (tgt := 16) dX8_shift_11 (by decide) rfl (fun q => ?_) (fun q => ?_)
    · have h := h.2 q
      refine w_aload_n dX8_shift_16 rfl ?_
      refine w_gfA (ci := 8) (k := 43) dX8_shift_17 f8_94 ob_1280 rfl ?_
      refine w_iload_n dX8_shift_20 rfl ?_
      obtain ⟨c5, h⟩ := h
      obtain ⟨c6, h⟩ := h
      refine w_iald dX8_shift_21 rfl (a8_43 ob_1280) c5 c6 ?_
      refine w_iconst dX8_shift_22 ?_
      refine w_icmp_eq (tgt := 36) dX8_shift_23 (by decide) (zw_zg _ _ _) zq_m1 (fun q => ?_) (fun q => ?_)
      · have h := h.1 q
        refine w_bipush dX8_shift_36 (by decide) ?_
        exact w_ri rfl dX8_shift_38 zq_m11 h
      · have h := h.2 q
        refine w_aload_n dX8_shift_26 rfl ?_
        refine w_gfA (ci := 8) (k := 43) dX8_shift_27 f8_94 ob_1280 rfl ?_
        refine w_iload_n dX8_shift_30 rfl ?_
        obtain ⟨c7, h⟩ := h
        obtain ⟨c8, h⟩ := h
        refine w_iald dX8_shift_31 rfl (a8_43 ob_1280) c7 c8 ?_
        refine w_iconst dX8_shift_32 ?_
        refine w_icmp_ne (tgt := 39) dX8_shift_33 (by decide) (zw_zg _ _ _) zq_m1 (fun q => ?_) (fun q => ?_)
        · have h := h.2 q
          refine w_aload_n dX8_shift_39 rfl ?_
          refine w_gfA (ci := 8) (k := 43) dX8_shift_40 f8_94 ob_1280 rfl ?_
          refine w_iload_n dX8_shift_43 rfl ?_
          obtain ⟨c9, h⟩ := h
          obtain ⟨c10, h⟩ := h
          refine w_iald dX8_shift_44 rfl (a8_43 ob_1280) c9 c10 ?_
          refine w_if_ge (tgt := 63) dX8_shift_45 (by decide) (zw_zg _ _ _) (fun q => ?_) (fun q => ?_)
          · have h := h.2 q
            refine w_bipush dX8_shift_63 (by decide) ?_
            exact w_ri rfl dX8_shift_65 zq_m12 h
          · have h := h.1 q
            refine w_aload_n dX8_shift_48 rfl ?_
            refine w_gfA (ci := 8) (k := 43) dX8_shift_49 f8_94 ob_1280 rfl ?_
            refine w_iload_n dX8_shift_52 rfl ?_
            obtain ⟨c11, h⟩ := h
            obtain ⟨c12, h⟩ := h
            refine w_iald dX8_shift_53 rfl (a8_43 ob_1280) c11 c12 ?_
            refine w_aload_n dX8_shift_54 rfl ?_
            refine w_gfA (ci := 8) (k := 43) dX8_shift_55 f8_94 ob_1280 rfl ?_
            refine w_iload_n dX8_shift_58 rfl ?_
            obtain ⟨c13, h⟩ := h
            obtain ⟨c14, h⟩ := h
            refine w_iald dX8_shift_59 rfl (a8_43 ob_1280) c13 c14 ?_
            refine w_icmp_eq (tgt := 66) dX8_shift_60 (by decide) (zw_zg _ _ _) (zw_zg _ _ _) (fun q => ?_) (fun q => ?_)
            · have h := h.1 q
              refine w_iload dX8_shift_66 rfl ?_
              refine w_if_lt (tgt := 107) dX8_shift_68 (by decide) rfl (fun q => ?_) (fun q => ?_)
              · have h := h.1 q
                refine w_bipush dX8_shift_107 (by decide) ?_
                exact w_ri rfl dX8_shift_109 zq_m13 h
              · have h := h.2 q
                refine w_iload_n dX8_shift_71 rfl ?_
                refine w_if_lt (tgt := 107) dX8_shift_72 (by decide) rfl (fun q => ?_) (fun q => ?_)
                · have h := h.1 q
                  refine w_bipush dX8_shift_107 (by decide) ?_
                  exact w_ri rfl dX8_shift_109 zq_m13 h
                · have h := h.2 q
                  refine w_iload dX8_shift_75 rfl ?_
                  refine w_if_lt (tgt := 107) dX8_shift_77 (by decide) rfl (fun q => ?_) (fun q => ?_)
                  · have h := h.1 q
                    refine w_bipush dX8_shift_107 (by decide) ?_
                    exact w_ri rfl dX8_shift_109 zq_m13 h
                  · have h := h.2 q
                    refine w_iload_n dX8_shift_80 rfl ?_
                    refine w_aload_n dX8_shift_81 rfl ?_
                    refine w_gfA (ci := 8) (k := 44) dX8_shift_82 f8_97 ob_1280 rfl ?_
                    refine w_iload_n dX8_shift_85 rfl ?_
                    obtain ⟨c15, h⟩ := h
                    obtain ⟨c16, h⟩ := h
                    refine w_iald dX8_shift_86 rfl (a8_44 ob_1280) c15 c16 ?_
                    refine w_iload dX8_shift_87 rfl ?_
                    refine w_isub dX8_shift_89 ?_
                    refine w_icmp_gt (tgt := 107) dX8_shift_90 (by decide) rfl rfl (fun q => ?_) (fun q => ?_)
                    · have h := h.1 q
                      refine w_bipush dX8_shift_107 (by decide) ?_
                      exact w_ri rfl dX8_shift_109 zq_m13 h
                    · have h := h.2 q
                      refine w_iload dX8_shift_93 rfl ?_
                      refine w_aload_n dX8_shift_95 rfl ?_
                      refine w_gfA (ci := 8) (k := 44) dX8_shift_96 f8_97 ob_1280 rfl ?_
                      refine w_iload_n dX8_shift_99 rfl ?_
                      obtain ⟨c17, h⟩ := h
                      obtain ⟨c18, h⟩ := h
                      refine w_iald dX8_shift_100 rfl (a8_44 ob_1280) c17 c18 ?_
                      refine w_iload dX8_shift_101 rfl ?_
                      refine w_isub dX8_shift_103 ?_
                      refine w_icmp_le (tgt := 110) dX8_shift_104 (by decide) rfl rfl (fun q => ?_) (fun q => ?_)
                      · have h := h.2 q
                        refine w_iconst dX8_shift_110 ?_
                        refine w_istore dX8_shift_111 (Nat.le_of_ble_eq_true rfl) rfl ?_
                        exact w_fgt (fgk (fgk (fgk (fgk (fgk (fgk (fgk (fgn)))))))) h
                      · have h := h.1 q
                        refine w_bipush dX8_shift_107 (by decide) ?_
                        exact w_ri rfl dX8_shift_109 zq_m13 h
            · have h := h.2 q
              refine w_bipush dX8_shift_63 (by decide) ?_
              exact w_ri rfl dX8_shift_65 zq_m12 h
        · have h := h.1 q
          refine w_bipush dX8_shift_36 (by decide) ?_
          exact w_ri rfl dX8_shift_38 zq_m11 h
    · have h := h.1 q
      refine w_iconst dX8_shift_14 ?_
      exact w_ri rfl dX8_shift_15 zq_m1 h
theorem v_X8_shift_113 {E : zE} {Q : Int → zM → Prop} {M : zM} (v1 : Int) (v2 : Int) (v3 : Int) (v4 : Int) (v5 : Int) (v6 : Int)  (h : (zw v6 < zw v5 → ((0 ≤ zw (((60 * v1) + v2) + v6)) ∧ ((zw (((60 * v1) + v2) + v6) < 360) ∧ ((0 ≤ zw v6) ∧ ((zw v6 < 60) ∧ (∀ M5 : zM, M5 = zt M 1327 (zw v6).toNat (zh M 1326 (zw (((60 * v1) + v2) + v6)).toNat) → (wp E 8 cX8_shift (some .int) Q 113 [some (.ref 1280), some (zI v1), some (zI v2), some (zI v3), some (zI v4), some (zI v5), some (zI (v6 + 1))] [] M5))))))) ∧ (¬ zw v6 < zw v5 → (wp E 8 cX8_shift (some .int) Q 150 [some (.ref 1280), none, none, some (zI v3), some (zI v4), some (zI v5), some (zI 0)] [] M))) : wp E 8 cX8_shift (some .int) Q 113 [some (.ref 1280), some (zI v1), some (zI v2), some (zI v3), some (zI v4), some (zI v5), some (zI v6)] [] M := by
  refine w_iload dX8_shift_113 rfl ?_
  refine w_iload dX8_shift_115 rfl ?_
  refine w_icmp_ge (tgt := 147) dX8_shift_117 (by decide) rfl rfl (fun q => ?_) (fun q => ?_)
  · have h := h.2 q
    refine w_iconst dX8_shift_147 ?_
    refine w_istore dX8_shift_148 (Nat.le_of_ble_eq_true rfl) rfl ?_
    exact w_fgt (fgk (fgd (fgd (fgk (fgk (fgk (fgk (fgn)))))))) h
  · have h := h.1 q
    refine w_aload_n dX8_shift_120 rfl ?_
    refine w_gfA (ci := 8) (k := 46) dX8_shift_121 f8_104 ob_1280 rfl ?_
    refine w_iload dX8_shift_124 rfl ?_
    refine w_aload_n dX8_shift_126 rfl ?_
    refine w_gfA (ci := 8) (k := 45) dX8_shift_127 f8_100 ob_1280 rfl ?_
    refine w_bipush dX8_shift_130 (by decide) ?_
    refine w_iload_n dX8_shift_132 rfl ?_
    refine w_imul dX8_shift_133 ?_
    refine w_iload_n dX8_shift_134 rfl ?_
    refine w_iadd dX8_shift_135 ?_
    refine w_iload dX8_shift_136 rfl ?_
    refine w_iadd dX8_shift_138 ?_
    obtain ⟨c1, h⟩ := h
    obtain ⟨c2, h⟩ := h
    refine w_lald dX8_shift_139 rfl (a8_45 ob_1280) c1 c2 ?_
    obtain ⟨c3, h⟩ := h
    obtain ⟨c4, h⟩ := h
    have h := h _ rfl
    refine w_last dX8_shift_140 rfl (a8_46 ob_1280) c3 c4 ?_
    refine w_iinc dX8_shift_141 rfl rfl ?_
    refine w_goto (tgt := 113) dX8_shift_144 (by decide) ?_
    exact w_fgt (fgk (fgk (fgk (fgk (fgk (fgk (fgk (fgn)))))))) h
theorem v_X8_shift_150 {E : zE} {Q : Int → zM → Prop} {M : zM} (v3 : Int) (v4 : Int) (v5 : Int) (v6 : Int)  (h : (zw v6 < zw v5 → ((0 ≤ zw v6) ∧ ((zw v6 < 60) ∧ ((0 ≤ zw (((60 * v3) + v4) + v6)) ∧ ((zw (((60 * v3) + v4) + v6) < 360) ∧ (∀ M5 : zM, M5 = zt M 1326 (zw (((60 * v3) + v4) + v6)).toNat (zh M 1327 (zw v6).toNat) → (wp E 8 cX8_shift (some .int) Q 150 [some (.ref 1280), none, none, some (zI v3), some (zI v4), some (zI v5), some (zI (v6 + 1))] [] M5))))))) ∧ (¬ zw v6 < zw v5 → (Q (zw v5) M))) : wp E 8 cX8_shift (some .int) Q 150 [some (.ref 1280), none, none, some (zI v3), some (zI v4), some (zI v5), some (zI v6)] [] M := by
  refine w_iload dX8_shift_150 rfl ?_
  refine w_iload dX8_shift_152 rfl ?_
  refine w_icmp_ge (tgt := 185) dX8_shift_154 (by decide) rfl rfl (fun q => ?_) (fun q => ?_)
  · have h := h.2 q
    refine w_iload dX8_shift_185 rfl ?_
    exact w_ri rfl dX8_shift_187 rfl h
  · have h := h.1 q
    refine w_aload_n dX8_shift_157 rfl ?_
    refine w_gfA (ci := 8) (k := 45) dX8_shift_158 f8_100 ob_1280 rfl ?_
    refine w_bipush dX8_shift_161 (by decide) ?_
    refine w_iload_n dX8_shift_163 rfl ?_
    refine w_imul dX8_shift_164 ?_
    refine w_iload dX8_shift_165 rfl ?_
    refine w_iadd dX8_shift_167 ?_
    refine w_iload dX8_shift_168 rfl ?_
    refine w_iadd dX8_shift_170 ?_
    refine w_aload_n dX8_shift_171 rfl ?_
    refine w_gfA (ci := 8) (k := 46) dX8_shift_172 f8_104 ob_1280 rfl ?_
    refine w_iload dX8_shift_175 rfl ?_
    obtain ⟨c1, h⟩ := h
    obtain ⟨c2, h⟩ := h
    refine w_lald dX8_shift_177 rfl (a8_46 ob_1280) c1 c2 ?_
    obtain ⟨c3, h⟩ := h
    obtain ⟨c4, h⟩ := h
    have h := h _ rfl
    refine w_last dX8_shift_178 rfl (a8_45 ob_1280) c3 c4 ?_
    refine w_iinc dX8_shift_179 rfl rfl ?_
    refine w_goto (tgt := 150) dX8_shift_182 (by decide) ?_
    exact w_fgt (fgk (fgd (fgd (fgk (fgk (fgk (fgk (fgn)))))))) h
theorem e_X8_taken {d : Nat} {Q : Int → zM → Prop} {M : zM} (v1 : Int) (v2 : Int) (h : wp (Ev d) 8 cX8_taken (some .int) Q 0 [some (.ref 1280), some (zI v1), some (zI v2)] [] M) : Ev (d + 1) mX8_taken [.ref 1280, zI v1, zI v2] M Q := ⟨kX8_taken, Nat.le_of_ble_eq_true rfl, h⟩
theorem v_X8_taken_0 {E : zE} {Q : Int → zM → Prop} {M : zM} (v1 : Int) (v2 : Int)  (h : E mX8_isShelf [zI v1] M (fun r1 M2 => (zw r1 = 0 → (Q (-1) M2)) ∧ (¬ zw r1 = 0 → (E mX8_in [zI v2, zI 0, zI 7] M2 (fun r3 M4 => (zw r3 = 0 → (Q (-1) M4)) ∧ (¬ zw r3 = 0 → ((0 ≤ zw v1) ∧ ((zw v1 < 6) ∧ ((zg M4 1324 (zw v1).toNat = (-1) → (Q (-11) M4)) ∧ (¬ zg M4 1324 (zw v1).toNat = (-1) → ((0 ≤ zw v1) ∧ ((zw v1 < 6) ∧ ((zg M4 1324 (zw v1).toNat < 0 → (Q (-12) M4)) ∧ (¬ zg M4 1324 (zw v1).toNat < 0 → ((0 ≤ zw v1) ∧ ((zw v1 < 6) ∧ ((0 ≤ zg M4 1324 (zw v1).toNat) ∧ ((zg M4 1324 (zw v1).toNat < 50) ∧ (E mX8_isUnder [zI (zg M4 1321 (zg M4 1324 (zw v1).toNat).toNat), zI v2] M4 (fun r13 M14 => (zw r13 = 0 → (Q (-12) M14)) ∧ (¬ zw r13 = 0 → ((0 ≤ zw v1) ∧ ((zw v1 < 6) ∧ ((0 ≤ zg M14 1324 (zw v1).toNat) ∧ ((zg M14 1324 (zw v1).toNat < 50) ∧ (Q (zg M14 1321 (zg M14 1324 (zw v1).toNat).toNat) M14)))))))))))))))))))))))))) : wp E 8 cX8_taken (some .int) Q 0 [some (.ref 1280), some (zI v1), some (zI v2)] [] M := by
  refine w_iload_n dX8_taken_0 rfl ?_
  refine w_invSi [_] dX8_taken_1 l8_130 kX8_isShelf rfl rfl (Nat.le_of_ble_eq_true rfl) (Or.inr rfl) h (fun r1 M2 h => ?_)
  refine w_if_eq (tgt := 17) dX8_taken_4 (by decide) rfl (fun q => ?_) (fun q => ?_)
  · have h := h.1 q
    refine w_iconst dX8_taken_17 ?_
    exact w_ri rfl dX8_taken_18 zq_m1 h
  · have h := h.2 q
    refine w_iload_n dX8_taken_7 rfl ?_
    refine w_iconst dX8_taken_8 ?_
    refine w_bipush dX8_taken_9 (by decide) ?_
    refine w_invSi [_, _, _] dX8_taken_11 l8_114 kX8_in rfl rfl (Nat.le_of_ble_eq_true rfl) (Or.inr rfl) h (fun r3 M4 h => ?_)
    refine w_if_ne (tgt := 19) dX8_taken_14 (by decide) rfl (fun q => ?_) (fun q => ?_)
    · have h := h.2 q
      refine w_aload_n dX8_taken_19 rfl ?_
      refine w_gfA (ci := 8) (k := 43) dX8_taken_20 f8_94 ob_1280 rfl ?_
      refine w_iload_n dX8_taken_23 rfl ?_
      obtain ⟨c5, h⟩ := h
      obtain ⟨c6, h⟩ := h
      refine w_iald dX8_taken_24 rfl (a8_43 ob_1280) c5 c6 ?_
      refine w_iconst dX8_taken_25 ?_
      refine w_icmp_ne (tgt := 32) dX8_taken_26 (by decide) (zw_zg _ _ _) zq_m1 (fun q => ?_) (fun q => ?_)
      · have h := h.2 q
        refine w_aload_n dX8_taken_32 rfl ?_
        refine w_gfA (ci := 8) (k := 43) dX8_taken_33 f8_94 ob_1280 rfl ?_
        refine w_iload_n dX8_taken_36 rfl ?_
        obtain ⟨c7, h⟩ := h
        obtain ⟨c8, h⟩ := h
        refine w_iald dX8_taken_37 rfl (a8_43 ob_1280) c7 c8 ?_
        refine w_if_lt (tgt := 73) dX8_taken_38 (by decide) (zw_zg _ _ _) (fun q => ?_) (fun q => ?_)
        · have h := h.1 q
          refine w_bipush dX8_taken_73 (by decide) ?_
          exact w_ri rfl dX8_taken_75 zq_m12 h
        · have h := h.2 q
          refine w_aload_n dX8_taken_41 rfl ?_
          refine w_gfA (ci := 8) (k := 40) dX8_taken_42 f8_88 ob_1280 rfl ?_
          refine w_aload_n dX8_taken_45 rfl ?_
          refine w_gfA (ci := 8) (k := 43) dX8_taken_46 f8_94 ob_1280 rfl ?_
          refine w_iload_n dX8_taken_49 rfl ?_
          obtain ⟨c9, h⟩ := h
          obtain ⟨c10, h⟩ := h
          refine w_iald dX8_taken_50 rfl (a8_43 ob_1280) c9 c10 ?_
          obtain ⟨c11, h⟩ := h
          obtain ⟨c12, h⟩ := h
          refine w_iald dX8_taken_51 (zw_zg _ _ _) (a8_40 ob_1280) c11 c12 ?_
          refine w_iload_n dX8_taken_52 rfl ?_
          refine w_invSi [_, _] dX8_taken_53 l8_329 kX8_isUnder rfl rfl (Nat.le_of_ble_eq_true rfl) (Or.inr rfl) h (fun r13 M14 h => ?_)
          refine w_if_eq (tgt := 73) dX8_taken_56 (by decide) rfl (fun q => ?_) (fun q => ?_)
          · have h := h.1 q
            refine w_bipush dX8_taken_73 (by decide) ?_
            exact w_ri rfl dX8_taken_75 zq_m12 h
          · have h := h.2 q
            refine w_aload_n dX8_taken_59 rfl ?_
            refine w_gfA (ci := 8) (k := 40) dX8_taken_60 f8_88 ob_1280 rfl ?_
            refine w_aload_n dX8_taken_63 rfl ?_
            refine w_gfA (ci := 8) (k := 43) dX8_taken_64 f8_94 ob_1280 rfl ?_
            refine w_iload_n dX8_taken_67 rfl ?_
            obtain ⟨c15, h⟩ := h
            obtain ⟨c16, h⟩ := h
            refine w_iald dX8_taken_68 rfl (a8_43 ob_1280) c15 c16 ?_
            obtain ⟨c17, h⟩ := h
            obtain ⟨c18, h⟩ := h
            refine w_iald dX8_taken_69 (zw_zg _ _ _) (a8_40 ob_1280) c17 c18 ?_
            refine w_goto (tgt := 75) dX8_taken_70 (by decide) ?_
            exact w_ri rfl dX8_taken_75 (zw_zg _ _ _) h
      · have h := h.1 q
        refine w_bipush dX8_taken_29 (by decide) ?_
        exact w_ri rfl dX8_taken_31 zq_m11 h
    · have h := h.1 q
      refine w_iconst dX8_taken_17 ?_
      exact w_ri rfl dX8_taken_18 zq_m1 h
