theorem e_X7_person {d : Nat} {Q : Int → zM → Prop} {M : zM} (v1 : Int) (v2 : Int) (h : wp (Ev d) 7 cX7_person (some .int) Q 0 [some (.ref 64), some (zI v1), some (zI v2)] [] M) : Ev (d + 1) mX7_person [.ref 64, zI v1, zI v2] M Q := ⟨kX7_person, Nat.le_of_ble_eq_true rfl, h⟩
theorem v_X7_person_0 {E : zE} {Q : Int → zM → Prop} {M : zM} (v1 : Int) (v2 : Int)  (h : E mX7_mayLive [zI v1, zI v2] M (fun r1 M2 => (zw r1 = 0 → (Q (-1) M2)) ∧ (¬ zw r1 = 0 → (E mX4_come [.ref 192, zI v1, zI v2, zI (-1)] M2 (fun r3 M4 => Q (zw r3) M4))))) : wp E 7 cX7_person (some .int) Q 0 [some (.ref 64), some (zI v1), some (zI v2)] [] M := by
  refine w_iload_n dX7_person_0 rfl ?_
  refine w_iload_n dX7_person_1 rfl ?_
  refine w_invSi [_, _] dX7_person_2 l7_72 kX7_mayLive rfl rfl (Nat.le_of_ble_eq_true rfl) (Or.inr rfl) h (fun r1 M2 h => ?_)
  refine w_if_ne (tgt := 10) dX7_person_5 (by decide) rfl (fun q => ?_) (fun q => ?_)
  · have h := h.2 q
    refine w_aload_n dX7_person_10 rfl ?_
    refine w_gfO (ci := 7) (k := 1) (q := 192) dX7_person_11 f7_21 ob_64 rfl rfl ?_
    refine w_iload_n dX7_person_14 rfl ?_
    refine w_iload_n dX7_person_15 rfl ?_
    refine w_iconst dX7_person_16 ?_
    refine w_invVi [_, _, _] dX7_person_17 l7_76 kX4_come rfl rfl (Nat.le_of_ble_eq_true rfl) (Or.inl rfl) ob_192 h (fun r3 M4 h => ?_)
    exact w_ri rfl dX7_person_20 rfl h
  · have h := h.1 q
    refine w_iconst dX7_person_8 ?_
    exact w_ri rfl dX7_person_9 zq_m1 h
theorem e_X7_people {d : Nat} {Q : Int → zM → Prop} {M : zM} (v1 : Int) (v2 : Int) (v3 : Int) (h : wp (Ev d) 7 cX7_people (some .int) Q 0 [some (.ref 64), some (zI v1), some (zI v2), some (zI v3), none, none] [] M) : Ev (d + 1) mX7_people [.ref 64, zI v1, zI v2, zI v3] M Q := ⟨kX7_people, Nat.le_of_ble_eq_true rfl, h⟩
theorem v_X7_people_0 {E : zE} {Q : Int → zM → Prop} {M : zM} (v1 : Int) (v2 : Int) (v3 : Int)  (h : E mX7_isShelf [zI v1] M (fun r1 M2 => (zw r1 = 0 → (Q (-1) M2)) ∧ (¬ zw r1 = 0 → ((zw v3 < 1 → (Q (-1) M2)) ∧ (¬ zw v3 < 1 → ((12 < zw v3 → (Q (-1) M2)) ∧ (¬ 12 < zw v3 → ((0 ≤ zw v1) ∧ ((zw v1 < 6) ∧ (E mX6_isEmpty [.ref (640 + 64 * (zw v1).toNat)] M2 (fun r5 M6 => (zw r5 = 0 → (E mX6_isRow [.ref (640 + 64 * (zw v1).toNat)] M6 (fun r7 M8 => (zw r7 = 0 → (Q (-12) M8)) ∧ (¬ zw r7 = 0 → ((zg M8 (640 + 64 * (zw v1).toNat) 2 = 0 → (wp E 7 cX7_people (some .int) Q 60 [some (.ref 64), none, some (zI v2), some (zI v3), some (.ref (640 + 64 * (zw v1).toNat)), some (zI 0)] [] M8)) ∧ (¬ zg M8 (640 + 64 * (zw v1).toNat) 2 = 0 → (Q (-12) M8))))))) ∧ (¬ zw r5 = 0 → (Q 0 M6))))))))))))) : wp E 7 cX7_people (some .int) Q 0 [some (.ref 64), some (zI v1), some (zI v2), some (zI v3), none, none] [] M := by
  refine w_iload_n dX7_people_0 rfl ?_
  refine w_invSi [_] dX7_people_1 l7_80 kX7_isShelf rfl rfl (Nat.le_of_ble_eq_true rfl) (Or.inr rfl) h (fun r1 M2 h => ?_)
  refine w_if_eq (tgt := 18) dX7_people_4 (by decide) rfl (fun q => ?_) (fun q => ?_)
  · have h := h.1 q
    refine w_iconst dX7_people_18 ?_
    exact w_ri rfl dX7_people_19 zq_m1 h
  · have h := h.2 q
    refine w_iload_n dX7_people_7 rfl ?_
    refine w_iconst dX7_people_8 ?_
    refine w_icmp_lt (tgt := 18) dX7_people_9 (by decide) rfl zq_1 (fun q => ?_) (fun q => ?_)
    · have h := h.1 q
      refine w_iconst dX7_people_18 ?_
      exact w_ri rfl dX7_people_19 zq_m1 h
    · have h := h.2 q
      refine w_iload_n dX7_people_12 rfl ?_
      refine w_bipush dX7_people_13 (by decide) ?_
      refine w_icmp_le (tgt := 20) dX7_people_15 (by decide) rfl zq_12 (fun q => ?_) (fun q => ?_)
      · have h := h.2 q
        refine w_aload_n dX7_people_20 rfl ?_
        refine w_gfA (ci := 7) (k := 6) dX7_people_21 f7_59 ob_64 rfl ?_
        refine w_iload_n dX7_people_24 rfl ?_
        obtain ⟨c3, h⟩ := h
        obtain ⟨c4, h⟩ := h
        refine w_aald dX7_people_25 rfl (a7_6 ob_64) c3 c4 ?_
        refine w_astore dX7_people_26 (Nat.le_of_ble_eq_true rfl) rfl ?_
        refine w_aload dX7_people_28 rfl ?_
        refine w_invVi [] dX7_people_30 l7_84 kX6_isEmpty rfl rfl (Nat.le_of_ble_eq_true rfl) (Or.inr rfl) (ob_sh (zsh c3 c4)) h (fun r5 M6 h => ?_)
        refine w_if_eq (tgt := 38) dX7_people_33 (by decide) rfl (fun q => ?_) (fun q => ?_)
        · have h := h.1 q
          refine w_aload dX7_people_38 rfl ?_
          refine w_invVi [] dX7_people_40 l7_88 kX6_isRow rfl rfl (Nat.le_of_ble_eq_true rfl) (Or.inr rfl) (ob_sh (zsh c3 c4)) h (fun r7 M8 h => ?_)
          refine w_if_eq (tgt := 54) dX7_people_43 (by decide) rfl (fun q => ?_) (fun q => ?_)
          · have h := h.1 q
            refine w_bipush dX7_people_54 (by decide) ?_
            exact w_ri rfl dX7_people_56 zq_m12 h
          · have h := h.2 q
            refine w_aload dX7_people_46 rfl ?_
            refine w_gfI (ci := 6) (k := 2) dX7_people_48 f7_91 (ob_sh (zsh c3 c4)) rfl ?_
            refine w_if_eq (tgt := 57) dX7_people_51 (by decide) (zw_zg _ _ _) (fun q => ?_) (fun q => ?_)
            · have h := h.1 q
              refine w_iconst dX7_people_57 ?_
              refine w_istore dX7_people_58 (Nat.le_of_ble_eq_true rfl) rfl ?_
              exact w_fgt (fgk (fgd (fgk (fgk (fgk (fgk (fgn))))))) h
            · have h := h.2 q
              refine w_bipush dX7_people_54 (by decide) ?_
              exact w_ri rfl dX7_people_56 zq_m12 h
        · have h := h.2 q
          refine w_iconst dX7_people_36 ?_
          exact w_ri rfl dX7_people_37 zq_0 h
      · have h := h.1 q
        refine w_iconst dX7_people_18 ?_
        exact w_ri rfl dX7_people_19 zq_m1 h
theorem v_X7_people_60 {E : zE} {Q : Int → zM → Prop} {M : zM} (v2 : Int) (v3 : Int) (pv4 : Nat) (v5 : Int) (h_pv4 : zob pv4 6) (h : (zw v5 < zw v3 → (E mX7_comesFrom [.ref 64, .ref pv4, zI v2, zI v5] M (fun r1 M2 => (zw r1 = 0 → (Q (zw v5) M2)) ∧ (¬ zw r1 = 0 → (wp E 7 cX7_people (some .int) Q 60 [some (.ref 64), none, some (zI v2), some (zI v3), some (.ref pv4), some (zI (v5 + 1))] [] M2))))) ∧ (¬ zw v5 < zw v3 → (Q (zw v3) M))) : wp E 7 cX7_people (some .int) Q 60 [some (.ref 64), none, some (zI v2), some (zI v3), some (.ref pv4), some (zI v5)] [] M := by
  refine w_iload dX7_people_60 rfl ?_
  refine w_iload_n dX7_people_62 rfl ?_
  refine w_icmp_ge (tgt := 87) dX7_people_63 (by decide) rfl rfl (fun q => ?_) (fun q => ?_)
  · have h := h.2 q
    refine w_iload_n dX7_people_87 rfl ?_
    exact w_ri rfl dX7_people_88 rfl h
  · have h := h.1 q
    refine w_aload_n dX7_people_66 rfl ?_
    refine w_aload dX7_people_67 rfl ?_
    refine w_iload_n dX7_people_69 rfl ?_
    refine w_iload dX7_people_70 rfl ?_
    refine w_invVi [_, _, _] dX7_people_72 l7_94 kX7_comesFrom rfl rfl (Nat.le_of_ble_eq_true rfl) (Or.inr rfl) ob_64 h (fun r1 M2 h => ?_)
    refine w_if_ne (tgt := 81) dX7_people_75 (by decide) rfl (fun q => ?_) (fun q => ?_)
    · have h := h.2 q
      refine w_iinc dX7_people_81 rfl rfl ?_
      refine w_goto (tgt := 60) dX7_people_84 (by decide) ?_
      exact w_fgt (fgk (fgd (fgk (fgk (fgk (fgk (fgn))))))) h
    · have h := h.1 q
      refine w_iload dX7_people_78 rfl ?_
      exact w_ri rfl dX7_people_80 rfl h
theorem e_X7_meet {d : Nat} {Q : Int → zM → Prop} {M : zM} (v1 : Int) (v2 : Int) (h : wp (Ev d) 7 cX7_meet (some .int) Q 0 [some (.ref 64), some (zI v1), some (zI v2)] [] M) : Ev (d + 1) mX7_meet [.ref 64, zI v1, zI v2] M Q := ⟨kX7_meet, Nat.le_of_ble_eq_true rfl, h⟩
theorem v_X7_meet_0 {E : zE} {Q : Int → zM → Prop} {M : zM} (v1 : Int) (v2 : Int)  (h : (zw v1 < 0 → (Q (-1) M)) ∧ (¬ zw v1 < 0 → (E mX4_mayMeet [.ref 192, zI (z_div v1 100), zI (z_rem v1 100), zI v2] M (fun r1 M2 => (zw r1 = 0 → (Q (-1) M2)) ∧ (¬ zw r1 = 0 → (E mX4_addMeeting [.ref 192, zI (z_div v1 100), zI (z_rem v1 100), zI v2] M2 (fun r3 M4 => Q (zw r3) M4))))))) : wp E 7 cX7_meet (some .int) Q 0 [some (.ref 64), some (zI v1), some (zI v2)] [] M := by
  refine w_iload_n dX7_meet_0 rfl ?_
  refine w_if_lt (tgt := 23) dX7_meet_1 (by decide) rfl (fun q => ?_) (fun q => ?_)
  · have h := h.1 q
    refine w_iconst dX7_meet_23 ?_
    exact w_ri rfl dX7_meet_24 zq_m1 h
  · have h := h.2 q
    refine w_aload_n dX7_meet_4 rfl ?_
    refine w_gfO (ci := 7) (k := 1) (q := 192) dX7_meet_5 f7_21 ob_64 rfl rfl ?_
    refine w_iload_n dX7_meet_8 rfl ?_
    refine w_bipush dX7_meet_9 (by decide) ?_
    refine w_idiv dX7_meet_11 (by decide) ?_
    refine w_iload_n dX7_meet_12 rfl ?_
    refine w_bipush dX7_meet_13 (by decide) ?_
    refine w_irem dX7_meet_15 (by decide) ?_
    refine w_iload_n dX7_meet_16 rfl ?_
    refine w_invVi [_, _, _] dX7_meet_17 l7_98 kX4_mayMeet rfl rfl (Nat.le_of_ble_eq_true rfl) (Or.inr rfl) ob_192 h (fun r1 M2 h => ?_)
    refine w_if_ne (tgt := 25) dX7_meet_20 (by decide) rfl (fun q => ?_) (fun q => ?_)
    · have h := h.2 q
      refine w_aload_n dX7_meet_25 rfl ?_
      refine w_gfO (ci := 7) (k := 1) (q := 192) dX7_meet_26 f7_21 ob_64 rfl rfl ?_
      refine w_iload_n dX7_meet_29 rfl ?_
      refine w_bipush dX7_meet_30 (by decide) ?_
      refine w_idiv dX7_meet_32 (by decide) ?_
      refine w_iload_n dX7_meet_33 rfl ?_
      refine w_bipush dX7_meet_34 (by decide) ?_
      refine w_irem dX7_meet_36 (by decide) ?_
      refine w_iload_n dX7_meet_37 rfl ?_
      refine w_invVi [_, _, _] dX7_meet_38 l7_102 kX4_addMeeting rfl rfl (Nat.le_of_ble_eq_true rfl) (Or.inl rfl) ob_192 h (fun r3 M4 h => ?_)
      exact w_ri rfl dX7_meet_41 rfl h
    · have h := h.1 q
      refine w_iconst dX7_meet_23 ?_
      exact w_ri rfl dX7_meet_24 zq_m1 h
theorem e_X7_hearing {d : Nat} {Q : Int → zM → Prop} {M : zM} (v1 : Int) (h : wp (Ev d) 7 cX7_hearing (some .int) Q 0 [some (.ref 64), some (zI v1), none] [] M) : Ev (d + 1) mX7_hearing [.ref 64, zI v1] M Q := ⟨kX7_hearing, Nat.le_of_ble_eq_true rfl, h⟩
theorem v_X7_hearing_0 {E : zE} {Q : Int → zM → Prop} {M : zM} (v1 : Int)  (h : (zw v1 = 0 → (wp E 7 cX7_hearing (some .int) Q 11 [some (.ref 64), some (zI v1), none] [] M)) ∧ (¬ zw v1 = 0 → ((zw v1 = 1 → (wp E 7 cX7_hearing (some .int) Q 11 [some (.ref 64), some (zI v1), none] [] M)) ∧ (¬ zw v1 = 1 → (Q (-1) M))))) : wp E 7 cX7_hearing (some .int) Q 0 [some (.ref 64), some (zI v1), none] [] M := by
  refine w_iload_n dX7_hearing_0 rfl ?_
  refine w_if_eq (tgt := 11) dX7_hearing_1 (by decide) rfl (fun q => ?_) (fun q => ?_)
  · have h := h.1 q
    exact w_fgt (fgk (fgk (fgd (fgn)))) h
  · have h := h.2 q
    refine w_iload_n dX7_hearing_4 rfl ?_
    refine w_iconst dX7_hearing_5 ?_
    refine w_icmp_eq (tgt := 11) dX7_hearing_6 (by decide) rfl zq_1 (fun q => ?_) (fun q => ?_)
    · have h := h.1 q
      exact w_fgt (fgk (fgk (fgd (fgn)))) h
    · have h := h.2 q
      refine w_iconst dX7_hearing_9 ?_
      exact w_ri rfl dX7_hearing_10 zq_m1 h
theorem v_X7_hearing_11 {E : zE} {Q : Int → zM → Prop} {M : zM} (v1 : Int)  (h : ∀ M1 : zM, M1 = zs M 192 11 v1 → (Q (zg M 192 11) M1)) : wp E 7 cX7_hearing (some .int) Q 11 [some (.ref 64), some (zI v1), none] [] M := by
  refine w_aload_n dX7_hearing_11 rfl ?_
  refine w_gfO (ci := 7) (k := 1) (q := 192) dX7_hearing_12 f7_21 ob_64 rfl rfl ?_
  refine w_gfI (ci := 4) (k := 11) dX7_hearing_15 f7_105 ob_192 rfl ?_
  refine w_istore_n dX7_hearing_18 (Nat.le_of_ble_eq_true rfl) rfl ?_
  refine w_aload_n dX7_hearing_19 rfl ?_
  refine w_gfO (ci := 7) (k := 1) (q := 192) dX7_hearing_20 f7_21 ob_64 rfl rfl ?_
  refine w_iload_n dX7_hearing_23 rfl ?_
  have h := h _ rfl
  refine w_pfI (ci := 4) (k := 11) dX7_hearing_24 f7_105 ob_192 rfl rfl rfl ?_
  refine w_iload_n dX7_hearing_27 rfl ?_
  exact w_ri rfl dX7_hearing_28 (zw_zg _ _ _) h
theorem e_X7_name {d : Nat} {Q : Int → zM → Prop} {M : zM} (v1 : Int) (v2 : Int) (h : wp (Ev d) 7 cX7_name (some .int) Q 0 [some (.ref 64), some (zI v1), some (zI v2), none] [] M) : Ev (d + 1) mX7_name [.ref 64, zI v1, zI v2] M Q := ⟨kX7_name, Nat.le_of_ble_eq_true rfl, h⟩
theorem v_X7_name_0 {E : zE} {Q : Int → zM → Prop} {M : zM} (v1 : Int) (v2 : Int)  (h : E mX4_hasPerson [.ref 192, zI v1] M (fun r1 M2 => (zw r1 = 0 → (Q (-2000000000) M2)) ∧ (¬ zw r1 = 0 → (E mX7_mayBeNamed [zI v2] M2 (fun r3 M4 => (zw r3 = 0 → (Q (-2000000000) M4)) ∧ (¬ zw r3 = 0 → ((0 ≤ zw v1) ∧ ((zw v1 < 12) ∧ ((0 ≤ zw v1) ∧ ((zw v1 < 12) ∧ (∀ M9 : zM, M9 = zs M4 196 (zw v1).toNat v2 → (Q (zg M4 196 (zw v1).toNat) M9)))))))))))) : wp E 7 cX7_name (some .int) Q 0 [some (.ref 64), some (zI v1), some (zI v2), none] [] M := by
  refine w_aload_n dX7_name_0 rfl ?_
  refine w_gfO (ci := 7) (k := 1) (q := 192) dX7_name_1 f7_21 ob_64 rfl rfl ?_
  refine w_iload_n dX7_name_4 rfl ?_
  refine w_invVi [_] dX7_name_5 l7_108 kX4_hasPerson rfl rfl (Nat.le_of_ble_eq_true rfl) (Or.inr rfl) ob_192 h (fun r1 M2 h => ?_)
  refine w_if_eq (tgt := 18) dX7_name_8 (by decide) rfl (fun q => ?_) (fun q => ?_)
  · have h := h.1 q
    refine w_ldc (n := -2000000000) dX7_name_18 o7_114 ?_
    exact w_ri rfl dX7_name_20 zq_m2000000000 h
  · have h := h.2 q
    refine w_iload_n dX7_name_11 rfl ?_
    refine w_invSi [_] dX7_name_12 l7_111 kX7_mayBeNamed rfl rfl (Nat.le_of_ble_eq_true rfl) (Or.inr rfl) h (fun r3 M4 h => ?_)
    refine w_if_ne (tgt := 21) dX7_name_15 (by decide) rfl (fun q => ?_) (fun q => ?_)
    · have h := h.2 q
      refine w_aload_n dX7_name_21 rfl ?_
      refine w_gfO (ci := 7) (k := 1) (q := 192) dX7_name_22 f7_21 ob_64 rfl rfl ?_
      refine w_gfA (ci := 4) (k := 3) dX7_name_25 f7_115 ob_192 rfl ?_
      refine w_iload_n dX7_name_28 rfl ?_
      obtain ⟨c5, h⟩ := h
      obtain ⟨c6, h⟩ := h
      refine w_iald dX7_name_29 rfl (a4_3 ob_192) c5 c6 ?_
      refine w_istore_n dX7_name_30 (Nat.le_of_ble_eq_true rfl) rfl ?_
      refine w_aload_n dX7_name_31 rfl ?_
      refine w_gfO (ci := 7) (k := 1) (q := 192) dX7_name_32 f7_21 ob_64 rfl rfl ?_
      refine w_gfA (ci := 4) (k := 3) dX7_name_35 f7_115 ob_192 rfl ?_
      refine w_iload_n dX7_name_38 rfl ?_
      refine w_iload_n dX7_name_39 rfl ?_
      obtain ⟨c7, h⟩ := h
      obtain ⟨c8, h⟩ := h
      have h := h _ rfl
      refine w_iast dX7_name_40 rfl (a4_3 ob_192) c7 c8 ?_
      refine w_iload_n dX7_name_41 rfl ?_
      exact w_ri rfl dX7_name_42 (zw_zg _ _ _) h
    · have h := h.1 q
      refine w_ldc (n := -2000000000) dX7_name_18 o7_114 ?_
      exact w_ri rfl dX7_name_20 zq_m2000000000 h
theorem e_X7_fame {d : Nat} {Q : Int → zM → Prop} {M : zM} (v1 : Int) (v2 : Int) (h : wp (Ev d) 7 cX7_fame (some .int) Q 0 [some (.ref 64), some (zI v1), some (zI v2), none] [] M) : Ev (d + 1) mX7_fame [.ref 64, zI v1, zI v2] M Q := ⟨kX7_fame, Nat.le_of_ble_eq_true rfl, h⟩
theorem v_X7_fame_0 {E : zE} {Q : Int → zM → Prop} {M : zM} (v1 : Int) (v2 : Int)  (h : E mX7_isName [zI v1] M (fun r1 M2 => (zw r1 = 0 → (Q (-1) M2)) ∧ (¬ zw r1 = 0 → ((zw v2 = 0 → (wp E 7 cX7_fame (some .int) Q 18 [some (.ref 64), some (zI v1), some (zI v2), none] [] M2)) ∧ (¬ zw v2 = 0 → ((zw v2 = 1 → (wp E 7 cX7_fame (some .int) Q 18 [some (.ref 64), some (zI v1), some (zI v2), none] [] M2)) ∧ (¬ zw v2 = 1 → (Q (-1) M2)))))))) : wp E 7 cX7_fame (some .int) Q 0 [some (.ref 64), some (zI v1), some (zI v2), none] [] M := by
  refine w_iload_n dX7_fame_0 rfl ?_
  refine w_invSi [_] dX7_fame_1 l7_118 kX7_isName rfl rfl (Nat.le_of_ble_eq_true rfl) (Or.inr rfl) h (fun r1 M2 h => ?_)
  refine w_if_eq (tgt := 16) dX7_fame_4 (by decide) rfl (fun q => ?_) (fun q => ?_)
  · have h := h.1 q
    refine w_iconst dX7_fame_16 ?_
    exact w_ri rfl dX7_fame_17 zq_m1 h
  · have h := h.2 q
    refine w_iload_n dX7_fame_7 rfl ?_
    refine w_if_eq (tgt := 18) dX7_fame_8 (by decide) rfl (fun q => ?_) (fun q => ?_)
    · have h := h.1 q
      exact w_fgt (fgk (fgk (fgk (fgd (fgn))))) h
    · have h := h.2 q
      refine w_iload_n dX7_fame_11 rfl ?_
      refine w_iconst dX7_fame_12 ?_
      refine w_icmp_eq (tgt := 18) dX7_fame_13 (by decide) rfl zq_1 (fun q => ?_) (fun q => ?_)
      · have h := h.1 q
        exact w_fgt (fgk (fgk (fgk (fgd (fgn))))) h
      · have h := h.2 q
        refine w_iconst dX7_fame_16 ?_
        exact w_ri rfl dX7_fame_17 zq_m1 h
theorem v_X7_fame_18 {E : zE} {Q : Int → zM → Prop} {M : zM} (v1 : Int) (v2 : Int)  (h : (0 ≤ zw v1) ∧ ((zw v1 < 12) ∧ ((0 ≤ zw v1) ∧ ((zw v1 < 12) ∧ (∀ M5 : zM, M5 = zs M 206 (zw v1).toNat v2 → (Q (zg M 206 (zw v1).toNat) M5)))))) : wp E 7 cX7_fame (some .int) Q 18 [some (.ref 64), some (zI v1), some (zI v2), none] [] M := by
  refine w_aload_n dX7_fame_18 rfl ?_
  refine w_gfO (ci := 7) (k := 1) (q := 192) dX7_fame_19 f7_21 ob_64 rfl rfl ?_
  refine w_gfA (ci := 4) (k := 13) dX7_fame_22 f7_121 ob_192 rfl ?_
  refine w_iload_n dX7_fame_25 rfl ?_
  obtain ⟨c1, h⟩ := h
  obtain ⟨c2, h⟩ := h
  refine w_iald dX7_fame_26 rfl (a4_13 ob_192) c1 c2 ?_
  refine w_istore_n dX7_fame_27 (Nat.le_of_ble_eq_true rfl) rfl ?_
  refine w_aload_n dX7_fame_28 rfl ?_
  refine w_gfO (ci := 7) (k := 1) (q := 192) dX7_fame_29 f7_21 ob_64 rfl rfl ?_
  refine w_gfA (ci := 4) (k := 13) dX7_fame_32 f7_121 ob_192 rfl ?_
  refine w_iload_n dX7_fame_35 rfl ?_
  refine w_iload_n dX7_fame_36 rfl ?_
  obtain ⟨c3, h⟩ := h
  obtain ⟨c4, h⟩ := h
  have h := h _ rfl
  refine w_iast dX7_fame_37 rfl (a4_13 ob_192) c3 c4 ?_
  refine w_iload_n dX7_fame_38 rfl ?_
  exact w_ri rfl dX7_fame_39 (zw_zg _ _ _) h
theorem e_X7_mend {d : Nat} {Q : Int → zM → Prop} {M : zM} (v1 : Int) (v2 : Int) (v3 : Int) (h : wp (Ev d) 7 cX7_mend (some .int) Q 0 [some (.ref 64), some (zI v1), some (zI v2), some (zI v3), none, none] [] M) : Ev (d + 1) mX7_mend [.ref 64, zI v1, zI v2, zI v3] M Q := ⟨kX7_mend, Nat.le_of_ble_eq_true rfl, h⟩
theorem v_X7_mend_0 {E : zE} {Q : Int → zM → Prop} {M : zM} (v1 : Int) (v2 : Int) (v3 : Int)  (h : E mX7_mayMend [.ref 64, zI v1, zI v2, zI v3] M (fun r1 M2 => (zw r1 = 0 → (Q (-1) M2)) ∧ (¬ zw r1 = 0 → ((zw v2 = 0 → (wp E 7 cX7_mend (some .int) Q 33 [some (.ref 64), some (zI v1), some (zI v2), some (zI v3), none, none] [.ref 195] M2)) ∧ (¬ zw v2 = 0 → (wp E 7 cX7_mend (some .int) Q 33 [some (.ref 64), some (zI v1), some (zI v2), some (zI v3), none, none] [.ref 205] M2)))))) : wp E 7 cX7_mend (some .int) Q 0 [some (.ref 64), some (zI v1), some (zI v2), some (zI v3), none, none] [] M := by
  refine w_aload_n dX7_mend_0 rfl ?_
  refine w_iload_n dX7_mend_1 rfl ?_
  refine w_iload_n dX7_mend_2 rfl ?_
  refine w_iload_n dX7_mend_3 rfl ?_
  refine w_invVi [_, _, _] dX7_mend_4 l7_124 kX7_mayMend rfl rfl (Nat.le_of_ble_eq_true rfl) (Or.inr rfl) ob_64 h (fun r1 M2 h => ?_)
  refine w_if_ne (tgt := 12) dX7_mend_7 (by decide) rfl (fun q => ?_) (fun q => ?_)
  · have h := h.2 q
    refine w_iload_n dX7_mend_12 rfl ?_
    refine w_if_ne (tgt := 26) dX7_mend_13 (by decide) rfl (fun q => ?_) (fun q => ?_)
    · have h := h.2 q
      refine w_aload_n dX7_mend_26 rfl ?_
      refine w_gfO (ci := 7) (k := 1) (q := 192) dX7_mend_27 f7_21 ob_64 rfl rfl ?_
      refine w_gfA (ci := 4) (k := 12) dX7_mend_30 f7_130 ob_192 rfl ?_
      exact w_fgt (fgk (fgk (fgk (fgk (fgd (fgd (fgn))))))) h
    · have h := h.1 q
      refine w_aload_n dX7_mend_16 rfl ?_
      refine w_gfO (ci := 7) (k := 1) (q := 192) dX7_mend_17 f7_21 ob_64 rfl rfl ?_
      refine w_gfA (ci := 4) (k := 2) dX7_mend_20 f7_127 ob_192 rfl ?_
      refine w_goto (tgt := 33) dX7_mend_23 (by decide) ?_
      exact w_fgt (fgk (fgk (fgk (fgk (fgd (fgd (fgn))))))) h
  · have h := h.1 q
    refine w_iconst dX7_mend_10 ?_
    exact w_ri rfl dX7_mend_11 zq_m1 h
theorem v_X7_mend_33 {E : zE} {Q : Int → zM → Prop} {M : zM} (v1 : Int) (v2 : Int) (v3 : Int) (ps0 : Nat) (h_ps0 : zar ps0 .int 12) (h : (0 ≤ zw v1) ∧ ((zw v1 < 12) ∧ ((zg M ps0 (zw v1).toNat = zw v3 → (Q (zg M ps0 (zw v1).toNat) M)) ∧ (¬ zg M ps0 (zw v1).toNat = zw v3 → ((0 ≤ zw v1) ∧ ((zw v1 < 12) ∧ (∀ M5 : zM, M5 = zs M ps0 (zw v1).toNat v3 → (E mX0_add [.ref 448, zI v2, zI v1, zI (zg M ps0 (zw v1).toNat), zI v3] M5 (fun r6 M7 => Q (zg M ps0 (zw v1).toNat) M7))))))))) : wp E 7 cX7_mend (some .int) Q 33 [some (.ref 64), some (zI v1), some (zI v2), some (zI v3), none, none] [.ref ps0] M := by
  refine w_astore dX7_mend_33 (Nat.le_of_ble_eq_true rfl) rfl ?_
  refine w_aload dX7_mend_35 rfl ?_
  refine w_iload_n dX7_mend_37 rfl ?_
  obtain ⟨c1, h⟩ := h
  obtain ⟨c2, h⟩ := h
  refine w_iald dX7_mend_38 rfl h_ps0 c1 c2 ?_
  refine w_istore dX7_mend_39 (Nat.le_of_ble_eq_true rfl) rfl ?_
  refine w_iload dX7_mend_41 rfl ?_
  refine w_iload_n dX7_mend_43 rfl ?_
  refine w_icmp_eq (tgt := 64) dX7_mend_44 (by decide) (zw_zg _ _ _) rfl (fun q => ?_) (fun q => ?_)
  · have h := h.1 q
    refine w_iload dX7_mend_64 rfl ?_
    exact w_ri rfl dX7_mend_66 (zw_zg _ _ _) h
  · have h := h.2 q
    refine w_aload dX7_mend_47 rfl ?_
    refine w_iload_n dX7_mend_49 rfl ?_
    refine w_iload_n dX7_mend_50 rfl ?_
    obtain ⟨c3, h⟩ := h
    obtain ⟨c4, h⟩ := h
    have h := h _ rfl
    refine w_iast dX7_mend_51 rfl h_ps0 c3 c4 ?_
    refine w_aload_n dX7_mend_52 rfl ?_
    refine w_gfO (ci := 7) (k := 4) (q := 448) dX7_mend_53 f7_46 ob_64 rfl rfl ?_
    refine w_iload_n dX7_mend_56 rfl ?_
    refine w_iload_n dX7_mend_57 rfl ?_
    refine w_iload dX7_mend_58 rfl ?_
    refine w_iload_n dX7_mend_60 rfl ?_
    refine w_invVv [_, _, _, _] dX7_mend_61 l7_133 kX0_add rfl rfl (Nat.le_of_ble_eq_true rfl) rfl ob_448 h (fun r6 M7 h => ?_)
    refine w_iload dX7_mend_64 rfl ?_
    exact w_ri rfl dX7_mend_66 (zw_zg _ _ _) h
theorem e_X7_of {d : Nat} {Q : Int → zM → Prop} {M : zM} (v1 : Int) (v2 : Int) (h : wp (Ev d) 7 cX7_of (some .int) Q 0 [some (.ref 64), some (zI v1), some (zI v2)] [] M) : Ev (d + 1) mX7_of [.ref 64, zI v1, zI v2] M Q := ⟨kX7_of, Nat.le_of_ble_eq_true rfl, h⟩
theorem v_X7_of_0 {E : zE} {Q : Int → zM → Prop} {M : zM} (v1 : Int) (v2 : Int)  (h : (zw v2 < 10 → (E mX4_hasPerson [.ref 192, zI v1] M (fun r9 M10 => (zw r9 = 0 → (Q (-2000000000) M10)) ∧ (¬ zw r9 = 0 → (E mX7_ofPerson [.ref 64, zI v1, zI v2] M10 (fun r11 M12 => Q (zw r11) M12)))))) ∧ (¬ zw v2 < 10 → ((zw v2 < 20 → (E mX7_isName [zI v1] M (fun r5 M6 => (zw r5 = 0 → (Q (-2000000000) M6)) ∧ (¬ zw r5 = 0 → (E mX7_ofName [.ref 64, zI v1, zI v2] M6 (fun r7 M8 => Q (zw r7) M8)))))) ∧ (¬ zw v2 < 20 → (E mX4_hasMeeting [.ref 192, zI v1] M (fun r1 M2 => (zw r1 = 0 → (Q (-2000000000) M2)) ∧ (¬ zw r1 = 0 → (E mX7_ofMeeting [.ref 64, zI v1, zI v2] M2 (fun r3 M4 => Q (zw r3) M4))))))))) : wp E 7 cX7_of (some .int) Q 0 [some (.ref 64), some (zI v1), some (zI v2)] [] M := by
  refine w_iload_n dX7_of_0 rfl ?_
  refine w_bipush dX7_of_1 (by decide) ?_
  refine w_icmp_ge (tgt := 29) dX7_of_3 (by decide) rfl zq_10 (fun q => ?_) (fun q => ?_)
  · have h := h.2 q
    refine w_iload_n dX7_of_29 rfl ?_
    refine w_bipush dX7_of_30 (by decide) ?_
    refine w_icmp_ge (tgt := 54) dX7_of_32 (by decide) rfl zq_20 (fun q => ?_) (fun q => ?_)
    · have h := h.2 q
      refine w_aload_n dX7_of_54 rfl ?_
      refine w_gfO (ci := 7) (k := 1) (q := 192) dX7_of_55 f7_21 ob_64 rfl rfl ?_
      refine w_iload_n dX7_of_58 rfl ?_
      refine w_invVi [_] dX7_of_59 l7_144 kX4_hasMeeting rfl rfl (Nat.le_of_ble_eq_true rfl) (Or.inr rfl) ob_192 h (fun r1 M2 h => ?_)
      refine w_if_eq (tgt := 74) dX7_of_62 (by decide) rfl (fun q => ?_) (fun q => ?_)
      · have h := h.1 q
        refine w_ldc (n := -2000000000) dX7_of_74 o7_114 ?_
        exact w_ri rfl dX7_of_76 zq_m2000000000 h
      · have h := h.2 q
        refine w_aload_n dX7_of_65 rfl ?_
        refine w_iload_n dX7_of_66 rfl ?_
        refine w_iload_n dX7_of_67 rfl ?_
        refine w_invVi [_, _] dX7_of_68 l7_147 kX7_ofMeeting rfl rfl (Nat.le_of_ble_eq_true rfl) (Or.inl rfl) ob_64 h (fun r3 M4 h => ?_)
        refine w_goto (tgt := 76) dX7_of_71 (by decide) ?_
        exact w_ri rfl dX7_of_76 rfl h
    · have h := h.1 q
      refine w_iload_n dX7_of_35 rfl ?_
      refine w_invSi [_] dX7_of_36 l7_118 kX7_isName rfl rfl (Nat.le_of_ble_eq_true rfl) (Or.inr rfl) h (fun r5 M6 h => ?_)
      refine w_if_eq (tgt := 51) dX7_of_39 (by decide) rfl (fun q => ?_) (fun q => ?_)
      · have h := h.1 q
        refine w_ldc (n := -2000000000) dX7_of_51 o7_114 ?_
        exact w_ri rfl dX7_of_53 zq_m2000000000 h
      · have h := h.2 q
        refine w_aload_n dX7_of_42 rfl ?_
        refine w_iload_n dX7_of_43 rfl ?_
        refine w_iload_n dX7_of_44 rfl ?_
        refine w_invVi [_, _] dX7_of_45 l7_141 kX7_ofName rfl rfl (Nat.le_of_ble_eq_true rfl) (Or.inl rfl) ob_64 h (fun r7 M8 h => ?_)
        refine w_goto (tgt := 53) dX7_of_48 (by decide) ?_
        exact w_ri rfl dX7_of_53 rfl h
  · have h := h.1 q
    refine w_aload_n dX7_of_6 rfl ?_
    refine w_gfO (ci := 7) (k := 1) (q := 192) dX7_of_7 f7_21 ob_64 rfl rfl ?_
    refine w_iload_n dX7_of_10 rfl ?_
    refine w_invVi [_] dX7_of_11 l7_108 kX4_hasPerson rfl rfl (Nat.le_of_ble_eq_true rfl) (Or.inr rfl) ob_192 h (fun r9 M10 h => ?_)
    refine w_if_eq (tgt := 26) dX7_of_14 (by decide) rfl (fun q => ?_) (fun q => ?_)
    · have h := h.1 q
      refine w_ldc (n := -2000000000) dX7_of_26 o7_114 ?_
      exact w_ri rfl dX7_of_28 zq_m2000000000 h
    · have h := h.2 q
      refine w_aload_n dX7_of_17 rfl ?_
      refine w_iload_n dX7_of_18 rfl ?_
      refine w_iload_n dX7_of_19 rfl ?_
      refine w_invVi [_, _] dX7_of_20 l7_137 kX7_ofPerson rfl rfl (Nat.le_of_ble_eq_true rfl) (Or.inl rfl) ob_64 h (fun r11 M12 h => ?_)
      refine w_goto (tgt := 28) dX7_of_23 (by decide) ?_
      exact w_ri rfl dX7_of_28 rfl h
theorem e_X7_feed {d : Nat} {Q : Int → zM → Prop} {M : zM} (v1 : Int) (h : wp (Ev d) 7 cX7_feed (some .int) Q 0 [some (.ref 64), some (zI v1)] [] M) : Ev (d + 1) mX7_feed [.ref 64, zI v1] M Q := ⟨kX7_feed, Nat.le_of_ble_eq_true rfl, h⟩
theorem v_X7_feed_0 {E : zE} {Q : Int → zM → Prop} {M : zM} (v1 : Int)  (h : (zw v1 < 0 → (Q (-1) M)) ∧ (¬ zw v1 < 0 → ((255 < zw v1 → (Q (-1) M)) ∧ (¬ 255 < zw v1 → (E mX2_takeByte [.ref 128, zI v1] M (fun r1 M2 => Q (zw r1) M2)))))) : wp E 7 cX7_feed (some .int) Q 0 [some (.ref 64), some (zI v1)] [] M := by
  refine w_iload_n dX7_feed_0 rfl ?_
  refine w_if_lt (tgt := 11) dX7_feed_1 (by decide) rfl (fun q => ?_) (fun q => ?_)
  · have h := h.1 q
    refine w_iconst dX7_feed_11 ?_
    exact w_ri rfl dX7_feed_12 zq_m1 h
  · have h := h.2 q
    refine w_iload_n dX7_feed_4 rfl ?_
    refine w_sipush dX7_feed_5 (by decide) ?_
    refine w_icmp_le (tgt := 13) dX7_feed_8 (by decide) rfl zq_255 (fun q => ?_) (fun q => ?_)
    · have h := h.2 q
      refine w_aload_n dX7_feed_13 rfl ?_
      refine w_gfO (ci := 7) (k := 0) (q := 128) dX7_feed_14 f7_10 ob_64 rfl rfl ?_
      refine w_iload_n dX7_feed_17 rfl ?_
      refine w_invVi [_] dX7_feed_18 l7_150 kX2_takeByte rfl rfl (Nat.le_of_ble_eq_true rfl) (Or.inl rfl) ob_128 h (fun r1 M2 h => ?_)
      exact w_ri rfl dX7_feed_21 rfl h
    · have h := h.1 q
      refine w_iconst dX7_feed_11 ?_
      exact w_ri rfl dX7_feed_12 zq_m1 h
theorem e_X7_law {d : Nat} {Q : Int → zM → Prop} {M : zM}  (h : wp (Ev d) 7 cX7_law (some .int) Q 0 [some (.ref 64), none] [] M) : Ev (d + 1) mX7_law [.ref 64] M Q := ⟨kX7_law, Nat.le_of_ble_eq_true rfl, h⟩
theorem v_X7_law_0 {E : zE} {Q : Int → zM → Prop} {M : zM}   (h : E mX2_takeTape [.ref 128] M (fun r1 M2 => (zw r1 = (-1) → (Q 1 M2)) ∧ (¬ zw r1 = (-1) → (Q (zw ((-100) - r1)) M2)))) : wp E 7 cX7_law (some .int) Q 0 [some (.ref 64), none] [] M := by
  refine w_aload_n dX7_law_0 rfl ?_
  refine w_gfO (ci := 7) (k := 0) (q := 128) dX7_law_1 f7_10 ob_64 rfl rfl ?_
  refine w_invVi [] dX7_law_4 l7_154 kX2_takeTape rfl rfl (Nat.le_of_ble_eq_true rfl) (Or.inl rfl) ob_128 h (fun r1 M2 h => ?_)
  refine w_istore_n dX7_law_7 (Nat.le_of_ble_eq_true rfl) rfl ?_
  refine w_iload_n dX7_law_8 rfl ?_
  refine w_iconst dX7_law_9 ?_
  refine w_icmp_ne (tgt := 17) dX7_law_10 (by decide) rfl zq_m1 (fun q => ?_) (fun q => ?_)
  · have h := h.2 q
    refine w_bipush dX7_law_17 (by decide) ?_
    refine w_iload_n dX7_law_19 rfl ?_
    refine w_isub dX7_law_20 ?_
    exact w_ri rfl dX7_law_21 rfl h
  · have h := h.1 q
    refine w_iconst dX7_law_13 ?_
    refine w_goto (tgt := 21) dX7_law_14 (by decide) ?_
    exact w_ri rfl dX7_law_21 zq_1 h
theorem e_X7_knows {d : Nat} {Q : Int → zM → Prop} {M : zM} (v1 : Int) (v2 : Int) (h : wp (Ev d) 7 cX7_knows (some .int) Q 0 [some (.ref 64), some (zI v1), some (zI v2)] [] M) : Ev (d + 1) mX7_knows [.ref 64, zI v1, zI v2] M Q := ⟨kX7_knows, Nat.le_of_ble_eq_true rfl, h⟩
theorem v_X7_knows_0 {E : zE} {Q : Int → zM → Prop} {M : zM} (v1 : Int) (v2 : Int)  (h : E mX4_hasPerson [.ref 192, zI v1] M (fun r1 M2 => (zw r1 = 0 → (Q (-1) M2)) ∧ (¬ zw r1 = 0 → (E mX7_isYear [zI v2] M2 (fun r3 M4 => (zw r3 = 0 → (Q (-1) M4)) ∧ (¬ zw r3 = 0 → (E mX4_learnUpTo [.ref 192, zI v2] M4 (fun r5 M6 => (0 ≤ zw v1) ∧ ((zw v1 < 12) ∧ (Q (zg M6 207 (zw v1).toNat) M6)))))))))) : wp E 7 cX7_knows (some .int) Q 0 [some (.ref 64), some (zI v1), some (zI v2)] [] M := by
  refine w_aload_n dX7_knows_0 rfl ?_
  refine w_gfO (ci := 7) (k := 1) (q := 192) dX7_knows_1 f7_21 ob_64 rfl rfl ?_
  refine w_iload_n dX7_knows_4 rfl ?_
  refine w_invVi [_] dX7_knows_5 l7_108 kX4_hasPerson rfl rfl (Nat.le_of_ble_eq_true rfl) (Or.inr rfl) ob_192 h (fun r1 M2 h => ?_)
  refine w_if_eq (tgt := 18) dX7_knows_8 (by decide) rfl (fun q => ?_) (fun q => ?_)
  · have h := h.1 q
    refine w_iconst dX7_knows_18 ?_
    exact w_ri rfl dX7_knows_19 zq_m1 h
  · have h := h.2 q
    refine w_iload_n dX7_knows_11 rfl ?_
    refine w_invSi [_] dX7_knows_12 l7_158 kX7_isYear rfl rfl (Nat.le_of_ble_eq_true rfl) (Or.inr rfl) h (fun r3 M4 h => ?_)
    refine w_if_ne (tgt := 20) dX7_knows_15 (by decide) rfl (fun q => ?_) (fun q => ?_)
    · have h := h.2 q
      refine w_aload_n dX7_knows_20 rfl ?_
      refine w_gfO (ci := 7) (k := 1) (q := 192) dX7_knows_21 f7_21 ob_64 rfl rfl ?_
      refine w_iload_n dX7_knows_24 rfl ?_
      refine w_invVv [_] dX7_knows_25 l7_161 kX4_learnUpTo rfl rfl (Nat.le_of_ble_eq_true rfl) rfl ob_192 h (fun r5 M6 h => ?_)
      refine w_aload_n dX7_knows_28 rfl ?_
      refine w_gfO (ci := 7) (k := 1) (q := 192) dX7_knows_29 f7_21 ob_64 rfl rfl ?_
      refine w_gfA (ci := 4) (k := 14) dX7_knows_32 f7_165 ob_192 rfl ?_
      refine w_iload_n dX7_knows_35 rfl ?_
      obtain ⟨c7, h⟩ := h
      obtain ⟨c8, h⟩ := h
      refine w_iald dX7_knows_36 rfl (a4_14 ob_192) c7 c8 ?_
      exact w_ri rfl dX7_knows_37 (zw_zg _ _ _) h
    · have h := h.1 q
      refine w_iconst dX7_knows_18 ?_
      exact w_ri rfl dX7_knows_19 zq_m1 h
theorem e_X7_held {d : Nat} {Q : Int → zM → Prop} {M : zM} (v1 : Int) (v2 : Int) (v3 : Int) (h : wp (Ev d) 7 cX7_held (some .int) Q 0 [some (.ref 64), some (zI v1), some (zI v2), some (zI v3)] [] M) : Ev (d + 1) mX7_held [.ref 64, zI v1, zI v2, zI v3] M Q := ⟨kX7_held, Nat.le_of_ble_eq_true rfl, h⟩
theorem v_X7_held_0 {E : zE} {Q : Int → zM → Prop} {M : zM} (v1 : Int) (v2 : Int) (v3 : Int)  (h : E mX7_isName [zI v1] M (fun r1 M2 => (zw r1 = 0 → (Q (-1) M2)) ∧ (¬ zw r1 = 0 → (E mX7_isYear [zI v2] M2 (fun r3 M4 => (zw r3 = 0 → (Q (-1) M4)) ∧ (¬ zw r3 = 0 → ((zw v3 = 0 → (E mX4_heldIn [.ref 192, zI v2] M4 (fun r5 M6 => Q (z_and (z_shr r5 v1) 1) M6))) ∧ (zw v3 = 1 → (E mX4_holdersOf [.ref 192, zI v1, zI v2] M4 (fun r7 M8 => Q (zw r7) M8))) ∧ (zw v3 = 2 → (E mX7_heldTill [.ref 64, zI v1, zI v2] M4 (fun r9 M10 => Q (zw r9) M10))) ∧ (¬ zw v3 = 0 → ¬ zw v3 = 1 → ¬ zw v3 = 2 → (Q (-1) M4))))))))) : wp E 7 cX7_held (some .int) Q 0 [some (.ref 64), some (zI v1), some (zI v2), some (zI v3)] [] M := by
  refine w_iload_n dX7_held_0 rfl ?_
  refine w_invSi [_] dX7_held_1 l7_118 kX7_isName rfl rfl (Nat.le_of_ble_eq_true rfl) (Or.inr rfl) h (fun r1 M2 h => ?_)
  refine w_if_eq (tgt := 14) dX7_held_4 (by decide) rfl (fun q => ?_) (fun q => ?_)
  · have h := h.1 q
    refine w_iconst dX7_held_14 ?_
    exact w_ri rfl dX7_held_15 zq_m1 h
  · have h := h.2 q
    refine w_iload_n dX7_held_7 rfl ?_
    refine w_invSi [_] dX7_held_8 l7_158 kX7_isYear rfl rfl (Nat.le_of_ble_eq_true rfl) (Or.inr rfl) h (fun r3 M4 h => ?_)
    refine w_if_ne (tgt := 16) dX7_held_11 (by decide) rfl (fun q => ?_) (fun q => ?_)
    · have h := h.2 q
      refine w_iload_n dX7_held_16 rfl ?_
      by_cases q0 : zw v3 = 0
      · refine w_tsw (tgt := 44) dX7_held_17 (by rw [q0]; decide) (by rw [q0]; decide) ?_
        have h := h.1 q0
        refine w_aload_n dX7_held_44 rfl ?_
        refine w_gfO (ci := 7) (k := 1) (q := 192) dX7_held_45 f7_21 ob_64 rfl rfl ?_
        refine w_iload_n dX7_held_48 rfl ?_
        refine w_invVi [_] dX7_held_49 l7_168 kX4_heldIn rfl rfl (Nat.le_of_ble_eq_true rfl) (Or.inl rfl) ob_192 h (fun r5 M6 h => ?_)
        refine w_iload_n dX7_held_52 rfl ?_
        refine w_ishr dX7_held_53 ?_
        refine w_iconst dX7_held_54 ?_
        refine w_iand dX7_held_55 ?_
        exact w_ri rfl dX7_held_56 (zx_and _ _) h
      · skip
        by_cases q1 : zw v3 = 1
        · refine w_tsw (tgt := 57) dX7_held_17 (by rw [q1]; decide) (by rw [q1]; decide) ?_
          have h := h.2.1 q1
          refine w_aload_n dX7_held_57 rfl ?_
          refine w_gfO (ci := 7) (k := 1) (q := 192) dX7_held_58 f7_21 ob_64 rfl rfl ?_
          refine w_iload_n dX7_held_61 rfl ?_
          refine w_iload_n dX7_held_62 rfl ?_
          refine w_invVi [_, _] dX7_held_63 l7_171 kX4_holdersOf rfl rfl (Nat.le_of_ble_eq_true rfl) (Or.inl rfl) ob_192 h (fun r7 M8 h => ?_)
          exact w_ri rfl dX7_held_66 rfl h
        · skip
          by_cases q2 : zw v3 = 2
          · refine w_tsw (tgt := 67) dX7_held_17 (by rw [q2]; decide) (by rw [q2]; decide) ?_
            have h := h.2.2.1 q2
            refine w_aload_n dX7_held_67 rfl ?_
            refine w_iload_n dX7_held_68 rfl ?_
            refine w_iload_n dX7_held_69 rfl ?_
            refine w_invVi [_, _] dX7_held_70 l7_174 kX7_heldTill rfl rfl (Nat.le_of_ble_eq_true rfl) (Or.inl rfl) ob_64 h (fun r9 M10 h => ?_)
            exact w_ri rfl dX7_held_73 rfl h
          · skip
            have hz : (17 : Int) + zts (57) 0 2 #[27, 40, 50] (zw v3) = (74 : Nat) := by
              rcases (show zw v3 < 0 ∨ 2 < zw v3 by omega) with z | z <;> first | (rw [zts, if_pos (Or.inl z)]; rfl) | (rw [zts, if_pos (Or.inr z)]; rfl) | (rw [z]; decide)
            have hn : ¬ (zw v3 < 0 ∨ 2 < zw v3) → ((zw v3 - 0).toNat) < (#[27, 40, 50] : Array Int).size := by
              intro z
              show _ < 3
              omega
            refine w_tsw (tgt := 74) dX7_held_17 hz hn ?_
            have h := h.2.2.2 q0 q1 q2
            refine w_iconst dX7_held_74 ?_
            exact w_ri rfl dX7_held_75 zq_m1 h
    · have h := h.1 q
      refine w_iconst dX7_held_14 ?_
      exact w_ri rfl dX7_held_15 zq_m1 h
theorem e_X7_free {d : Nat} {Q : Int → zM → Prop} {M : zM} (v1 : Int) (h : wp (Ev d) 7 cX7_free (some .int) Q 0 [some (.ref 64), some (zI v1)] [] M) : Ev (d + 1) mX7_free [.ref 64, zI v1] M Q := ⟨kX7_free, Nat.le_of_ble_eq_true rfl, h⟩
theorem v_X7_free_0 {E : zE} {Q : Int → zM → Prop} {M : zM} (v1 : Int)  (h : E mX7_isYear [zI v1] M (fun r1 M2 => (zw r1 = 0 → (Q (-1) M2)) ∧ (¬ zw r1 = 0 → (E mX4_heldIn [.ref 192, zI v1] M2 (fun r3 M4 => Q (z_and 4095 (z_xor r3 (-1))) M4))))) : wp E 7 cX7_free (some .int) Q 0 [some (.ref 64), some (zI v1)] [] M := by
  refine w_iload_n dX7_free_0 rfl ?_
  refine w_invSi [_] dX7_free_1 l7_158 kX7_isYear rfl rfl (Nat.le_of_ble_eq_true rfl) (Or.inr rfl) h (fun r1 M2 h => ?_)
  refine w_if_eq (tgt := 24) dX7_free_4 (by decide) rfl (fun q => ?_) (fun q => ?_)
  · have h := h.1 q
    refine w_iconst dX7_free_24 ?_
    exact w_ri rfl dX7_free_25 zq_m1 h
  · have h := h.2 q
    refine w_sipush dX7_free_7 (by decide) ?_
    refine w_aload_n dX7_free_10 rfl ?_
    refine w_gfO (ci := 7) (k := 1) (q := 192) dX7_free_11 f7_21 ob_64 rfl rfl ?_
    refine w_iload_n dX7_free_14 rfl ?_
    refine w_invVi [_] dX7_free_15 l7_168 kX4_heldIn rfl rfl (Nat.le_of_ble_eq_true rfl) (Or.inl rfl) ob_192 h (fun r3 M4 h => ?_)
    refine w_iconst dX7_free_18 ?_
    refine w_ixor dX7_free_19 ?_
    refine w_iand dX7_free_20 ?_
    refine w_goto (tgt := 25) dX7_free_21 (by decide) ?_
    exact w_ri rfl dX7_free_25 (zx_and _ _) h
theorem e_X7_most {d : Nat} {Q : Int → zM → Prop} {M : zM} (v1 : Int) (h : wp (Ev d) 7 cX7_most (some .int) Q 0 [some (.ref 64), some (zI v1), none, none, none, none] [] M) : Ev (d + 1) mX7_most [.ref 64, zI v1] M Q := ⟨kX7_most, Nat.le_of_ble_eq_true rfl, h⟩
theorem v_X7_most_0 {E : zE} {Q : Int → zM → Prop} {M : zM} (v1 : Int)  (h : (zw v1 = 0 → (wp E 7 cX7_most (some .int) Q 18 [some (.ref 64), some (zI v1), some (zI 0), some (zI 0), some (zI 0), none] [] M)) ∧ (¬ zw v1 = 0 → ((zw v1 = 1 → (wp E 7 cX7_most (some .int) Q 18 [some (.ref 64), some (zI v1), some (zI 0), some (zI 0), some (zI 0), none] [] M)) ∧ (¬ zw v1 = 1 → (Q (-1) M))))) : wp E 7 cX7_most (some .int) Q 0 [some (.ref 64), some (zI v1), none, none, none, none] [] M := by
  refine w_iload_n dX7_most_0 rfl ?_
  refine w_if_eq (tgt := 11) dX7_most_1 (by decide) rfl (fun q => ?_) (fun q => ?_)
  · have h := h.1 q
    refine w_iconst dX7_most_11 ?_
    refine w_istore_n dX7_most_12 (Nat.le_of_ble_eq_true rfl) rfl ?_
    refine w_iconst dX7_most_13 ?_
    refine w_istore_n dX7_most_14 (Nat.le_of_ble_eq_true rfl) rfl ?_
    refine w_iconst dX7_most_15 ?_
    refine w_istore dX7_most_16 (Nat.le_of_ble_eq_true rfl) rfl ?_
    exact w_fgt (fgk (fgk (fgk (fgk (fgk (fgd (fgn))))))) h
  · have h := h.2 q
    refine w_iload_n dX7_most_4 rfl ?_
    refine w_iconst dX7_most_5 ?_
    refine w_icmp_eq (tgt := 11) dX7_most_6 (by decide) rfl zq_1 (fun q => ?_) (fun q => ?_)
    · have h := h.1 q
      refine w_iconst dX7_most_11 ?_
      refine w_istore_n dX7_most_12 (Nat.le_of_ble_eq_true rfl) rfl ?_
      refine w_iconst dX7_most_13 ?_
      refine w_istore_n dX7_most_14 (Nat.le_of_ble_eq_true rfl) rfl ?_
      refine w_iconst dX7_most_15 ?_
      refine w_istore dX7_most_16 (Nat.le_of_ble_eq_true rfl) rfl ?_
      exact w_fgt (fgk (fgk (fgk (fgk (fgk (fgd (fgn))))))) h
    · have h := h.2 q
      refine w_iconst dX7_most_9 ?_
      exact w_ri rfl dX7_most_10 zq_m1 h
theorem v_X7_most_18 {E : zE} {Q : Int → zM → Prop} {M : zM} (v1 : Int) (v2 : Int) (v3 : Int) (v4 : Int)  (h : (zw v4 < 100 → (E mX4_heldIn [.ref 192, zI v4] M (fun r1 M2 => E mJ6_bitCount_0f7a4 [zI r1] M2 (fun r3 M4 => (zw v2 < zw r3 → (wp E 7 cX7_most (some .int) Q 18 [some (.ref 64), some (zI v1), some (zI r3), some (zI v4), some (zI (v4 + 1)), none] [] M4)) ∧ (¬ zw v2 < zw r3 → (wp E 7 cX7_most (some .int) Q 18 [some (.ref 64), some (zI v1), some (zI v2), some (zI v3), some (zI (v4 + 1)), none] [] M4)))))) ∧ (¬ zw v4 < 100 → ((zw v1 = 0 → (Q (zw v2) M)) ∧ (¬ zw v1 = 0 → (Q (zw v3) M))))) : wp E 7 cX7_most (some .int) Q 18 [some (.ref 64), some (zI v1), some (zI v2), some (zI v3), some (zI v4), none] [] M := by
  refine w_iload dX7_most_18 rfl ?_
  refine w_bipush dX7_most_20 (by decide) ?_
  refine w_icmp_ge (tgt := 57) dX7_most_22 (by decide) rfl zq_100 (fun q => ?_) (fun q => ?_)
  · have h := h.2 q
    refine w_iload_n dX7_most_57 rfl ?_
    refine w_if_ne (tgt := 65) dX7_most_58 (by decide) rfl (fun q => ?_) (fun q => ?_)
    · have h := h.2 q
      refine w_iload_n dX7_most_65 rfl ?_
      exact w_ri rfl dX7_most_66 rfl h
    · have h := h.1 q
      refine w_iload_n dX7_most_61 rfl ?_
      refine w_goto (tgt := 66) dX7_most_62 (by decide) ?_
      exact w_ri rfl dX7_most_66 rfl h
  · have h := h.1 q
    refine w_aload_n dX7_most_25 rfl ?_
    refine w_gfO (ci := 7) (k := 1) (q := 192) dX7_most_26 f7_21 ob_64 rfl rfl ?_
    refine w_iload dX7_most_29 rfl ?_
    refine w_invVi [_] dX7_most_31 l7_168 kX4_heldIn rfl rfl (Nat.le_of_ble_eq_true rfl) (Or.inl rfl) ob_192 h (fun r1 M2 h => ?_)
    refine w_invSi [_] dX7_most_34 l7_177 kJ6_bitCount_0f7a4 rfl rfl (Nat.le_of_ble_eq_true rfl) (Or.inl rfl) h (fun r3 M4 h => ?_)
    refine w_istore dX7_most_37 (Nat.le_of_ble_eq_true rfl) rfl ?_
    refine w_iload dX7_most_39 rfl ?_
    refine w_iload_n dX7_most_41 rfl ?_
    refine w_icmp_le (tgt := 51) dX7_most_42 (by decide) rfl rfl (fun q => ?_) (fun q => ?_)
    · have h := h.2 q
      refine w_iinc dX7_most_51 rfl rfl ?_
      refine w_goto (tgt := 18) dX7_most_54 (by decide) ?_
      exact w_fgt (fgk (fgk (fgk (fgk (fgk (fgd (fgn))))))) h
    · have h := h.1 q
      refine w_iload dX7_most_45 rfl ?_
      refine w_istore_n dX7_most_47 (Nat.le_of_ble_eq_true rfl) rfl ?_
      refine w_iload dX7_most_48 rfl ?_
      refine w_istore_n dX7_most_50 (Nat.le_of_ble_eq_true rfl) rfl ?_
      refine w_iinc dX7_most_51 rfl rfl ?_
      refine w_goto (tgt := 18) dX7_most_54 (by decide) ?_
      exact w_fgt (fgk (fgk (fgk (fgk (fgk (fgd (fgn))))))) h
theorem e_X7_judge {d : Nat} {Q : Int → zM → Prop} {M : zM}  (h : wp (Ev d) 7 cX7_judge (some .int) Q 0 [some (.ref 64)] [] M) : Ev (d + 1) mX7_judge [.ref 64] M Q := ⟨kX7_judge, Nat.le_of_ble_eq_true rfl, h⟩
theorem v_X7_judge_0 {E : zE} {Q : Int → zM → Prop} {M : zM}   (h : E mX3_firstHeldAtBirth [.ref 320] M (fun r1 M2 => Q (zw r1) M2)) : wp E 7 cX7_judge (some .int) Q 0 [some (.ref 64)] [] M := by
  refine w_aload_n dX7_judge_0 rfl ?_
  refine w_gfO (ci := 7) (k := 2) (q := 320) dX7_judge_1 f7_30 ob_64 rfl rfl ?_
  refine w_invVi [] dX7_judge_4 l7_182 kX3_firstHeldAtBirth rfl rfl (Nat.le_of_ble_eq_true rfl) (Or.inl rfl) ob_320 h (fun r1 M2 h => ?_)
  exact w_ri rfl dX7_judge_7 rfl h
theorem e_X7_give {d : Nat} {Q : Int → zM → Prop} {M : zM} (v1 : Int) (v2 : Int) (h : wp (Ev d) 7 cX7_give (some .int) Q 0 [some (.ref 64), some (zI v1), some (zI v2), none] [] M) : Ev (d + 1) mX7_give [.ref 64, zI v1, zI v2] M Q := ⟨kX7_give, Nat.le_of_ble_eq_true rfl, h⟩
theorem v_X7_give_0 {E : zE} {Q : Int → zM → Prop} {M : zM} (v1 : Int) (v2 : Int)  (h : E mX4_hasPerson [.ref 192, zI v1] M (fun r1 M2 => (zw r1 = 0 → (Q (-1) M2)) ∧ (¬ zw r1 = 0 → (E mX7_isWay [zI v2] M2 (fun r3 M4 => (zw r3 = 0 → (Q (-1) M4)) ∧ (¬ zw r3 = 0 → ((0 ≤ zw v1) ∧ ((zw v1 < 12) ∧ ((zg M4 196 (zw v1).toNat = (-1) → (E mX3_chosenFor [.ref 320, zI v1, zI v2] M4 (fun r7 M8 => (zw r7 = (-2) → (Q (zw r7) M8)) ∧ (¬ zw r7 = (-2) → ((0 ≤ zw v1) ∧ ((zw v1 < 12) ∧ (∀ M11 : zM, M11 = zs M8 196 (zw v1).toNat r7 → (Q (zw r7) M11)))))))) ∧ (¬ zg M4 196 (zw v1).toNat = (-1) → (Q (-5) M4))))))))))) : wp E 7 cX7_give (some .int) Q 0 [some (.ref 64), some (zI v1), some (zI v2), none] [] M := by
  refine w_aload_n dX7_give_0 rfl ?_
  refine w_gfO (ci := 7) (k := 1) (q := 192) dX7_give_1 f7_21 ob_64 rfl rfl ?_
  refine w_iload_n dX7_give_4 rfl ?_
  refine w_invVi [_] dX7_give_5 l7_108 kX4_hasPerson rfl rfl (Nat.le_of_ble_eq_true rfl) (Or.inr rfl) ob_192 h (fun r1 M2 h => ?_)
  refine w_if_eq (tgt := 18) dX7_give_8 (by decide) rfl (fun q => ?_) (fun q => ?_)
  · have h := h.1 q
    refine w_iconst dX7_give_18 ?_
    exact w_ri rfl dX7_give_19 zq_m1 h
  · have h := h.2 q
    refine w_iload_n dX7_give_11 rfl ?_
    refine w_invSi [_] dX7_give_12 l7_185 kX7_isWay rfl rfl (Nat.le_of_ble_eq_true rfl) (Or.inr rfl) h (fun r3 M4 h => ?_)
    refine w_if_ne (tgt := 20) dX7_give_15 (by decide) rfl (fun q => ?_) (fun q => ?_)
    · have h := h.2 q
      refine w_aload_n dX7_give_20 rfl ?_
      refine w_gfO (ci := 7) (k := 1) (q := 192) dX7_give_21 f7_21 ob_64 rfl rfl ?_
      refine w_gfA (ci := 4) (k := 3) dX7_give_24 f7_115 ob_192 rfl ?_
      refine w_iload_n dX7_give_27 rfl ?_
      obtain ⟨c5, h⟩ := h
      obtain ⟨c6, h⟩ := h
      refine w_iald dX7_give_28 rfl (a4_3 ob_192) c5 c6 ?_
      refine w_iconst dX7_give_29 ?_
      refine w_icmp_eq (tgt := 36) dX7_give_30 (by decide) (zw_zg _ _ _) zq_m1 (fun q => ?_) (fun q => ?_)
      · have h := h.1 q
        refine w_aload_n dX7_give_36 rfl ?_
        refine w_gfO (ci := 7) (k := 2) (q := 320) dX7_give_37 f7_30 ob_64 rfl rfl ?_
        refine w_iload_n dX7_give_40 rfl ?_
        refine w_iload_n dX7_give_41 rfl ?_
        refine w_invVi [_, _] dX7_give_42 l7_188 kX3_chosenFor rfl rfl (Nat.le_of_ble_eq_true rfl) (Or.inl rfl) ob_320 h (fun r7 M8 h => ?_)
        refine w_istore_n dX7_give_45 (Nat.le_of_ble_eq_true rfl) rfl ?_
        refine w_iload_n dX7_give_46 rfl ?_
        refine w_bipush dX7_give_47 (by decide) ?_
        refine w_icmp_eq (tgt := 62) dX7_give_49 (by decide) rfl zq_m2 (fun q => ?_) (fun q => ?_)
        · have h := h.1 q
          refine w_iload_n dX7_give_62 rfl ?_
          exact w_ri rfl dX7_give_63 rfl h
        · have h := h.2 q
          refine w_aload_n dX7_give_52 rfl ?_
          refine w_gfO (ci := 7) (k := 1) (q := 192) dX7_give_53 f7_21 ob_64 rfl rfl ?_
          refine w_gfA (ci := 4) (k := 3) dX7_give_56 f7_115 ob_192 rfl ?_
          refine w_iload_n dX7_give_59 rfl ?_
          refine w_iload_n dX7_give_60 rfl ?_
          obtain ⟨c9, h⟩ := h
          obtain ⟨c10, h⟩ := h
          have h := h _ rfl
          refine w_iast dX7_give_61 rfl (a4_3 ob_192) c9 c10 ?_
          refine w_iload_n dX7_give_62 rfl ?_
          exact w_ri rfl dX7_give_63 rfl h
      · have h := h.2 q
        refine w_bipush dX7_give_33 (by decide) ?_
        exact w_ri rfl dX7_give_35 zq_m5 h
    · have h := h.1 q
      refine w_iconst dX7_give_18 ?_
      exact w_ri rfl dX7_give_19 zq_m1 h
theorem e_X7_run {d : Nat} {Q : Int → zM → Prop} {M : zM} (v1 : Int) (v2 : Int) (h : wp (Ev d) 7 cX7_run (some .int) Q 0 [some (.ref 64), some (zI v1), some (zI v2), none] [] M) : Ev (d + 1) mX7_run [.ref 64, zI v1, zI v2] M Q := ⟨kX7_run, Nat.le_of_ble_eq_true rfl, h⟩
theorem v_X7_run_0 {E : zE} {Q : Int → zM → Prop} {M : zM} (v1 : Int) (v2 : Int)  (h : E mX7_isWay [zI v1] M (fun r1 M2 => (zw r1 = 0 → (Q (-1) M2)) ∧ (¬ zw r1 = 0 → (E mX4_hasPerson [.ref 192, zI v2] M2 (fun r3 M4 => (zw r3 = 0 → (Q (-1) M4)) ∧ (¬ zw r3 = 0 → (E mX3_begin [.ref 320] M4 (fun r5 M6 => E mX3_nameAll [.ref 320, zI v1] M6 (fun r7 M8 => (0 ≤ zw v2) ∧ ((zw v2 < 12) ∧ ((zg M8 260 (zw v2).toNat = (-1) → (Q (-2) M8)) ∧ (¬ zg M8 260 (zw v2).toNat = (-1) → (Q (zg M8 260 (zw v2).toNat) M8))))))))))))) : wp E 7 cX7_run (some .int) Q 0 [some (.ref 64), some (zI v1), some (zI v2), none] [] M := by
  refine w_iload_n dX7_run_0 rfl ?_
  refine w_invSi [_] dX7_run_1 l7_185 kX7_isWay rfl rfl (Nat.le_of_ble_eq_true rfl) (Or.inr rfl) h (fun r1 M2 h => ?_)
  refine w_if_eq (tgt := 18) dX7_run_4 (by decide) rfl (fun q => ?_) (fun q => ?_)
  · have h := h.1 q
    refine w_iconst dX7_run_18 ?_
    exact w_ri rfl dX7_run_19 zq_m1 h
  · have h := h.2 q
    refine w_aload_n dX7_run_7 rfl ?_
    refine w_gfO (ci := 7) (k := 1) (q := 192) dX7_run_8 f7_21 ob_64 rfl rfl ?_
    refine w_iload_n dX7_run_11 rfl ?_
    refine w_invVi [_] dX7_run_12 l7_108 kX4_hasPerson rfl rfl (Nat.le_of_ble_eq_true rfl) (Or.inr rfl) ob_192 h (fun r3 M4 h => ?_)
    refine w_if_ne (tgt := 20) dX7_run_15 (by decide) rfl (fun q => ?_) (fun q => ?_)
    · have h := h.2 q
      refine w_aload_n dX7_run_20 rfl ?_
      refine w_gfO (ci := 7) (k := 2) (q := 320) dX7_run_21 f7_30 ob_64 rfl rfl ?_
      refine w_invVv [] dX7_run_24 l7_191 kX3_begin rfl rfl (Nat.le_of_ble_eq_true rfl) rfl ob_320 h (fun r5 M6 h => ?_)
      refine w_aload_n dX7_run_27 rfl ?_
      refine w_gfO (ci := 7) (k := 2) (q := 320) dX7_run_28 f7_30 ob_64 rfl rfl ?_
      refine w_iload_n dX7_run_31 rfl ?_
      refine w_invVv [_] dX7_run_32 l7_194 kX3_nameAll rfl rfl (Nat.le_of_ble_eq_true rfl) rfl ob_320 h (fun r7 M8 h => ?_)
      refine w_aload_n dX7_run_35 rfl ?_
      refine w_gfO (ci := 7) (k := 2) (q := 320) dX7_run_36 f7_30 ob_64 rfl rfl ?_
      refine w_gfO (ci := 3) (k := 1) (q := 256) dX7_run_39 f7_197 ob_320 rfl rfl ?_
      refine w_gfA (ci := 4) (k := 3) dX7_run_42 f7_115 ob_256 rfl ?_
      refine w_iload_n dX7_run_45 rfl ?_
      obtain ⟨c9, h⟩ := h
      obtain ⟨c10, h⟩ := h
      refine w_iald dX7_run_46 rfl (a4_3 ob_256) c9 c10 ?_
      refine w_istore_n dX7_run_47 (Nat.le_of_ble_eq_true rfl) rfl ?_
      refine w_iload_n dX7_run_48 rfl ?_
      refine w_iconst dX7_run_49 ?_
      refine w_icmp_ne (tgt := 58) dX7_run_50 (by decide) (zw_zg _ _ _) zq_m1 (fun q => ?_) (fun q => ?_)
      · have h := h.2 q
        refine w_iload_n dX7_run_58 rfl ?_
        exact w_ri rfl dX7_run_59 (zw_zg _ _ _) h
      · have h := h.1 q
        refine w_bipush dX7_run_53 (by decide) ?_
        refine w_goto (tgt := 59) dX7_run_55 (by decide) ?_
        exact w_ri rfl dX7_run_59 zq_m2 h
    · have h := h.1 q
      refine w_iconst dX7_run_18 ?_
      exact w_ri rfl dX7_run_19 zq_m1 h
theorem e_X7_used {d : Nat} {Q : Int → zM → Prop} {M : zM} (v1 : Int) (v2 : Int) (h : wp (Ev d) 7 cX7_used (some .int) Q 0 [some (.ref 64), some (zI v1), some (zI v2)] [] M) : Ev (d + 1) mX7_used [.ref 64, zI v1, zI v2] M Q := ⟨kX7_used, Nat.le_of_ble_eq_true rfl, h⟩
theorem v_X7_used_0 {E : zE} {Q : Int → zM → Prop} {M : zM} (v1 : Int) (v2 : Int)  (h : E mX7_isWay [zI v1] M (fun r1 M2 => (zw r1 = 0 → (Q (-1) M2)) ∧ (¬ zw r1 = 0 → ((zw v2 < 0 → (Q (-1) M2)) ∧ (¬ zw v2 < 0 → ((2 < zw v2 → (Q (-1) M2)) ∧ (¬ 2 < zw v2 → (E mX3_begin [.ref 320] M2 (fun r3 M4 => E mX3_nameAll [.ref 320, zI v1] M4 (fun r5 M6 => (zw v2 = 0 → (E mX3_namesThatCame [.ref 320] M6 (fun r11 M12 => Q (zw r11) M12))) ∧ (¬ zw v2 = 0 → ((zw v2 = 1 → (E mX3_sumOfWorths [.ref 320] M6 (fun r9 M10 => Q (zw r9) M10))) ∧ (¬ zw v2 = 1 → (E mX3_peopleWithout [.ref 320] M6 (fun r7 M8 => Q (zw r7) M8))))))))))))))) : wp E 7 cX7_used (some .int) Q 0 [some (.ref 64), some (zI v1), some (zI v2)] [] M := by
  refine w_iload_n dX7_used_0 rfl ?_
  refine w_invSi [_] dX7_used_1 l7_185 kX7_isWay rfl rfl (Nat.le_of_ble_eq_true rfl) (Or.inr rfl) h (fun r1 M2 h => ?_)
  refine w_if_eq (tgt := 16) dX7_used_4 (by decide) rfl (fun q => ?_) (fun q => ?_)
  · have h := h.1 q
    refine w_iconst dX7_used_16 ?_
    exact w_ri rfl dX7_used_17 zq_m1 h
  · have h := h.2 q
    refine w_iload_n dX7_used_7 rfl ?_
    refine w_if_lt (tgt := 16) dX7_used_8 (by decide) rfl (fun q => ?_) (fun q => ?_)
    · have h := h.1 q
      refine w_iconst dX7_used_16 ?_
      exact w_ri rfl dX7_used_17 zq_m1 h
    · have h := h.2 q
      refine w_iload_n dX7_used_11 rfl ?_
      refine w_iconst dX7_used_12 ?_
      refine w_icmp_le (tgt := 18) dX7_used_13 (by decide) rfl zq_2 (fun q => ?_) (fun q => ?_)
      · have h := h.2 q
        refine w_aload_n dX7_used_18 rfl ?_
        refine w_gfO (ci := 7) (k := 2) (q := 320) dX7_used_19 f7_30 ob_64 rfl rfl ?_
        refine w_invVv [] dX7_used_22 l7_191 kX3_begin rfl rfl (Nat.le_of_ble_eq_true rfl) rfl ob_320 h (fun r3 M4 h => ?_)
        refine w_aload_n dX7_used_25 rfl ?_
        refine w_gfO (ci := 7) (k := 2) (q := 320) dX7_used_26 f7_30 ob_64 rfl rfl ?_
        refine w_iload_n dX7_used_29 rfl ?_
        refine w_invVv [_] dX7_used_30 l7_194 kX3_nameAll rfl rfl (Nat.le_of_ble_eq_true rfl) rfl ob_320 h (fun r5 M6 h => ?_)
        refine w_iload_n dX7_used_33 rfl ?_
        refine w_if_ne (tgt := 45) dX7_used_34 (by decide) rfl (fun q => ?_) (fun q => ?_)
        · have h := h.2 q
          refine w_iload_n dX7_used_45 rfl ?_
          refine w_iconst dX7_used_46 ?_
          refine w_icmp_ne (tgt := 60) dX7_used_47 (by decide) rfl zq_1 (fun q => ?_) (fun q => ?_)
          · have h := h.2 q
            refine w_aload_n dX7_used_60 rfl ?_
            refine w_gfO (ci := 7) (k := 2) (q := 320) dX7_used_61 f7_30 ob_64 rfl rfl ?_
            refine w_invVi [] dX7_used_64 l7_206 kX3_peopleWithout rfl rfl (Nat.le_of_ble_eq_true rfl) (Or.inl rfl) ob_320 h (fun r7 M8 h => ?_)
            exact w_ri rfl dX7_used_67 rfl h
          · have h := h.1 q
            refine w_aload_n dX7_used_50 rfl ?_
            refine w_gfO (ci := 7) (k := 2) (q := 320) dX7_used_51 f7_30 ob_64 rfl rfl ?_
            refine w_invVi [] dX7_used_54 l7_203 kX3_sumOfWorths rfl rfl (Nat.le_of_ble_eq_true rfl) (Or.inl rfl) ob_320 h (fun r9 M10 h => ?_)
            refine w_goto (tgt := 67) dX7_used_57 (by decide) ?_
            exact w_ri rfl dX7_used_67 rfl h
        · have h := h.1 q
          refine w_aload_n dX7_used_37 rfl ?_
          refine w_gfO (ci := 7) (k := 2) (q := 320) dX7_used_38 f7_30 ob_64 rfl rfl ?_
          refine w_invVi [] dX7_used_41 l7_200 kX3_namesThatCame rfl rfl (Nat.le_of_ble_eq_true rfl) (Or.inl rfl) ob_320 h (fun r11 M12 h => ?_)
          exact w_ri rfl dX7_used_44 rfl h
      · have h := h.1 q
        refine w_iconst dX7_used_16 ?_
        exact w_ri rfl dX7_used_17 zq_m1 h
theorem e_X7_apart {d : Nat} {Q : Int → zM → Prop} {M : zM} (v1 : Int) (v2 : Int) (h : wp (Ev d) 7 cX7_apart (some .int) Q 0 [some (.ref 64), some (zI v1), some (zI v2)] [] M) : Ev (d + 1) mX7_apart [.ref 64, zI v1, zI v2] M Q := ⟨kX7_apart, Nat.le_of_ble_eq_true rfl, h⟩
theorem v_X7_apart_0 {E : zE} {Q : Int → zM → Prop} {M : zM} (v1 : Int) (v2 : Int)  (h : E mX7_isName [zI v1] M (fun r1 M2 => (zw r1 = 0 → (Q (-1) M2)) ∧ (¬ zw r1 = 0 → (E mX7_isYear [zI v2] M2 (fun r3 M4 => (zw r3 = 0 → (Q (-1) M4)) ∧ (¬ zw r3 = 0 → (E mX5_fewest [.ref 384, zI v1, zI v2] M4 (fun r5 M6 => Q (zw r5) M6)))))))) : wp E 7 cX7_apart (some .int) Q 0 [some (.ref 64), some (zI v1), some (zI v2)] [] M := by
  refine w_iload_n dX7_apart_0 rfl ?_
  refine w_invSi [_] dX7_apart_1 l7_118 kX7_isName rfl rfl (Nat.le_of_ble_eq_true rfl) (Or.inr rfl) h (fun r1 M2 h => ?_)
  refine w_if_eq (tgt := 14) dX7_apart_4 (by decide) rfl (fun q => ?_) (fun q => ?_)
  · have h := h.1 q
    refine w_iconst dX7_apart_14 ?_
    exact w_ri rfl dX7_apart_15 zq_m1 h
  · have h := h.2 q
    refine w_iload_n dX7_apart_7 rfl ?_
    refine w_invSi [_] dX7_apart_8 l7_158 kX7_isYear rfl rfl (Nat.le_of_ble_eq_true rfl) (Or.inr rfl) h (fun r3 M4 h => ?_)
    refine w_if_ne (tgt := 16) dX7_apart_11 (by decide) rfl (fun q => ?_) (fun q => ?_)
    · have h := h.2 q
      refine w_aload_n dX7_apart_16 rfl ?_
      refine w_gfO (ci := 7) (k := 3) (q := 384) dX7_apart_17 f7_39 ob_64 rfl rfl ?_
      refine w_iload_n dX7_apart_20 rfl ?_
      refine w_iload_n dX7_apart_21 rfl ?_
      refine w_invVi [_, _] dX7_apart_22 l7_209 kX5_fewest rfl rfl (Nat.le_of_ble_eq_true rfl) (Or.inl rfl) ob_384 h (fun r5 M6 h => ?_)
      exact w_ri rfl dX7_apart_25 rfl h
    · have h := h.1 q
      refine w_iconst dX7_apart_14 ?_
      exact w_ri rfl dX7_apart_15 zq_m1 h
theorem e_X7_freed {d : Nat} {Q : Int → zM → Prop} {M : zM} (v1 : Int) (v2 : Int) (h : wp (Ev d) 7 cX7_freed (some .int) Q 0 [some (.ref 64), some (zI v1), some (zI v2), none, none] [] M) : Ev (d + 1) mX7_freed [.ref 64, zI v1, zI v2] M Q := ⟨kX7_freed, Nat.le_of_ble_eq_true rfl, h⟩
theorem v_X7_freed_0 {E : zE} {Q : Int → zM → Prop} {M : zM} (v1 : Int) (v2 : Int)  (h : E mX4_hasPerson [.ref 192, zI v1] M (fun r1 M2 => (zw r1 = 0 → (Q (-1) M2)) ∧ (¬ zw r1 = 0 → (E mX7_isYear [zI v2] M2 (fun r3 M4 => (zw r3 = 0 → (Q (-1) M4)) ∧ (¬ zw r3 = 0 → (wp E 7 cX7_freed (some .int) Q 25 [some (.ref 64), some (zI v1), some (zI v2), some (zI 0), some (zI 0)] [] M4))))))) : wp E 7 cX7_freed (some .int) Q 0 [some (.ref 64), some (zI v1), some (zI v2), none, none] [] M := by
  refine w_aload_n dX7_freed_0 rfl ?_
  refine w_gfO (ci := 7) (k := 1) (q := 192) dX7_freed_1 f7_21 ob_64 rfl rfl ?_
  refine w_iload_n dX7_freed_4 rfl ?_
  refine w_invVi [_] dX7_freed_5 l7_108 kX4_hasPerson rfl rfl (Nat.le_of_ble_eq_true rfl) (Or.inr rfl) ob_192 h (fun r1 M2 h => ?_)
  refine w_if_eq (tgt := 18) dX7_freed_8 (by decide) rfl (fun q => ?_) (fun q => ?_)
  · have h := h.1 q
    refine w_iconst dX7_freed_18 ?_
    exact w_ri rfl dX7_freed_19 zq_m1 h
  · have h := h.2 q
    refine w_iload_n dX7_freed_11 rfl ?_
    refine w_invSi [_] dX7_freed_12 l7_158 kX7_isYear rfl rfl (Nat.le_of_ble_eq_true rfl) (Or.inr rfl) h (fun r3 M4 h => ?_)
    refine w_if_ne (tgt := 20) dX7_freed_15 (by decide) rfl (fun q => ?_) (fun q => ?_)
    · have h := h.2 q
      refine w_iconst dX7_freed_20 ?_
      refine w_istore_n dX7_freed_21 (Nat.le_of_ble_eq_true rfl) rfl ?_
      refine w_iconst dX7_freed_22 ?_
      refine w_istore dX7_freed_23 (Nat.le_of_ble_eq_true rfl) rfl ?_
      exact w_fgt (fgk (fgk (fgk (fgk (fgk (fgn)))))) h
    · have h := h.1 q
      refine w_iconst dX7_freed_18 ?_
      exact w_ri rfl dX7_freed_19 zq_m1 h
theorem v_X7_freed_25 {E : zE} {Q : Int → zM → Prop} {M : zM} (v1 : Int) (v2 : Int) (v3 : Int) (v4 : Int)  (h : (zw v4 < 12 → (E mX4_holdersOf [.ref 192, zI v4, zI v2] M (fun r1 M2 => (zw r1 = z_shl 1 v1 → (E mX4_isFamed [.ref 192, zI v4, zI v2] M2 (fun r3 M4 => (zw r3 = 0 → (wp E 7 cX7_freed (some .int) Q 25 [some (.ref 64), some (zI v1), some (zI v2), some (zI (z_or v3 (z_shl 1 v4))), some (zI (v4 + 1))] [] M4)) ∧ (¬ zw r3 = 0 → (wp E 7 cX7_freed (some .int) Q 25 [some (.ref 64), some (zI v1), some (zI v2), some (zI v3), some (zI (v4 + 1))] [] M4))))) ∧ (¬ zw r1 = z_shl 1 v1 → (wp E 7 cX7_freed (some .int) Q 25 [some (.ref 64), some (zI v1), some (zI v2), some (zI v3), some (zI (v4 + 1))] [] M2))))) ∧ (¬ zw v4 < 12 → (Q (zw v3) M))) : wp E 7 cX7_freed (some .int) Q 25 [some (.ref 64), some (zI v1), some (zI v2), some (zI v3), some (zI v4)] [] M := by
  refine w_iload dX7_freed_25 rfl ?_
  refine w_bipush dX7_freed_27 (by decide) ?_
  refine w_icmp_ge (tgt := 74) dX7_freed_29 (by decide) rfl zq_12 (fun q => ?_) (fun q => ?_)
  · have h := h.2 q
    refine w_iload_n dX7_freed_74 rfl ?_
    exact w_ri rfl dX7_freed_75 rfl h
  · have h := h.1 q
    refine w_aload_n dX7_freed_32 rfl ?_
    refine w_gfO (ci := 7) (k := 1) (q := 192) dX7_freed_33 f7_21 ob_64 rfl rfl ?_
    refine w_iload dX7_freed_36 rfl ?_
    refine w_iload_n dX7_freed_38 rfl ?_
    refine w_invVi [_, _] dX7_freed_39 l7_171 kX4_holdersOf rfl rfl (Nat.le_of_ble_eq_true rfl) (Or.inl rfl) ob_192 h (fun r1 M2 h => ?_)
    refine w_iconst dX7_freed_42 ?_
    refine w_iload_n dX7_freed_43 rfl ?_
    refine w_ishl dX7_freed_44 ?_
    refine w_icmp_ne (tgt := 68) dX7_freed_45 (by decide) rfl (zx_shl _ _) (fun q => ?_) (fun q => ?_)
    · have h := h.2 q
      refine w_iinc dX7_freed_68 rfl rfl ?_
      refine w_goto (tgt := 25) dX7_freed_71 (by decide) ?_
      exact w_fgt (fgk (fgk (fgk (fgk (fgk (fgn)))))) h
    · have h := h.1 q
      refine w_aload_n dX7_freed_48 rfl ?_
      refine w_gfO (ci := 7) (k := 1) (q := 192) dX7_freed_49 f7_21 ob_64 rfl rfl ?_
      refine w_iload dX7_freed_52 rfl ?_
      refine w_iload_n dX7_freed_54 rfl ?_
      refine w_invVi [_, _] dX7_freed_55 l7_212 kX4_isFamed rfl rfl (Nat.le_of_ble_eq_true rfl) (Or.inr rfl) ob_192 h (fun r3 M4 h => ?_)
      refine w_if_ne (tgt := 68) dX7_freed_58 (by decide) rfl (fun q => ?_) (fun q => ?_)
      · have h := h.2 q
        refine w_iinc dX7_freed_68 rfl rfl ?_
        refine w_goto (tgt := 25) dX7_freed_71 (by decide) ?_
        exact w_fgt (fgk (fgk (fgk (fgk (fgk (fgn)))))) h
      · have h := h.1 q
        refine w_iload_n dX7_freed_61 rfl ?_
        refine w_iconst dX7_freed_62 ?_
        refine w_iload dX7_freed_63 rfl ?_
        refine w_ishl dX7_freed_65 ?_
        refine w_ior dX7_freed_66 ?_
        refine w_istore_n dX7_freed_67 (Nat.le_of_ble_eq_true rfl) rfl ?_
        refine w_iinc dX7_freed_68 rfl rfl ?_
        refine w_goto (tgt := 25) dX7_freed_71 (by decide) ?_
        exact w_fgt (fgk (fgk (fgk (fgk (fgk (fgn)))))) h
theorem e_X7_never {d : Nat} {Q : Int → zM → Prop} {M : zM} (v1 : Int) (h : wp (Ev d) 7 cX7_never (some .int) Q 0 [some (.ref 64), some (zI v1), none, none, none] [] M) : Ev (d + 1) mX7_never [.ref 64, zI v1] M Q := ⟨kX7_never, Nat.le_of_ble_eq_true rfl, h⟩
theorem v_X7_never_0 {E : zE} {Q : Int → zM → Prop} {M : zM} (v1 : Int)  (h : E mX4_hasPerson [.ref 192, zI v1] M (fun r1 M2 => (zw r1 = 0 → (Q (-1) M2)) ∧ (¬ zw r1 = 0 → ((0 ≤ zw v1) ∧ ((zw v1 < 12) ∧ ((zg M2 196 (zw v1).toNat = (-1) → (Q 0 M2)) ∧ (¬ zg M2 196 (zw v1).toNat = (-1) → (E mX4_placeOf [.ref 192, zI v1] M2 (fun r5 M6 => wp E 7 cX7_never (some .int) Q 41 [some (.ref 64), some (zI v1), some (zI 0), some (zI (r5 + 1)), none] [] M6))))))))) : wp E 7 cX7_never (some .int) Q 0 [some (.ref 64), some (zI v1), none, none, none] [] M := by
  refine w_aload_n dX7_never_0 rfl ?_
  refine w_gfO (ci := 7) (k := 1) (q := 192) dX7_never_1 f7_21 ob_64 rfl rfl ?_
  refine w_iload_n dX7_never_4 rfl ?_
  refine w_invVi [_] dX7_never_5 l7_108 kX4_hasPerson rfl rfl (Nat.le_of_ble_eq_true rfl) (Or.inr rfl) ob_192 h (fun r1 M2 h => ?_)
  refine w_if_ne (tgt := 13) dX7_never_8 (by decide) rfl (fun q => ?_) (fun q => ?_)
  · have h := h.2 q
    refine w_aload_n dX7_never_13 rfl ?_
    refine w_gfO (ci := 7) (k := 1) (q := 192) dX7_never_14 f7_21 ob_64 rfl rfl ?_
    refine w_gfA (ci := 4) (k := 3) dX7_never_17 f7_115 ob_192 rfl ?_
    refine w_iload_n dX7_never_20 rfl ?_
    obtain ⟨c3, h⟩ := h
    obtain ⟨c4, h⟩ := h
    refine w_iald dX7_never_21 rfl (a4_3 ob_192) c3 c4 ?_
    refine w_iconst dX7_never_22 ?_
    refine w_icmp_ne (tgt := 28) dX7_never_23 (by decide) (zw_zg _ _ _) zq_m1 (fun q => ?_) (fun q => ?_)
    · have h := h.2 q
      refine w_iconst dX7_never_28 ?_
      refine w_istore_n dX7_never_29 (Nat.le_of_ble_eq_true rfl) rfl ?_
      refine w_aload_n dX7_never_30 rfl ?_
      refine w_gfO (ci := 7) (k := 1) (q := 192) dX7_never_31 f7_21 ob_64 rfl rfl ?_
      refine w_iload_n dX7_never_34 rfl ?_
      refine w_invVi [_] dX7_never_35 l7_215 kX4_placeOf rfl rfl (Nat.le_of_ble_eq_true rfl) (Or.inl rfl) ob_192 h (fun r5 M6 h => ?_)
      refine w_iconst dX7_never_38 ?_
      refine w_iadd dX7_never_39 ?_
      refine w_istore_n dX7_never_40 (Nat.le_of_ble_eq_true rfl) rfl ?_
      exact w_fgt (fgk (fgk (fgk (fgk (fgd (fgn)))))) h
    · have h := h.1 q
      refine w_iconst dX7_never_26 ?_
      exact w_ri rfl dX7_never_27 zq_0 h
  · have h := h.1 q
    refine w_iconst dX7_never_11 ?_
    exact w_ri rfl dX7_never_12 zq_m1 h
theorem v_X7_never_41 {E : zE} {Q : Int → zM → Prop} {M : zM} (v1 : Int) (v2 : Int) (v3 : Int)  (h : (zw v3 < zg M 192 5 → ((0 ≤ zw v3) ∧ ((zw v3 < 12) ∧ ((0 ≤ zg M 197 (zw v3).toNat) ∧ ((zg M 197 (zw v3).toNat < 12) ∧ ((0 ≤ zw v1) ∧ ((zw v1 < 12) ∧ ((zg M 196 (zg M 197 (zw v3).toNat).toNat = zg M 196 (zw v1).toNat → ((0 ≤ zg M 197 (zw v3).toNat) ∧ ((zg M 197 (zw v3).toNat < 12) ∧ (E mX4_livingIn [.ref 192, zI (zg M 194 (zg M 197 (zw v3).toNat).toNat)] M (fun r9 M10 => wp E 7 cX7_never (some .int) Q 41 [some (.ref 64), some (zI v1), some (zI (z_or v2 (z_and r9 (z_xor (z_shl 1 (zg M 197 (zw v3).toNat)) (-1))))), some (zI (v3 + 1)), none] [] M10))))) ∧ (¬ zg M 196 (zg M 197 (zw v3).toNat).toNat = zg M 196 (zw v1).toNat → (wp E 7 cX7_never (some .int) Q 41 [some (.ref 64), some (zI v1), some (zI v2), some (zI (v3 + 1)), none] [] M)))))))))) ∧ (¬ zw v3 < zg M 192 5 → (Q (z_and v2 (z_xor (z_shl 1 v1) (-1))) M))) : wp E 7 cX7_never (some .int) Q 41 [some (.ref 64), some (zI v1), some (zI v2), some (zI v3), none] [] M := by
  refine w_iload_n dX7_never_41 rfl ?_
  refine w_aload_n dX7_never_42 rfl ?_
  refine w_gfO (ci := 7) (k := 1) (q := 192) dX7_never_43 f7_21 ob_64 rfl rfl ?_
  refine w_gfI (ci := 4) (k := 5) dX7_never_46 f7_218 ob_192 rfl ?_
  refine w_icmp_ge (tgt := 118) dX7_never_49 (by decide) rfl (zw_zg _ _ _) (fun q => ?_) (fun q => ?_)
  · have h := h.2 q
    refine w_iload_n dX7_never_118 rfl ?_
    refine w_iconst dX7_never_119 ?_
    refine w_iload_n dX7_never_120 rfl ?_
    refine w_ishl dX7_never_121 ?_
    refine w_iconst dX7_never_122 ?_
    refine w_ixor dX7_never_123 ?_
    refine w_iand dX7_never_124 ?_
    exact w_ri rfl dX7_never_125 (zx_and _ _) h
  · have h := h.1 q
    refine w_aload_n dX7_never_52 rfl ?_
    refine w_gfO (ci := 7) (k := 1) (q := 192) dX7_never_53 f7_21 ob_64 rfl rfl ?_
    refine w_gfA (ci := 4) (k := 4) dX7_never_56 f7_221 ob_192 rfl ?_
    refine w_iload_n dX7_never_59 rfl ?_
    obtain ⟨c1, h⟩ := h
    obtain ⟨c2, h⟩ := h
    refine w_iald dX7_never_60 rfl (a4_4 ob_192) c1 c2 ?_
    refine w_istore dX7_never_61 (Nat.le_of_ble_eq_true rfl) rfl ?_
    refine w_aload_n dX7_never_63 rfl ?_
    refine w_gfO (ci := 7) (k := 1) (q := 192) dX7_never_64 f7_21 ob_64 rfl rfl ?_
    refine w_gfA (ci := 4) (k := 3) dX7_never_67 f7_115 ob_192 rfl ?_
    refine w_iload dX7_never_70 rfl ?_
    obtain ⟨c3, h⟩ := h
    obtain ⟨c4, h⟩ := h
    refine w_iald dX7_never_72 (zw_zg _ _ _) (a4_3 ob_192) c3 c4 ?_
    refine w_aload_n dX7_never_73 rfl ?_
    refine w_gfO (ci := 7) (k := 1) (q := 192) dX7_never_74 f7_21 ob_64 rfl rfl ?_
    refine w_gfA (ci := 4) (k := 3) dX7_never_77 f7_115 ob_192 rfl ?_
    refine w_iload_n dX7_never_80 rfl ?_
    obtain ⟨c5, h⟩ := h
    obtain ⟨c6, h⟩ := h
    refine w_iald dX7_never_81 rfl (a4_3 ob_192) c5 c6 ?_
    refine w_icmp_ne (tgt := 112) dX7_never_82 (by decide) (zw_zg _ _ _) (zw_zg _ _ _) (fun q => ?_) (fun q => ?_)
    · have h := h.2 q
      refine w_iinc dX7_never_112 rfl rfl ?_
      refine w_goto (tgt := 41) dX7_never_115 (by decide) ?_
      exact w_fgt (fgk (fgk (fgk (fgk (fgd (fgn)))))) h
    · have h := h.1 q
      refine w_iload_n dX7_never_85 rfl ?_
      refine w_aload_n dX7_never_86 rfl ?_
      refine w_gfO (ci := 7) (k := 1) (q := 192) dX7_never_87 f7_21 ob_64 rfl rfl ?_
      refine w_aload_n dX7_never_90 rfl ?_
      refine w_gfO (ci := 7) (k := 1) (q := 192) dX7_never_91 f7_21 ob_64 rfl rfl ?_
      refine w_gfA (ci := 4) (k := 1) dX7_never_94 f7_224 ob_192 rfl ?_
      refine w_iload dX7_never_97 rfl ?_
      obtain ⟨c7, h⟩ := h
      obtain ⟨c8, h⟩ := h
      refine w_iald dX7_never_99 (zw_zg _ _ _) (a4_1 ob_192) c7 c8 ?_
      refine w_invVi [_] dX7_never_100 l7_227 kX4_livingIn rfl rfl (Nat.le_of_ble_eq_true rfl) (Or.inl rfl) ob_192 h (fun r9 M10 h => ?_)
      refine w_iconst dX7_never_103 ?_
      refine w_iload dX7_never_104 rfl ?_
      refine w_ishl dX7_never_106 ?_
      refine w_iconst dX7_never_107 ?_
      refine w_ixor dX7_never_108 ?_
      refine w_iand dX7_never_109 ?_
      refine w_ior dX7_never_110 ?_
      refine w_istore_n dX7_never_111 (Nat.le_of_ble_eq_true rfl) rfl ?_
      refine w_iinc dX7_never_112 rfl rfl ?_
      refine w_goto (tgt := 41) dX7_never_115 (by decide) ?_
      exact w_fgt (fgk (fgk (fgk (fgk (fgd (fgn)))))) h
theorem e_X7_needs {d : Nat} {Q : Int → zM → Prop} {M : zM} (v1 : Int) (v2 : Int) (v3 : Int) (h : wp (Ev d) 7 cX7_needs (some .int) Q 0 [some (.ref 64), some (zI v1), some (zI v2), some (zI v3), none, none, none, none] [] M) : Ev (d + 1) mX7_needs [.ref 64, zI v1, zI v2, zI v3] M Q := ⟨kX7_needs, Nat.le_of_ble_eq_true rfl, h⟩
theorem v_X7_needs_0 {E : zE} {Q : Int → zM → Prop} {M : zM} (v1 : Int) (v2 : Int) (v3 : Int)  (h : (zw v2 < 1 → (Q (-1) M)) ∧ (¬ zw v2 < 1 → ((20 < zw v2 → (Q (-1) M)) ∧ (¬ 20 < zw v2 → ((zw v3 = 0 → (wp E 7 cX7_needs (some .int) Q 22 [some (.ref 64), some (zI v1), some (zI v2), some (zI v3), none, none, none, none] [] M)) ∧ (¬ zw v3 = 0 → ((zw v3 = 1 → (wp E 7 cX7_needs (some .int) Q 22 [some (.ref 64), some (zI v1), some (zI v2), some (zI v3), none, none, none, none] [] M)) ∧ (¬ zw v3 = 1 → (Q (-1) M))))))))) : wp E 7 cX7_needs (some .int) Q 0 [some (.ref 64), some (zI v1), some (zI v2), some (zI v3), none, none, none, none] [] M := by
  refine w_iload_n dX7_needs_0 rfl ?_
  refine w_iconst dX7_needs_1 ?_
  refine w_icmp_lt (tgt := 20) dX7_needs_2 (by decide) rfl zq_1 (fun q => ?_) (fun q => ?_)
  · have h := h.1 q
    refine w_iconst dX7_needs_20 ?_
    exact w_ri rfl dX7_needs_21 zq_m1 h
  · have h := h.2 q
    refine w_iload_n dX7_needs_5 rfl ?_
    refine w_bipush dX7_needs_6 (by decide) ?_
    refine w_icmp_gt (tgt := 20) dX7_needs_8 (by decide) rfl zq_20 (fun q => ?_) (fun q => ?_)
    · have h := h.1 q
      refine w_iconst dX7_needs_20 ?_
      exact w_ri rfl dX7_needs_21 zq_m1 h
    · have h := h.2 q
      refine w_iload_n dX7_needs_11 rfl ?_
      refine w_if_eq (tgt := 22) dX7_needs_12 (by decide) rfl (fun q => ?_) (fun q => ?_)
      · have h := h.1 q
        exact w_fgt (fgk (fgk (fgk (fgk (fgd (fgd (fgd (fgd (fgn))))))))) h
      · have h := h.2 q
        refine w_iload_n dX7_needs_15 rfl ?_
        refine w_iconst dX7_needs_16 ?_
        refine w_icmp_eq (tgt := 22) dX7_needs_17 (by decide) rfl zq_1 (fun q => ?_) (fun q => ?_)
        · have h := h.1 q
          exact w_fgt (fgk (fgk (fgk (fgk (fgd (fgd (fgd (fgd (fgn))))))))) h
        · have h := h.2 q
          refine w_iconst dX7_needs_20 ?_
          exact w_ri rfl dX7_needs_21 zq_m1 h
theorem v_X7_needs_22 {E : zE} {Q : Int → zM → Prop} {M : zM} (v1 : Int) (v2 : Int) (v3 : Int)  (h : E mX3_begin [.ref 320] M (fun r1 M2 => wp E 7 cX7_needs (some .int) Q 41 [some (.ref 64), none, some (zI v2), some (zI v3), some (zI v1), some (zI 0), some (zI 0), some (zI 0)] [] M2)) : wp E 7 cX7_needs (some .int) Q 22 [some (.ref 64), some (zI v1), some (zI v2), some (zI v3), none, none, none, none] [] M := by
  refine w_aload_n dX7_needs_22 rfl ?_
  refine w_gfO (ci := 7) (k := 2) (q := 320) dX7_needs_23 f7_30 ob_64 rfl rfl ?_
  refine w_invVv [] dX7_needs_26 l7_191 kX3_begin rfl rfl (Nat.le_of_ble_eq_true rfl) rfl ob_320 h (fun r1 M2 h => ?_)
  refine w_iload_n dX7_needs_29 rfl ?_
  refine w_istore dX7_needs_30 (Nat.le_of_ble_eq_true rfl) rfl ?_
  refine w_iconst dX7_needs_32 ?_
  refine w_istore dX7_needs_33 (Nat.le_of_ble_eq_true rfl) rfl ?_
  refine w_iconst dX7_needs_35 ?_
  refine w_istore dX7_needs_36 (Nat.le_of_ble_eq_true rfl) rfl ?_
  refine w_iconst dX7_needs_38 ?_
  refine w_istore dX7_needs_39 (Nat.le_of_ble_eq_true rfl) rfl ?_
  exact w_fgt (fgk (fgd (fgk (fgk (fgk (fgk (fgk (fgk (fgn))))))))) h
theorem v_X7_needs_41 {E : zE} {Q : Int → zM → Prop} {M : zM} (v2 : Int) (v3 : Int) (v4 : Int) (v5 : Int) (v6 : Int) (v7 : Int)  (h : (zw v7 < zw v2 → (E mX3_drawDeaths [.ref 320, zI v4] M (fun r2 M3 => E mX3_nameAll [.ref 320, zI 0] M3 (fun r4 M5 => E mX3_namesThatCame [.ref 320] M5 (fun r6 M7 => E mX3_namesThatCame [.ref 320] M7 (fun r8 M9 => wp E 7 cX7_needs (some .int) Q 41 [some (.ref 64), none, some (zI v2), some (zI v3), some (zI r2), some (zI (v5 + r6)), some (zI (if zw v6 < zw r8 then r8 else v6)), some (zI (v7 + 1))] [] M9)))))) ∧ (¬ zw v7 < zw v2 → ((zw v3 = 0 → ((¬ zw v2 = 0) ∧ (Q (z_div v5 v2) M))) ∧ (¬ zw v3 = 0 → (Q (zw v6) M))))) : wp E 7 cX7_needs (some .int) Q 41 [some (.ref 64), none, some (zI v2), some (zI v3), some (zI v4), some (zI v5), some (zI v6), some (zI v7)] [] M := by
  refine w_iload dX7_needs_41 rfl ?_
  refine w_iload_n dX7_needs_43 rfl ?_
  refine w_icmp_ge (tgt := 98) dX7_needs_44 (by decide) rfl rfl (fun q => ?_) (fun q => ?_)
  · have h := h.2 q
    refine w_iload_n dX7_needs_98 rfl ?_
    refine w_if_ne (tgt := 109) dX7_needs_99 (by decide) rfl (fun q => ?_) (fun q => ?_)
    · have h := h.2 q
      refine w_iload dX7_needs_109 rfl ?_
      exact w_ri rfl dX7_needs_111 rfl h
    · have h := h.1 q
      refine w_iload dX7_needs_102 rfl ?_
      refine w_iload_n dX7_needs_104 rfl ?_
      obtain ⟨c1, h⟩ := h
      refine w_idiv dX7_needs_105 c1 ?_
      refine w_goto (tgt := 111) dX7_needs_106 (by decide) ?_
      exact w_ri rfl dX7_needs_111 (zx_div _ _) h
  · have h := h.1 q
    refine w_aload_n dX7_needs_47 rfl ?_
    refine w_gfO (ci := 7) (k := 2) (q := 320) dX7_needs_48 f7_30 ob_64 rfl rfl ?_
    refine w_iload dX7_needs_51 rfl ?_
    refine w_invVi [_] dX7_needs_53 l7_230 kX3_drawDeaths rfl rfl (Nat.le_of_ble_eq_true rfl) (Or.inl rfl) ob_320 h (fun r2 M3 h => ?_)
    refine w_istore dX7_needs_56 (Nat.le_of_ble_eq_true rfl) rfl ?_
    refine w_aload_n dX7_needs_58 rfl ?_
    refine w_gfO (ci := 7) (k := 2) (q := 320) dX7_needs_59 f7_30 ob_64 rfl rfl ?_
    refine w_iconst dX7_needs_62 ?_
    refine w_invVv [_] dX7_needs_63 l7_194 kX3_nameAll rfl rfl (Nat.le_of_ble_eq_true rfl) rfl ob_320 h (fun r4 M5 h => ?_)
    refine w_iload dX7_needs_66 rfl ?_
    refine w_aload_n dX7_needs_68 rfl ?_
    refine w_gfO (ci := 7) (k := 2) (q := 320) dX7_needs_69 f7_30 ob_64 rfl rfl ?_
    refine w_invVi [] dX7_needs_72 l7_200 kX3_namesThatCame rfl rfl (Nat.le_of_ble_eq_true rfl) (Or.inl rfl) ob_320 h (fun r6 M7 h => ?_)
    refine w_iadd dX7_needs_75 ?_
    refine w_istore dX7_needs_76 (Nat.le_of_ble_eq_true rfl) rfl ?_
    refine w_iload dX7_needs_78 rfl ?_
    refine w_aload_n dX7_needs_80 rfl ?_
    refine w_gfO (ci := 7) (k := 2) (q := 320) dX7_needs_81 f7_30 ob_64 rfl rfl ?_
    refine w_invVi [] dX7_needs_84 l7_200 kX3_namesThatCame rfl rfl (Nat.le_of_ble_eq_true rfl) (Or.inl rfl) ob_320 h (fun r8 M9 h => ?_)
    refine w_mmax dX7_needs_87 l7_233 (Nat.le_of_ble_eq_true rfl) ?_
    refine w_istore dX7_needs_90 (Nat.le_of_ble_eq_true rfl) rfl ?_
    refine w_iinc dX7_needs_92 rfl rfl ?_
    refine w_goto (tgt := 41) dX7_needs_95 (by decide) ?_
    exact w_fgt (fgk (fgd (fgk (fgk (fgk (fgk (fgk (fgk (fgn))))))))) h
theorem e_X7_image {d : Nat} {Q : Int → zM → Prop} {M : zM}  (h : wp (Ev d) 7 cX7_image (some .int) Q 0 [some (.ref 64)] [] M) : Ev (d + 1) mX7_image [.ref 64] M Q := ⟨kX7_image, Nat.le_of_ble_eq_true rfl, h⟩
theorem v_X7_image_0 {E : zE} {Q : Int → zM → Prop} {M : zM}   (h : ∀ M1 : zM, M1 = zs M 64 8 (zg M 192 5) → (∀ M2 : zM, M2 = zci M1 196 72 0 0 12 → (Q (zg M2 64 8) M2))) : wp E 7 cX7_image (some .int) Q 0 [some (.ref 64)] [] M := by
  refine w_aload_n dX7_image_0 rfl ?_
  refine w_aload_n dX7_image_1 rfl ?_
  refine w_gfO (ci := 7) (k := 1) (q := 192) dX7_image_2 f7_21 ob_64 rfl rfl ?_
  refine w_gfI (ci := 4) (k := 5) dX7_image_5 f7_218 ob_192 rfl ?_
  have h := h _ rfl
  refine w_pfI (ci := 7) (k := 8) dX7_image_8 f7_68 ob_64 rfl rfl rfl ?_
  refine w_aload_n dX7_image_11 rfl ?_
  refine w_gfO (ci := 7) (k := 1) (q := 192) dX7_image_12 f7_21 ob_64 rfl rfl ?_
  refine w_gfA (ci := 4) (k := 3) dX7_image_15 f7_115 ob_192 rfl ?_
  refine w_iconst dX7_image_18 ?_
  refine w_aload_n dX7_image_19 rfl ?_
  refine w_gfA (ci := 7) (k := 7) dX7_image_20 f7_64 ob_64 rfl ?_
  refine w_iconst dX7_image_23 ?_
  refine w_bipush dX7_image_24 (by decide) ?_
  have h := h _ rfl
  refine w_cpyi dX7_image_26 (a4_3 ob_192) (a7_7 ob_64) l7_238 zq_0 zq_0 zq_12 (by decide) (by decide) (by decide) (by decide) (by decide) (Nat.le_of_ble_eq_true rfl) ?_
  refine w_aload_n dX7_image_29 rfl ?_
  refine w_gfI (ci := 7) (k := 8) dX7_image_30 f7_68 ob_64 rfl ?_
  exact w_ri rfl dX7_image_33 (zw_zg _ _ _) h
theorem e_X7_back {d : Nat} {Q : Int → zM → Prop} {M : zM}  (h : wp (Ev d) 7 cX7_back (some .int) Q 0 [some (.ref 64)] [] M) : Ev (d + 1) mX7_back [.ref 64] M Q := ⟨kX7_back, Nat.le_of_ble_eq_true rfl, h⟩
theorem v_X7_back_0 {E : zE} {Q : Int → zM → Prop} {M : zM}   (h : (zg M 64 8 = (-1) → (Q (-5) M)) ∧ (¬ zg M 64 8 = (-1) → ((0 ≤ zg M 64 8) ∧ ((0 + zg M 64 8 ≤ 12) ∧ ((0 + zg M 64 8 ≤ 12) ∧ (∀ M4 : zM, M4 = zci M 72 196 0 0 (zg M 64 8).toNat → (Q (zg M4 64 8) M4))))))) : wp E 7 cX7_back (some .int) Q 0 [some (.ref 64)] [] M := by
  refine w_aload_n dX7_back_0 rfl ?_
  refine w_gfI (ci := 7) (k := 8) dX7_back_1 f7_68 ob_64 rfl ?_
  refine w_iconst dX7_back_4 ?_
  refine w_icmp_ne (tgt := 11) dX7_back_5 (by decide) (zw_zg _ _ _) zq_m1 (fun q => ?_) (fun q => ?_)
  · have h := h.2 q
    refine w_aload_n dX7_back_11 rfl ?_
    refine w_gfA (ci := 7) (k := 7) dX7_back_12 f7_64 ob_64 rfl ?_
    refine w_iconst dX7_back_15 ?_
    refine w_aload_n dX7_back_16 rfl ?_
    refine w_gfO (ci := 7) (k := 1) (q := 192) dX7_back_17 f7_21 ob_64 rfl rfl ?_
    refine w_gfA (ci := 4) (k := 3) dX7_back_20 f7_115 ob_192 rfl ?_
    refine w_iconst dX7_back_23 ?_
    refine w_aload_n dX7_back_24 rfl ?_
    refine w_gfI (ci := 7) (k := 8) dX7_back_25 f7_68 ob_64 rfl ?_
    obtain ⟨c1, h⟩ := h
    obtain ⟨c2, h⟩ := h
    obtain ⟨c3, h⟩ := h
    have h := h _ rfl
    refine w_cpyi dX7_back_28 (a7_7 ob_64) (a4_3 ob_192) l7_238 zq_0 zq_0 (zw_zg _ _ _) (by decide) (by decide) c1 c2 c3 (Nat.le_of_ble_eq_true rfl) ?_
    refine w_aload_n dX7_back_31 rfl ?_
    refine w_gfI (ci := 7) (k := 8) dX7_back_32 f7_68 ob_64 rfl ?_
    exact w_ri rfl dX7_back_35 (zw_zg _ _ _) h
  · have h := h.1 q
    refine w_bipush dX7_back_8 (by decide) ?_
    exact w_ri rfl dX7_back_10 zq_m5 h
theorem e_X7_undo {d : Nat} {Q : Int → zM → Prop} {M : zM}  (h : wp (Ev d) 7 cX7_undo (some .int) Q 0 [some (.ref 64)] [] M) : Ev (d + 1) mX7_undo [.ref 64] M Q := ⟨kX7_undo, Nat.le_of_ble_eq_true rfl, h⟩
theorem v_X7_undo_0 {E : zE} {Q : Int → zM → Prop} {M : zM}   (h : E mX0_stepBack [.ref 448] M (fun r1 M2 => (zw r1 = 0 → (Q (-5) M2)) ∧ (¬ zw r1 = 0 → ((0 ≤ zg M2 448 4) ∧ ((zg M2 448 4 < 40) ∧ (E mX7_setChanged [.ref 64, zI (zg M2 451 (zg M2 448 4).toNat)] M2 (fun r5 M6 => Q (zg M6 448 4) M6))))))) : wp E 7 cX7_undo (some .int) Q 0 [some (.ref 64)] [] M := by
  refine w_aload_n dX7_undo_0 rfl ?_
  refine w_gfO (ci := 7) (k := 4) (q := 448) dX7_undo_1 f7_46 ob_64 rfl rfl ?_
  refine w_invVi [] dX7_undo_4 l7_244 kX0_stepBack rfl rfl (Nat.le_of_ble_eq_true rfl) (Or.inr rfl) ob_448 h (fun r1 M2 h => ?_)
  refine w_if_ne (tgt := 13) dX7_undo_7 (by decide) rfl (fun q => ?_) (fun q => ?_)
  · have h := h.2 q
    refine w_aload_n dX7_undo_13 rfl ?_
    refine w_aload_n dX7_undo_14 rfl ?_
    refine w_gfO (ci := 7) (k := 4) (q := 448) dX7_undo_15 f7_46 ob_64 rfl rfl ?_
    refine w_gfA (ci := 0) (k := 2) dX7_undo_18 f7_247 ob_448 rfl ?_
    refine w_aload_n dX7_undo_21 rfl ?_
    refine w_gfO (ci := 7) (k := 4) (q := 448) dX7_undo_22 f7_46 ob_64 rfl rfl ?_
    refine w_gfI (ci := 0) (k := 4) dX7_undo_25 f7_250 ob_448 rfl ?_
    obtain ⟨c3, h⟩ := h
    obtain ⟨c4, h⟩ := h
    refine w_iald dX7_undo_28 (zw_zg _ _ _) (a0_2 ob_448) c3 c4 ?_
    refine w_invVv [_] dX7_undo_29 l7_253 kX7_setChanged rfl rfl (Nat.le_of_ble_eq_true rfl) rfl ob_64 h (fun r5 M6 h => ?_)
    refine w_aload_n dX7_undo_32 rfl ?_
    refine w_gfO (ci := 7) (k := 4) (q := 448) dX7_undo_33 f7_46 ob_64 rfl rfl ?_
    refine w_gfI (ci := 0) (k := 4) dX7_undo_36 f7_250 ob_448 rfl ?_
    exact w_ri rfl dX7_undo_39 (zw_zg _ _ _) h
  · have h := h.1 q
    refine w_bipush dX7_undo_10 (by decide) ?_
    exact w_ri rfl dX7_undo_12 zq_m5 h
theorem e_X7_redo {d : Nat} {Q : Int → zM → Prop} {M : zM}  (h : wp (Ev d) 7 cX7_redo (some .int) Q 0 [some (.ref 64)] [] M) : Ev (d + 1) mX7_redo [.ref 64] M Q := ⟨kX7_redo, Nat.le_of_ble_eq_true rfl, h⟩
theorem v_X7_redo_0 {E : zE} {Q : Int → zM → Prop} {M : zM}   (h : E mX0_hasUndone [.ref 448] M (fun r1 M2 => (zw r1 = 0 → (Q (-5) M2)) ∧ (¬ zw r1 = 0 → ((0 ≤ zg M2 448 4) ∧ ((zg M2 448 4 < 40) ∧ (E mX7_setChanged [.ref 64, zI (zg M2 452 (zg M2 448 4).toNat)] M2 (fun r5 M6 => E mX0_stepOn [.ref 448] M6 (fun r7 M8 => Q (zw ((zg M8 448 5) - (zg M8 448 4))) M8)))))))) : wp E 7 cX7_redo (some .int) Q 0 [some (.ref 64)] [] M := by
  refine w_aload_n dX7_redo_0 rfl ?_
  refine w_gfO (ci := 7) (k := 4) (q := 448) dX7_redo_1 f7_46 ob_64 rfl rfl ?_
  refine w_invVi [] dX7_redo_4 l7_256 kX0_hasUndone rfl rfl (Nat.le_of_ble_eq_true rfl) (Or.inr rfl) ob_448 h (fun r1 M2 h => ?_)
  refine w_if_ne (tgt := 13) dX7_redo_7 (by decide) rfl (fun q => ?_) (fun q => ?_)
  · have h := h.2 q
    refine w_aload_n dX7_redo_13 rfl ?_
    refine w_aload_n dX7_redo_14 rfl ?_
    refine w_gfO (ci := 7) (k := 4) (q := 448) dX7_redo_15 f7_46 ob_64 rfl rfl ?_
    refine w_gfA (ci := 0) (k := 3) dX7_redo_18 f7_259 ob_448 rfl ?_
    refine w_aload_n dX7_redo_21 rfl ?_
    refine w_gfO (ci := 7) (k := 4) (q := 448) dX7_redo_22 f7_46 ob_64 rfl rfl ?_
    refine w_gfI (ci := 0) (k := 4) dX7_redo_25 f7_250 ob_448 rfl ?_
    obtain ⟨c3, h⟩ := h
    obtain ⟨c4, h⟩ := h
    refine w_iald dX7_redo_28 (zw_zg _ _ _) (a0_3 ob_448) c3 c4 ?_
    refine w_invVv [_] dX7_redo_29 l7_253 kX7_setChanged rfl rfl (Nat.le_of_ble_eq_true rfl) rfl ob_64 h (fun r5 M6 h => ?_)
    refine w_aload_n dX7_redo_32 rfl ?_
    refine w_gfO (ci := 7) (k := 4) (q := 448) dX7_redo_33 f7_46 ob_64 rfl rfl ?_
    refine w_invVv [] dX7_redo_36 l7_262 kX0_stepOn rfl rfl (Nat.le_of_ble_eq_true rfl) rfl ob_448 h (fun r7 M8 h => ?_)
    refine w_aload_n dX7_redo_39 rfl ?_
    refine w_gfO (ci := 7) (k := 4) (q := 448) dX7_redo_40 f7_46 ob_64 rfl rfl ?_
    refine w_gfI (ci := 0) (k := 5) dX7_redo_43 f7_265 ob_448 rfl ?_
    refine w_aload_n dX7_redo_46 rfl ?_
    refine w_gfO (ci := 7) (k := 4) (q := 448) dX7_redo_47 f7_46 ob_64 rfl rfl ?_
    refine w_gfI (ci := 0) (k := 4) dX7_redo_50 f7_250 ob_448 rfl ?_
    refine w_isub dX7_redo_53 ?_
    exact w_ri rfl dX7_redo_54 rfl h
  · have h := h.1 q
    refine w_bipush dX7_redo_10 (by decide) ?_
    exact w_ri rfl dX7_redo_12 zq_m5 h
theorem e_X7_body {d : Nat} {Q : Int → zM → Prop} {M : zM} (v1 : Int) (h : wp (Ev d) 7 cX7_body (some .int) Q 0 [some (.ref 64), some (zI v1)] [] M) : Ev (d + 1) mX7_body [.ref 64, zI v1] M Q := ⟨kX7_body, Nat.le_of_ble_eq_true rfl, h⟩
theorem v_X7_body_0 {E : zE} {Q : Int → zM → Prop} {M : zM} (v1 : Int)  (h : E mX7_isKind [zI v1] M (fun r1 M2 => (zw r1 = 0 → (Q (-1) M2)) ∧ (¬ zw r1 = 0 → (E mX1_add [.ref 512, zI v1] M2 (fun r3 M4 => Q (zw r3) M4))))) : wp E 7 cX7_body (some .int) Q 0 [some (.ref 64), some (zI v1)] [] M := by
  refine w_iload_n dX7_body_0 rfl ?_
  refine w_invSi [_] dX7_body_1 l7_268 kX7_isKind rfl rfl (Nat.le_of_ble_eq_true rfl) (Or.inr rfl) h (fun r1 M2 h => ?_)
  refine w_if_eq (tgt := 18) dX7_body_4 (by decide) rfl (fun q => ?_) (fun q => ?_)
  · have h := h.1 q
    refine w_iconst dX7_body_18 ?_
    exact w_ri rfl dX7_body_19 zq_m1 h
  · have h := h.2 q
    refine w_aload_n dX7_body_7 rfl ?_
    refine w_gfO (ci := 7) (k := 5) (q := 512) dX7_body_8 f7_53 ob_64 rfl rfl ?_
    refine w_iload_n dX7_body_11 rfl ?_
    refine w_invVi [_] dX7_body_12 l7_271 kX1_add rfl rfl (Nat.le_of_ble_eq_true rfl) (Or.inl rfl) ob_512 h (fun r3 M4 h => ?_)
    refine w_goto (tgt := 19) dX7_body_15 (by decide) ?_
    exact w_ri rfl dX7_body_19 rfl h
theorem e_X7_act {d : Nat} {Q : Int → zM → Prop} {M : zM} (v1 : Int) (v2 : Int) (v3 : Int) (h : wp (Ev d) 7 cX7_act (some .int) Q 0 [some (.ref 64), some (zI v1), some (zI v2), some (zI v3)] [] M) : Ev (d + 1) mX7_act [.ref 64, zI v1, zI v2, zI v3] M Q := ⟨kX7_act, Nat.le_of_ble_eq_true rfl, h⟩
theorem v_X7_act_0 {E : zE} {Q : Int → zM → Prop} {M : zM} (v1 : Int) (v2 : Int) (v3 : Int)  (h : E mX1_perform [.ref 512, zI v1, zI v2, zI v3] M (fun r1 M2 => Q (zw r1) M2)) : wp E 7 cX7_act (some .int) Q 0 [some (.ref 64), some (zI v1), some (zI v2), some (zI v3)] [] M := by
  refine w_aload_n dX7_act_0 rfl ?_
  refine w_gfO (ci := 7) (k := 5) (q := 512) dX7_act_1 f7_53 ob_64 rfl rfl ?_
  refine w_iload_n dX7_act_4 rfl ?_
  refine w_iload_n dX7_act_5 rfl ?_
  refine w_iload_n dX7_act_6 rfl ?_
  refine w_invVi [_, _, _] dX7_act_7 l7_273 kX1_perform rfl rfl (Nat.le_of_ble_eq_true rfl) (Or.inl rfl) ob_512 h (fun r1 M2 h => ?_)
  exact w_ri rfl dX7_act_10 rfl h
theorem e_X7_trace {d : Nat} {Q : Int → zM → Prop} {M : zM} (v1 : Int) (h : wp (Ev d) 7 cX7_trace (some .int) Q 0 [some (.ref 64), some (zI v1)] [] M) : Ev (d + 1) mX7_trace [.ref 64, zI v1] M Q := ⟨kX7_trace, Nat.le_of_ble_eq_true rfl, h⟩
theorem v_X7_trace_0 {E : zE} {Q : Int → zM → Prop} {M : zM} (v1 : Int)  (h : (zw v1 < 0 → (Q (-1) M)) ∧ (¬ zw v1 < 0 → (E mX1_traced [.ref 512] M (fun r1 M2 => (zw v1 < zw r1 → ((0 ≤ zw v1) ∧ ((zw v1 < 24) ∧ (Q (zg M2 515 (zw v1).toNat) M2)))) ∧ (¬ zw v1 < zw r1 → (Q (-1) M2)))))) : wp E 7 cX7_trace (some .int) Q 0 [some (.ref 64), some (zI v1)] [] M := by
  refine w_iload_n dX7_trace_0 rfl ?_
  refine w_if_lt (tgt := 27) dX7_trace_1 (by decide) rfl (fun q => ?_) (fun q => ?_)
  · have h := h.1 q
    refine w_iconst dX7_trace_27 ?_
    exact w_ri rfl dX7_trace_28 zq_m1 h
  · have h := h.2 q
    refine w_iload_n dX7_trace_4 rfl ?_
    refine w_aload_n dX7_trace_5 rfl ?_
    refine w_gfO (ci := 7) (k := 5) (q := 512) dX7_trace_6 f7_53 ob_64 rfl rfl ?_
    refine w_invVi [] dX7_trace_9 l7_276 kX1_traced rfl rfl (Nat.le_of_ble_eq_true rfl) (Or.inl rfl) ob_512 h (fun r1 M2 h => ?_)
    refine w_icmp_ge (tgt := 27) dX7_trace_12 (by decide) rfl rfl (fun q => ?_) (fun q => ?_)
    · have h := h.2 q
      refine w_iconst dX7_trace_27 ?_
      exact w_ri rfl dX7_trace_28 zq_m1 h
    · have h := h.1 q
      refine w_aload_n dX7_trace_15 rfl ?_
      refine w_gfO (ci := 7) (k := 5) (q := 512) dX7_trace_16 f7_53 ob_64 rfl rfl ?_
      refine w_gfA (ci := 1) (k := 2) dX7_trace_19 f7_279 ob_512 rfl ?_
      refine w_iload_n dX7_trace_22 rfl ?_
      obtain ⟨c3, h⟩ := h
      obtain ⟨c4, h⟩ := h
      refine w_iald dX7_trace_23 rfl (a1_2 ob_512) c3 c4 ?_
      refine w_goto (tgt := 28) dX7_trace_24 (by decide) ?_
      exact w_ri rfl dX7_trace_28 (zw_zg _ _ _) h
theorem e_X7_keep {d : Nat} {Q : Int → zM → Prop} {M : zM} (v1 : Int) (v2 : Int) (h : wp (Ev d) 7 cX7_keep (some .int) Q 0 [some (.ref 64), some (zI v1), some (zI v2)] [] M) : Ev (d + 1) mX7_keep [.ref 64, zI v1, zI v2] M Q := ⟨kX7_keep, Nat.le_of_ble_eq_true rfl, h⟩
theorem v_X7_keep_0 {E : zE} {Q : Int → zM → Prop} {M : zM} (v1 : Int) (v2 : Int)  (h : E mX7_isShelf [zI v1] M (fun r1 M2 => (zw r1 = 0 → (Q (-1) M2)) ∧ (¬ zw r1 = 0 → ((zw v2 = (-1) → (wp E 7 cX7_keep (some .int) Q 25 [some (.ref 64), some (zI v1), some (zI v2)] [] M2)) ∧ (¬ zw v2 = (-1) → (E mX1_has [.ref 512, zI v2] M2 (fun r3 M4 => (zw r3 = 0 → (Q (-1) M4)) ∧ (¬ zw r3 = 0 → (wp E 7 cX7_keep (some .int) Q 25 [some (.ref 64), some (zI v1), some (zI v2)] [] M4))))))))) : wp E 7 cX7_keep (some .int) Q 0 [some (.ref 64), some (zI v1), some (zI v2)] [] M := by
  refine w_iload_n dX7_keep_0 rfl ?_
  refine w_invSi [_] dX7_keep_1 l7_80 kX7_isShelf rfl rfl (Nat.le_of_ble_eq_true rfl) (Or.inr rfl) h (fun r1 M2 h => ?_)
  refine w_if_eq (tgt := 23) dX7_keep_4 (by decide) rfl (fun q => ?_) (fun q => ?_)
  · have h := h.1 q
    refine w_iconst dX7_keep_23 ?_
    exact w_ri rfl dX7_keep_24 zq_m1 h
  · have h := h.2 q
    refine w_iload_n dX7_keep_7 rfl ?_
    refine w_iconst dX7_keep_8 ?_
    refine w_icmp_eq (tgt := 25) dX7_keep_9 (by decide) rfl zq_m1 (fun q => ?_) (fun q => ?_)
    · have h := h.1 q
      exact w_fgt (fgk (fgk (fgk (fgn)))) h
    · have h := h.2 q
      refine w_aload_n dX7_keep_12 rfl ?_
      refine w_gfO (ci := 7) (k := 5) (q := 512) dX7_keep_13 f7_53 ob_64 rfl rfl ?_
      refine w_iload_n dX7_keep_16 rfl ?_
      refine w_invVi [_] dX7_keep_17 l7_282 kX1_has rfl rfl (Nat.le_of_ble_eq_true rfl) (Or.inr rfl) ob_512 h (fun r3 M4 h => ?_)
      refine w_if_ne (tgt := 25) dX7_keep_20 (by decide) rfl (fun q => ?_) (fun q => ?_)
      · have h := h.2 q
        exact w_fgt (fgk (fgk (fgk (fgn)))) h
      · have h := h.1 q
        refine w_iconst dX7_keep_23 ?_
        exact w_ri rfl dX7_keep_24 zq_m1 h
theorem v_X7_keep_25 {E : zE} {Q : Int → zM → Prop} {M : zM} (v1 : Int) (v2 : Int)  (h : (0 ≤ zw v1) ∧ ((zw v1 < 6) ∧ (E mX6_holdBody [.ref (640 + 64 * (zw v1).toNat), zI v2] M (fun r3 M4 => Q 1 M4)))) : wp E 7 cX7_keep (some .int) Q 25 [some (.ref 64), some (zI v1), some (zI v2)] [] M := by
  refine w_aload_n dX7_keep_25 rfl ?_
  refine w_gfA (ci := 7) (k := 6) dX7_keep_26 f7_59 ob_64 rfl ?_
  refine w_iload_n dX7_keep_29 rfl ?_
  obtain ⟨c1, h⟩ := h
  obtain ⟨c2, h⟩ := h
  refine w_aald dX7_keep_30 rfl (a7_6 ob_64) c1 c2 ?_
  refine w_iload_n dX7_keep_31 rfl ?_
  refine w_invVv [_] dX7_keep_32 l7_285 kX6_holdBody rfl rfl (Nat.le_of_ble_eq_true rfl) rfl (ob_sh (zsh c1 c2)) h (fun r3 M4 h => ?_)
  refine w_iconst dX7_keep_35 ?_
  exact w_ri rfl dX7_keep_36 zq_1 h
theorem e_X7_row {d : Nat} {Q : Int → zM → Prop} {M : zM} (v1 : Int) (v2 : Int) (v3 : Int) (h : wp (Ev d) 7 cX7_row (some .int) Q 0 [some (.ref 64), some (zI v1), some (zI v2), some (zI v3)] [] M) : Ev (d + 1) mX7_row [.ref 64, zI v1, zI v2, zI v3] M Q := ⟨kX7_row, Nat.le_of_ble_eq_true rfl, h⟩
theorem v_X7_row_0 {E : zE} {Q : Int → zM → Prop} {M : zM} (v1 : Int) (v2 : Int) (v3 : Int)  (h : E mX7_isShelf [zI v1] M (fun r1 M2 => (zw r1 = 0 → (Q (-1) M2)) ∧ (¬ zw r1 = 0 → ((zw v2 < 0 → (Q (-1) M2)) ∧ (¬ zw v2 < 0 → ((4 < zw v2 → (Q (-1) M2)) ∧ (¬ 4 < zw v2 → ((60 < zw v3 → (Q (-1) M2)) ∧ (¬ 60 < zw v3 → ((zw v3 < 0 → (Q (-14) M2)) ∧ (¬ zw v3 < 0 → ((0 ≤ zw v1) ∧ ((zw v1 < 6) ∧ (E mX6_holdRow [.ref (640 + 64 * (zw v1).toNat), zI v2, zI v3] M2 (fun r5 M6 => Q 1 M6))))))))))))))) : wp E 7 cX7_row (some .int) Q 0 [some (.ref 64), some (zI v1), some (zI v2), some (zI v3)] [] M := by
  refine w_iload_n dX7_row_0 rfl ?_
  refine w_invSi [_] dX7_row_1 l7_80 kX7_isShelf rfl rfl (Nat.le_of_ble_eq_true rfl) (Or.inr rfl) h (fun r1 M2 h => ?_)
  refine w_if_eq (tgt := 22) dX7_row_4 (by decide) rfl (fun q => ?_) (fun q => ?_)
  · have h := h.1 q
    refine w_iconst dX7_row_22 ?_
    exact w_ri rfl dX7_row_23 zq_m1 h
  · have h := h.2 q
    refine w_iload_n dX7_row_7 rfl ?_
    refine w_if_lt (tgt := 22) dX7_row_8 (by decide) rfl (fun q => ?_) (fun q => ?_)
    · have h := h.1 q
      refine w_iconst dX7_row_22 ?_
      exact w_ri rfl dX7_row_23 zq_m1 h
    · have h := h.2 q
      refine w_iload_n dX7_row_11 rfl ?_
      refine w_iconst dX7_row_12 ?_
      refine w_icmp_gt (tgt := 22) dX7_row_13 (by decide) rfl zq_4 (fun q => ?_) (fun q => ?_)
      · have h := h.1 q
        refine w_iconst dX7_row_22 ?_
        exact w_ri rfl dX7_row_23 zq_m1 h
      · have h := h.2 q
        refine w_iload_n dX7_row_16 rfl ?_
        refine w_bipush dX7_row_17 (by decide) ?_
        refine w_icmp_le (tgt := 24) dX7_row_19 (by decide) rfl zq_60 (fun q => ?_) (fun q => ?_)
        · have h := h.2 q
          refine w_iload_n dX7_row_24 rfl ?_
          refine w_if_ge (tgt := 31) dX7_row_25 (by decide) rfl (fun q => ?_) (fun q => ?_)
          · have h := h.2 q
            refine w_aload_n dX7_row_31 rfl ?_
            refine w_gfA (ci := 7) (k := 6) dX7_row_32 f7_59 ob_64 rfl ?_
            refine w_iload_n dX7_row_35 rfl ?_
            obtain ⟨c3, h⟩ := h
            obtain ⟨c4, h⟩ := h
            refine w_aald dX7_row_36 rfl (a7_6 ob_64) c3 c4 ?_
            refine w_iload_n dX7_row_37 rfl ?_
            refine w_iload_n dX7_row_38 rfl ?_
            refine w_invVv [_, _] dX7_row_39 l7_288 kX6_holdRow rfl rfl (Nat.le_of_ble_eq_true rfl) rfl (ob_sh (zsh c3 c4)) h (fun r5 M6 h => ?_)
            refine w_iconst dX7_row_42 ?_
            exact w_ri rfl dX7_row_43 zq_1 h
          · have h := h.1 q
            refine w_bipush dX7_row_28 (by decide) ?_
            exact w_ri rfl dX7_row_30 zq_m14 h
        · have h := h.1 q
          refine w_iconst dX7_row_22 ?_
          exact w_ri rfl dX7_row_23 zq_m1 h
theorem e_X7_put {d : Nat} {Q : Int → zM → Prop} {M : zM} (v1 : Int) (v2 : Int) (v3 : Int) (h : wp (Ev d) 7 cX7_put (some .int) Q 0 [some (.ref 64), some (zI v1), some (zI v2), some (zJ v3), none, none] [] M) : Ev (d + 1) mX7_put [.ref 64, zI v1, zI v2, zJ v3] M Q := ⟨kX7_put, Nat.le_of_ble_eq_true rfl, h⟩
theorem v_X7_put_0 {E : zE} {Q : Int → zM → Prop} {M : zM} (v1 : Int) (v2 : Int) (v3 : Int)  (h : E mX7_refusalOf [.ref 64, zI v1, zI v2] M (fun r1 M2 => (zw r1 = 0 → ((0 ≤ zw v1) ∧ ((zw v1 < 6) ∧ (E mX6_setElement [.ref (640 + 64 * (zw v1).toNat), zI v2, zJ v3] M2 (fun r5 M6 => Q 1 M6))))) ∧ (¬ zw r1 = 0 → (Q (zw r1) M2)))) : wp E 7 cX7_put (some .int) Q 0 [some (.ref 64), some (zI v1), some (zI v2), some (zJ v3), none, none] [] M := by
  refine w_aload_n dX7_put_0 rfl ?_
  refine w_iload_n dX7_put_1 rfl ?_
  refine w_iload_n dX7_put_2 rfl ?_
  refine w_invVi [_, _] dX7_put_3 l7_292 kX7_refusalOf rfl rfl (Nat.le_of_ble_eq_true rfl) (Or.inl rfl) ob_64 h (fun r1 M2 h => ?_)
  refine w_istore dX7_put_6 (Nat.le_of_ble_eq_true rfl) rfl ?_
  refine w_iload dX7_put_8 rfl ?_
  refine w_if_eq (tgt := 16) dX7_put_10 (by decide) rfl (fun q => ?_) (fun q => ?_)
  · have h := h.1 q
    refine w_aload_n dX7_put_16 rfl ?_
    refine w_gfA (ci := 7) (k := 6) dX7_put_17 f7_59 ob_64 rfl ?_
    refine w_iload_n dX7_put_20 rfl ?_
    obtain ⟨c3, h⟩ := h
    obtain ⟨c4, h⟩ := h
    refine w_aald dX7_put_21 rfl (a7_6 ob_64) c3 c4 ?_
    refine w_iload_n dX7_put_22 rfl ?_
    refine w_lload_n dX7_put_23 rfl ?_
    refine w_invVv [_, _] dX7_put_24 l7_295 kX6_setElement rfl rfl (Nat.le_of_ble_eq_true rfl) rfl (ob_sh (zsh c3 c4)) h (fun r5 M6 h => ?_)
    refine w_iconst dX7_put_27 ?_
    exact w_ri rfl dX7_put_28 zq_1 h
  · have h := h.2 q
    refine w_iload dX7_put_13 rfl ?_
    exact w_ri rfl dX7_put_15 rfl h
theorem e_X7_element {d : Nat} {Q : Int → zM → Prop} {M : zM} (v1 : Int) (v2 : Int) (h : wp (Ev d) 7 cX7_element (some .long) Q 0 [some (.ref 64), some (zI v1), some (zI v2)] [] M) : Ev (d + 1) mX7_element [.ref 64, zI v1, zI v2] M Q := ⟨kX7_element, Nat.le_of_ble_eq_true rfl, h⟩
theorem v_X7_element_0 {E : zE} {Q : Int → zM → Prop} {M : zM} (v1 : Int) (v2 : Int)  (h : E mX7_refusalOf [.ref 64, zI v1, zI v2] M (fun r1 M2 => (zw r1 = 0 → ((0 ≤ zw v1) ∧ ((zw v1 < 6) ∧ ((0 ≤ zw v2) ∧ ((zw v2 < 60) ∧ (Q (zh M2 ((640 + 64 * (zw v1).toNat) + 1) (zw v2).toNat) M2)))))) ∧ (¬ zw r1 = 0 → (Q (-9223372036854775808) M2)))) : wp E 7 cX7_element (some .long) Q 0 [some (.ref 64), some (zI v1), some (zI v2)] [] M := by
  refine w_aload_n dX7_element_0 rfl ?_
  refine w_iload_n dX7_element_1 rfl ?_
  refine w_iload_n dX7_element_2 rfl ?_
  refine w_invVi [_, _] dX7_element_3 l7_292 kX7_refusalOf rfl rfl (Nat.le_of_ble_eq_true rfl) (Or.inl rfl) ob_64 h (fun r1 M2 h => ?_)
  refine w_if_ne (tgt := 23) dX7_element_6 (by decide) rfl (fun q => ?_) (fun q => ?_)
  · have h := h.2 q
    refine w_ldc2 (n := -9223372036854775808) dX7_element_23 o7_305 ?_
    exact w_rl rfl dX7_element_26 zqv_m9223372036854775808 h
  · have h := h.1 q
    refine w_aload_n dX7_element_9 rfl ?_
    refine w_gfA (ci := 7) (k := 6) dX7_element_10 f7_59 ob_64 rfl ?_
    refine w_iload_n dX7_element_13 rfl ?_
    obtain ⟨c3, h⟩ := h
    obtain ⟨c4, h⟩ := h
    refine w_aald dX7_element_14 rfl (a7_6 ob_64) c3 c4 ?_
    refine w_gfA (ci := 6) (k := 0) dX7_element_15 f7_299 (ob_sh (zsh c3 c4)) rfl ?_
    refine w_iload_n dX7_element_18 rfl ?_
    obtain ⟨c5, h⟩ := h
    obtain ⟨c6, h⟩ := h
    refine w_lald dX7_element_19 rfl (a6_0 (ob_sh (zsh c3 c4))) c5 c6 ?_
    refine w_goto (tgt := 26) dX7_element_20 (by decide) ?_
    exact w_rl rfl dX7_element_26 (zv_zh _ _ _) h
theorem e_X7_shift {d : Nat} {Q : Int → zM → Prop} {M : zM} (v1 : Int) (v2 : Int) (v3 : Int) (v4 : Int) (v5 : Int) (h : wp (Ev d) 7 cX7_shift (some .int) Q 0 [some (.ref 64), some (zI v1), some (zI v2), some (zI v3), some (zI v4), some (zI v5), none, none] [] M) : Ev (d + 1) mX7_shift [.ref 64, zI v1, zI v2, zI v3, zI v4, zI v5] M Q := ⟨kX7_shift, Nat.le_of_ble_eq_true rfl, h⟩
theorem v_X7_shift_0 {E : zE} {Q : Int → zM → Prop} {M : zM} (v1 : Int) (v2 : Int) (v3 : Int) (v4 : Int) (v5 : Int)  (h : E mX7_isShelf [zI v1] M (fun r1 M2 => (zw r1 = 0 → (Q (-1) M2)) ∧ (¬ zw r1 = 0 → (E mX7_isShelf [zI v3] M2 (fun r3 M4 => (zw r3 = 0 → (Q (-1) M4)) ∧ (¬ zw r3 = 0 → ((0 ≤ zw v1) ∧ ((zw v1 < 6) ∧ ((0 ≤ zw v3) ∧ ((zw v3 < 6) ∧ (E mX6_isEmpty [.ref (640 + 64 * (zw v1).toNat)] M4 (fun r9 M10 => (zw r9 = 0 → (E mX6_isEmpty [.ref (640 + 64 * (zw v3).toNat)] M10 (fun r11 M12 => (zw r11 = 0 → (E mX6_isRow [.ref (640 + 64 * (zw v1).toNat)] M12 (fun r13 M14 => (zw r13 = 0 → (Q (-12) M14)) ∧ (¬ zw r13 = 0 → (E mX6_isRow [.ref (640 + 64 * (zw v3).toNat)] M14 (fun r15 M16 => (zw r15 = 0 → (Q (-12) M16)) ∧ (¬ zw r15 = 0 → ((zg M16 (640 + 64 * (zw v1).toNat) 2 = zg M16 (640 + 64 * (zw v3).toNat) 2 → (E mX6_hasPlaces [.ref (640 + 64 * (zw v1).toNat), zI v2, zI v5] M16 (fun r17 M18 => (zw r17 = 0 → (Q (-13) M18)) ∧ (¬ zw r17 = 0 → (E mX6_hasPlaces [.ref (640 + 64 * (zw v3).toNat), zI v4, zI v5] M18 (fun r19 M20 => (zw r19 = 0 → (Q (-13) M20)) ∧ (¬ zw r19 = 0 → ((0 ≤ zw v2) ∧ ((0 ≤ zw v4) ∧ ((0 ≤ zw v5) ∧ ((zw v2 + zw v5 ≤ 60) ∧ ((zw v4 + zw v5 ≤ 60) ∧ (∀ M26 : zM, M26 = zcl M20 ((640 + 64 * (zw v1).toNat) + 1) ((640 + 64 * (zw v3).toNat) + 1) (zw v2).toNat (zw v4).toNat (zw v5).toNat → (Q (zw v5) M26)))))))))))))) ∧ (¬ zg M16 (640 + 64 * (zw v1).toNat) 2 = zg M16 (640 + 64 * (zw v3).toNat) 2 → (Q (-12) M16)))))))))) ∧ (¬ zw r11 = 0 → (Q (-11) M12))))) ∧ (¬ zw r9 = 0 → (Q (-11) M10)))))))))))))) : wp E 7 cX7_shift (some .int) Q 0 [some (.ref 64), some (zI v1), some (zI v2), some (zI v3), some (zI v4), some (zI v5), none, none] [] M := by
  refine w_iload_n dX7_shift_0 rfl ?_
  refine w_invSi [_] dX7_shift_1 l7_80 kX7_isShelf rfl rfl (Nat.le_of_ble_eq_true rfl) (Or.inr rfl) h (fun r1 M2 h => ?_)
  refine w_if_eq (tgt := 14) dX7_shift_4 (by decide) rfl (fun q => ?_) (fun q => ?_)
  · have h := h.1 q
    refine w_iconst dX7_shift_14 ?_
    exact w_ri rfl dX7_shift_15 zq_m1 h
  · have h := h.2 q
    refine w_iload_n dX7_shift_7 rfl ?_
    refine w_invSi [_] dX7_shift_8 l7_80 kX7_isShelf rfl rfl (Nat.le_of_ble_eq_true rfl) (Or.inr rfl) h (fun r3 M4 h => ?_)
    refine w_if_ne (tgt := 16) dX7_shift_11 (by decide) rfl (fun q => ?_) (fun q => ?_)
    · have h := h.2 q
      refine w_aload_n dX7_shift_16 rfl ?_
      refine w_gfA (ci := 7) (k := 6) dX7_shift_17 f7_59 ob_64 rfl ?_
      refine w_iload_n dX7_shift_20 rfl ?_
      obtain ⟨c5, h⟩ := h
      obtain ⟨c6, h⟩ := h
      refine w_aald dX7_shift_21 rfl (a7_6 ob_64) c5 c6 ?_
      refine w_astore dX7_shift_22 (Nat.le_of_ble_eq_true rfl) rfl ?_
      refine w_aload_n dX7_shift_24 rfl ?_
      refine w_gfA (ci := 7) (k := 6) dX7_shift_25 f7_59 ob_64 rfl ?_
      refine w_iload_n dX7_shift_28 rfl ?_
      obtain ⟨c7, h⟩ := h
      obtain ⟨c8, h⟩ := h
      refine w_aald dX7_shift_29 rfl (a7_6 ob_64) c7 c8 ?_
      refine w_astore dX7_shift_30 (Nat.le_of_ble_eq_true rfl) rfl ?_
      refine w_aload dX7_shift_32 rfl ?_
      refine w_invVi [] dX7_shift_34 l7_84 kX6_isEmpty rfl rfl (Nat.le_of_ble_eq_true rfl) (Or.inr rfl) (ob_sh (zsh c5 c6)) h (fun r9 M10 h => ?_)
      refine w_if_ne (tgt := 48) dX7_shift_37 (by decide) rfl (fun q => ?_) (fun q => ?_)
      · have h := h.2 q
        refine w_bipush dX7_shift_48 (by decide) ?_
        exact w_ri rfl dX7_shift_50 zq_m11 h
      · have h := h.1 q
        refine w_aload dX7_shift_40 rfl ?_
        refine w_invVi [] dX7_shift_42 l7_84 kX6_isEmpty rfl rfl (Nat.le_of_ble_eq_true rfl) (Or.inr rfl) (ob_sh (zsh c7 c8)) h (fun r11 M12 h => ?_)
        refine w_if_eq (tgt := 51) dX7_shift_45 (by decide) rfl (fun q => ?_) (fun q => ?_)
        · have h := h.1 q
          refine w_aload dX7_shift_51 rfl ?_
          refine w_invVi [] dX7_shift_53 l7_88 kX6_isRow rfl rfl (Nat.le_of_ble_eq_true rfl) (Or.inr rfl) (ob_sh (zsh c5 c6)) h (fun r13 M14 h => ?_)
          refine w_if_eq (tgt := 80) dX7_shift_56 (by decide) rfl (fun q => ?_) (fun q => ?_)
          · have h := h.1 q
            refine w_bipush dX7_shift_80 (by decide) ?_
            exact w_ri rfl dX7_shift_82 zq_m12 h
          · have h := h.2 q
            refine w_aload dX7_shift_59 rfl ?_
            refine w_invVi [] dX7_shift_61 l7_88 kX6_isRow rfl rfl (Nat.le_of_ble_eq_true rfl) (Or.inr rfl) (ob_sh (zsh c7 c8)) h (fun r15 M16 h => ?_)
            refine w_if_eq (tgt := 80) dX7_shift_64 (by decide) rfl (fun q => ?_) (fun q => ?_)
            · have h := h.1 q
              refine w_bipush dX7_shift_80 (by decide) ?_
              exact w_ri rfl dX7_shift_82 zq_m12 h
            · have h := h.2 q
              refine w_aload dX7_shift_67 rfl ?_
              refine w_gfI (ci := 6) (k := 2) dX7_shift_69 f7_91 (ob_sh (zsh c5 c6)) rfl ?_
              refine w_aload dX7_shift_72 rfl ?_
              refine w_gfI (ci := 6) (k := 2) dX7_shift_74 f7_91 (ob_sh (zsh c7 c8)) rfl ?_
              refine w_icmp_eq (tgt := 83) dX7_shift_77 (by decide) (zw_zg _ _ _) (zw_zg _ _ _) (fun q => ?_) (fun q => ?_)
              · have h := h.1 q
                refine w_aload dX7_shift_83 rfl ?_
                refine w_iload_n dX7_shift_85 rfl ?_
                refine w_iload dX7_shift_86 rfl ?_
                refine w_invVi [_, _] dX7_shift_88 l7_307 kX6_hasPlaces rfl rfl (Nat.le_of_ble_eq_true rfl) (Or.inr rfl) (ob_sh (zsh c5 c6)) h (fun r17 M18 h => ?_)
                refine w_if_eq (tgt := 106) dX7_shift_91 (by decide) rfl (fun q => ?_) (fun q => ?_)
                · have h := h.1 q
                  refine w_bipush dX7_shift_106 (by decide) ?_
                  exact w_ri rfl dX7_shift_108 zq_m13 h
                · have h := h.2 q
                  refine w_aload dX7_shift_94 rfl ?_
                  refine w_iload dX7_shift_96 rfl ?_
                  refine w_iload dX7_shift_98 rfl ?_
                  refine w_invVi [_, _] dX7_shift_100 l7_307 kX6_hasPlaces rfl rfl (Nat.le_of_ble_eq_true rfl) (Or.inr rfl) (ob_sh (zsh c7 c8)) h (fun r19 M20 h => ?_)
                  refine w_if_ne (tgt := 109) dX7_shift_103 (by decide) rfl (fun q => ?_) (fun q => ?_)
                  · have h := h.2 q
                    refine w_aload dX7_shift_109 rfl ?_
                    refine w_gfA (ci := 6) (k := 0) dX7_shift_111 f7_299 (ob_sh (zsh c5 c6)) rfl ?_
                    refine w_iload_n dX7_shift_114 rfl ?_
                    refine w_aload dX7_shift_115 rfl ?_
                    refine w_gfA (ci := 6) (k := 0) dX7_shift_117 f7_299 (ob_sh (zsh c7 c8)) rfl ?_
                    refine w_iload dX7_shift_120 rfl ?_
                    refine w_iload dX7_shift_122 rfl ?_
                    obtain ⟨c21, h⟩ := h
                    obtain ⟨c22, h⟩ := h
                    obtain ⟨c23, h⟩ := h
                    obtain ⟨c24, h⟩ := h
                    obtain ⟨c25, h⟩ := h
                    have h := h _ rfl
                    refine w_cpyl dX7_shift_124 (a6_0 (ob_sh (zsh c5 c6))) (a6_0 (ob_sh (zsh c7 c8))) l7_238 rfl rfl rfl c21 c22 c23 c24 c25 (Nat.le_of_ble_eq_true rfl) ?_
                    refine w_iload dX7_shift_127 rfl ?_
                    exact w_ri rfl dX7_shift_129 rfl h
                  · have h := h.1 q
                    refine w_bipush dX7_shift_106 (by decide) ?_
                    exact w_ri rfl dX7_shift_108 zq_m13 h
              · have h := h.2 q
                refine w_bipush dX7_shift_80 (by decide) ?_
                exact w_ri rfl dX7_shift_82 zq_m12 h
        · have h := h.2 q
          refine w_bipush dX7_shift_48 (by decide) ?_
          exact w_ri rfl dX7_shift_50 zq_m11 h
    · have h := h.1 q
      refine w_iconst dX7_shift_14 ?_
      exact w_ri rfl dX7_shift_15 zq_m1 h
theorem e_X7_taken {d : Nat} {Q : Int → zM → Prop} {M : zM} (v1 : Int) (v2 : Int) (h : wp (Ev d) 7 cX7_taken (some .int) Q 0 [some (.ref 64), some (zI v1), some (zI v2), none, none] [] M) : Ev (d + 1) mX7_taken [.ref 64, zI v1, zI v2] M Q := ⟨kX7_taken, Nat.le_of_ble_eq_true rfl, h⟩
theorem v_X7_taken_0 {E : zE} {Q : Int → zM → Prop} {M : zM} (v1 : Int) (v2 : Int)  (h : E mX7_isShelf [zI v1] M (fun r1 M2 => (zw r1 = 0 → (Q (-1) M2)) ∧ (¬ zw r1 = 0 → (E mX7_isKind [zI v2] M2 (fun r3 M4 => (zw r3 = 0 → (Q (-1) M4)) ∧ (¬ zw r3 = 0 → ((0 ≤ zw v1) ∧ ((zw v1 < 6) ∧ (E mX6_isEmpty [.ref (640 + 64 * (zw v1).toNat)] M4 (fun r7 M8 => (zw r7 = 0 → (E mX6_isRow [.ref (640 + 64 * (zw v1).toNat)] M8 (fun r9 M10 => (zw r9 = 0 → (E mX1_has [.ref 512, zI (zg M10 (640 + 64 * (zw v1).toNat) 1)] M10 (fun r11 M12 => (zw r11 = 0 → (Q (-12) M12)) ∧ (¬ zw r11 = 0 → ((0 ≤ zg M12 (640 + 64 * (zw v1).toNat) 1) ∧ ((zg M12 (640 + 64 * (zw v1).toNat) 1 < 50) ∧ (E mX1_isUnder [zI (zg M12 513 (zg M12 (640 + 64 * (zw v1).toNat) 1).toNat), zI v2] M12 (fun r15 M16 => (zw r15 = 0 → (Q (-12) M16)) ∧ (¬ zw r15 = 0 → (Q (zg M12 513 (zg M12 (640 + 64 * (zw v1).toNat) 1).toNat) M16)))))))))) ∧ (¬ zw r9 = 0 → (Q (-12) M10))))) ∧ (¬ zw r7 = 0 → (Q (-11) M8)))))))))))) : wp E 7 cX7_taken (some .int) Q 0 [some (.ref 64), some (zI v1), some (zI v2), none, none] [] M := by
  refine w_iload_n dX7_taken_0 rfl ?_
  refine w_invSi [_] dX7_taken_1 l7_80 kX7_isShelf rfl rfl (Nat.le_of_ble_eq_true rfl) (Or.inr rfl) h (fun r1 M2 h => ?_)
  refine w_if_eq (tgt := 14) dX7_taken_4 (by decide) rfl (fun q => ?_) (fun q => ?_)
  · have h := h.1 q
    refine w_iconst dX7_taken_14 ?_
    exact w_ri rfl dX7_taken_15 zq_m1 h
  · have h := h.2 q
    refine w_iload_n dX7_taken_7 rfl ?_
    refine w_invSi [_] dX7_taken_8 l7_268 kX7_isKind rfl rfl (Nat.le_of_ble_eq_true rfl) (Or.inr rfl) h (fun r3 M4 h => ?_)
    refine w_if_ne (tgt := 16) dX7_taken_11 (by decide) rfl (fun q => ?_) (fun q => ?_)
    · have h := h.2 q
      refine w_aload_n dX7_taken_16 rfl ?_
      refine w_gfA (ci := 7) (k := 6) dX7_taken_17 f7_59 ob_64 rfl ?_
      refine w_iload_n dX7_taken_20 rfl ?_
      obtain ⟨c5, h⟩ := h
      obtain ⟨c6, h⟩ := h
      refine w_aald dX7_taken_21 rfl (a7_6 ob_64) c5 c6 ?_
      refine w_astore_n dX7_taken_22 (Nat.le_of_ble_eq_true rfl) rfl ?_
      refine w_aload_n dX7_taken_23 rfl ?_
      refine w_invVi [] dX7_taken_24 l7_84 kX6_isEmpty rfl rfl (Nat.le_of_ble_eq_true rfl) (Or.inr rfl) (ob_sh (zsh c5 c6)) h (fun r7 M8 h => ?_)
      refine w_if_eq (tgt := 33) dX7_taken_27 (by decide) rfl (fun q => ?_) (fun q => ?_)
      · have h := h.1 q
        refine w_aload_n dX7_taken_33 rfl ?_
        refine w_invVi [] dX7_taken_34 l7_88 kX6_isRow rfl rfl (Nat.le_of_ble_eq_true rfl) (Or.inr rfl) (ob_sh (zsh c5 c6)) h (fun r9 M10 h => ?_)
        refine w_if_ne (tgt := 54) dX7_taken_37 (by decide) rfl (fun q => ?_) (fun q => ?_)
        · have h := h.2 q
          refine w_bipush dX7_taken_54 (by decide) ?_
          exact w_ri rfl dX7_taken_56 zq_m12 h
        · have h := h.1 q
          refine w_aload_n dX7_taken_40 rfl ?_
          refine w_gfO (ci := 7) (k := 5) (q := 512) dX7_taken_41 f7_53 ob_64 rfl rfl ?_
          refine w_aload_n dX7_taken_44 rfl ?_
          refine w_gfI (ci := 6) (k := 1) dX7_taken_45 f7_310 (ob_sh (zsh c5 c6)) rfl ?_
          refine w_invVi [_] dX7_taken_48 l7_282 kX1_has rfl rfl (Nat.le_of_ble_eq_true rfl) (Or.inr rfl) ob_512 h (fun r11 M12 h => ?_)
          refine w_if_ne (tgt := 57) dX7_taken_51 (by decide) rfl (fun q => ?_) (fun q => ?_)
          · have h := h.2 q
            refine w_aload_n dX7_taken_57 rfl ?_
            refine w_gfO (ci := 7) (k := 5) (q := 512) dX7_taken_58 f7_53 ob_64 rfl rfl ?_
            refine w_gfA (ci := 1) (k := 0) dX7_taken_61 f7_313 ob_512 rfl ?_
            refine w_aload_n dX7_taken_64 rfl ?_
            refine w_gfI (ci := 6) (k := 1) dX7_taken_65 f7_310 (ob_sh (zsh c5 c6)) rfl ?_
            obtain ⟨c13, h⟩ := h
            obtain ⟨c14, h⟩ := h
            refine w_iald dX7_taken_68 (zw_zg _ _ _) (a1_0 ob_512) c13 c14 ?_
            refine w_istore dX7_taken_69 (Nat.le_of_ble_eq_true rfl) rfl ?_
            refine w_iload dX7_taken_71 rfl ?_
            refine w_iload_n dX7_taken_73 rfl ?_
            refine w_invSi [_, _] dX7_taken_74 l7_316 kX1_isUnder rfl rfl (Nat.le_of_ble_eq_true rfl) (Or.inr rfl) h (fun r15 M16 h => ?_)
            refine w_if_eq (tgt := 85) dX7_taken_77 (by decide) rfl (fun q => ?_) (fun q => ?_)
            · have h := h.1 q
              refine w_bipush dX7_taken_85 (by decide) ?_
              exact w_ri rfl dX7_taken_87 zq_m12 h
            · have h := h.2 q
              refine w_iload dX7_taken_80 rfl ?_
              refine w_goto (tgt := 87) dX7_taken_82 (by decide) ?_
              exact w_ri rfl dX7_taken_87 (zw_zg _ _ _) h
          · have h := h.1 q
            refine w_bipush dX7_taken_54 (by decide) ?_
            exact w_ri rfl dX7_taken_56 zq_m12 h
      · have h := h.2 q
        refine w_bipush dX7_taken_30 (by decide) ?_
        exact w_ri rfl dX7_taken_32 zq_m11 h
    · have h := h.1 q
      refine w_iconst dX7_taken_14 ?_
      exact w_ri rfl dX7_taken_15 zq_m1 h
theorem e_X7_count {d : Nat} {Q : Int → zM → Prop} {M : zM} (v1 : Int) (h : wp (Ev d) 7 cX7_count (some .int) Q 0 [some (.ref 64), some (zI v1)] [] M) : Ev (d + 1) mX7_count [.ref 64, zI v1] M Q := ⟨kX7_count, Nat.le_of_ble_eq_true rfl, h⟩
theorem v_X7_count_0 {E : zE} {Q : Int → zM → Prop} {M : zM} (v1 : Int)  (h : (zw v1 = 0 → (Q (zg M 192 5) M)) ∧ (zw v1 = 1 → (Q (zg M 192 10) M)) ∧ (zw v1 = 2 → (E mX4_namedPeople [.ref 192] M (fun r1 M2 => Q (zw r1) M2))) ∧ (zw v1 = 3 → (Q (zg M 128 1) M)) ∧ (zw v1 = 4 → (Q (zg M 448 4) M)) ∧ (zw v1 = 5 → (Q (zg M 512 1) M)) ∧ (zw v1 = 6 → (Q (zg M 512 3) M)) ∧ (¬ zw v1 = 0 → ¬ zw v1 = 1 → ¬ zw v1 = 2 → ¬ zw v1 = 3 → ¬ zw v1 = 4 → ¬ zw v1 = 5 → ¬ zw v1 = 6 → (Q (-1) M))) : wp E 7 cX7_count (some .int) Q 0 [some (.ref 64), some (zI v1)] [] M := by
  refine w_iload_n dX7_count_0 rfl ?_
  by_cases q0 : zw v1 = 0
  · refine w_tsw (tgt := 44) dX7_count_1 (by rw [q0]; decide) (by rw [q0]; decide) ?_
    have h := h.1 q0
    refine w_aload_n dX7_count_44 rfl ?_
    refine w_gfO (ci := 7) (k := 1) (q := 192) dX7_count_45 f7_21 ob_64 rfl rfl ?_
    refine w_gfI (ci := 4) (k := 5) dX7_count_48 f7_218 ob_192 rfl ?_
    exact w_ri rfl dX7_count_51 (zw_zg _ _ _) h
  · skip
    by_cases q1 : zw v1 = 1
    · refine w_tsw (tgt := 52) dX7_count_1 (by rw [q1]; decide) (by rw [q1]; decide) ?_
      have h := h.2.1 q1
      refine w_aload_n dX7_count_52 rfl ?_
      refine w_gfO (ci := 7) (k := 1) (q := 192) dX7_count_53 f7_21 ob_64 rfl rfl ?_
      refine w_gfI (ci := 4) (k := 10) dX7_count_56 f7_319 ob_192 rfl ?_
      exact w_ri rfl dX7_count_59 (zw_zg _ _ _) h
    · skip
      by_cases q2 : zw v1 = 2
      · refine w_tsw (tgt := 60) dX7_count_1 (by rw [q2]; decide) (by rw [q2]; decide) ?_
        have h := h.2.2.1 q2
        refine w_aload_n dX7_count_60 rfl ?_
        refine w_gfO (ci := 7) (k := 1) (q := 192) dX7_count_61 f7_21 ob_64 rfl rfl ?_
        refine w_invVi [] dX7_count_64 l7_322 kX4_namedPeople rfl rfl (Nat.le_of_ble_eq_true rfl) (Or.inl rfl) ob_192 h (fun r1 M2 h => ?_)
        exact w_ri rfl dX7_count_67 rfl h
      · skip
        by_cases q3 : zw v1 = 3
        · refine w_tsw (tgt := 68) dX7_count_1 (by rw [q3]; decide) (by rw [q3]; decide) ?_
          have h := h.2.2.2.1 q3
          refine w_aload_n dX7_count_68 rfl ?_
          refine w_gfO (ci := 7) (k := 0) (q := 128) dX7_count_69 f7_10 ob_64 rfl rfl ?_
          refine w_gfI (ci := 2) (k := 1) dX7_count_72 f7_325 ob_128 rfl ?_
          exact w_ri rfl dX7_count_75 (zw_zg _ _ _) h
        · skip
          by_cases q4 : zw v1 = 4
          · refine w_tsw (tgt := 76) dX7_count_1 (by rw [q4]; decide) (by rw [q4]; decide) ?_
            have h := h.2.2.2.2.1 q4
            refine w_aload_n dX7_count_76 rfl ?_
            refine w_gfO (ci := 7) (k := 4) (q := 448) dX7_count_77 f7_46 ob_64 rfl rfl ?_
            refine w_gfI (ci := 0) (k := 4) dX7_count_80 f7_250 ob_448 rfl ?_
            exact w_ri rfl dX7_count_83 (zw_zg _ _ _) h
          · skip
            by_cases q5 : zw v1 = 5
            · refine w_tsw (tgt := 84) dX7_count_1 (by rw [q5]; decide) (by rw [q5]; decide) ?_
              have h := h.2.2.2.2.2.1 q5
              refine w_aload_n dX7_count_84 rfl ?_
              refine w_gfO (ci := 7) (k := 5) (q := 512) dX7_count_85 f7_53 ob_64 rfl rfl ?_
              refine w_gfI (ci := 1) (k := 1) dX7_count_88 f7_328 ob_512 rfl ?_
              exact w_ri rfl dX7_count_91 (zw_zg _ _ _) h
            · skip
              by_cases q6 : zw v1 = 6
              · refine w_tsw (tgt := 92) dX7_count_1 (by rw [q6]; decide) (by rw [q6]; decide) ?_
                have h := h.2.2.2.2.2.2.1 q6
                refine w_aload_n dX7_count_92 rfl ?_
                refine w_gfO (ci := 7) (k := 5) (q := 512) dX7_count_93 f7_53 ob_64 rfl rfl ?_
                refine w_gfI (ci := 1) (k := 3) dX7_count_96 f7_331 ob_512 rfl ?_
                exact w_ri rfl dX7_count_99 (zw_zg _ _ _) h
              · skip
                have hz : (1 : Int) + zts (99) 0 6 #[43, 51, 59, 67, 75, 83, 91] (zw v1) = (100 : Nat) := by
                  rcases (show zw v1 < 0 ∨ 6 < zw v1 by omega) with z | z <;> first | (rw [zts, if_pos (Or.inl z)]; rfl) | (rw [zts, if_pos (Or.inr z)]; rfl) | (rw [z]; decide)
                have hn : ¬ (zw v1 < 0 ∨ 6 < zw v1) → ((zw v1 - 0).toNat) < (#[43, 51, 59, 67, 75, 83, 91] : Array Int).size := by
                  intro z
                  show _ < 7
                  omega
                refine w_tsw (tgt := 100) dX7_count_1 hz hn ?_
                have h := h.2.2.2.2.2.2.2 q0 q1 q2 q3 q4 q5 q6
                refine w_iconst dX7_count_100 ?_
                exact w_ri rfl dX7_count_101 zq_m1 h
theorem e_X7_isYear {d : Nat} {Q : Int → zM → Prop} {M : zM} (v0 : Int) (h : wp (Ev d) 7 cX7_isYear (some .boolean) Q 0 [some (zI v0)] [] M) : Ev (d + 1) mX7_isYear [zI v0] M Q := ⟨kX7_isYear, Nat.le_of_ble_eq_true rfl, h⟩
theorem v_X7_isYear_0 {E : zE} {Q : Int → zM → Prop} {M : zM} (v0 : Int)  (h : (zw v0 < 0 → (Q 0 M)) ∧ (¬ zw v0 < 0 → ((zw v0 < 100 → (Q 1 M)) ∧ (¬ zw v0 < 100 → (Q 0 M))))) : wp E 7 cX7_isYear (some .boolean) Q 0 [some (zI v0)] [] M := by
  refine w_iload_n dX7_isYear_0 rfl ?_
  refine w_if_lt (tgt := 14) dX7_isYear_1 (by decide) rfl (fun q => ?_) (fun q => ?_)
  · have h := h.1 q
    refine w_iconst dX7_isYear_14 ?_
    exact w_rz rfl dX7_isYear_15 zq_0 (by decide) h
  · have h := h.2 q
    refine w_iload_n dX7_isYear_4 rfl ?_
    refine w_bipush dX7_isYear_5 (by decide) ?_
    refine w_icmp_ge (tgt := 14) dX7_isYear_7 (by decide) rfl zq_100 (fun q => ?_) (fun q => ?_)
    · have h := h.2 q
      refine w_iconst dX7_isYear_14 ?_
      exact w_rz rfl dX7_isYear_15 zq_0 (by decide) h
    · have h := h.1 q
      refine w_iconst dX7_isYear_10 ?_
      refine w_goto (tgt := 15) dX7_isYear_11 (by decide) ?_
      exact w_rz rfl dX7_isYear_15 zq_1 (by decide) h
theorem e_X7_isName {d : Nat} {Q : Int → zM → Prop} {M : zM} (v0 : Int) (h : wp (Ev d) 7 cX7_isName (some .boolean) Q 0 [some (zI v0)] [] M) : Ev (d + 1) mX7_isName [zI v0] M Q := ⟨kX7_isName, Nat.le_of_ble_eq_true rfl, h⟩
theorem v_X7_isName_0 {E : zE} {Q : Int → zM → Prop} {M : zM} (v0 : Int)  (h : (zw v0 < 0 → (Q 0 M)) ∧ (¬ zw v0 < 0 → ((zw v0 < 12 → (Q 1 M)) ∧ (¬ zw v0 < 12 → (Q 0 M))))) : wp E 7 cX7_isName (some .boolean) Q 0 [some (zI v0)] [] M := by
  refine w_iload_n dX7_isName_0 rfl ?_
  refine w_if_lt (tgt := 14) dX7_isName_1 (by decide) rfl (fun q => ?_) (fun q => ?_)
  · have h := h.1 q
    refine w_iconst dX7_isName_14 ?_
    exact w_rz rfl dX7_isName_15 zq_0 (by decide) h
  · have h := h.2 q
    refine w_iload_n dX7_isName_4 rfl ?_
    refine w_bipush dX7_isName_5 (by decide) ?_
    refine w_icmp_ge (tgt := 14) dX7_isName_7 (by decide) rfl zq_12 (fun q => ?_) (fun q => ?_)
    · have h := h.2 q
      refine w_iconst dX7_isName_14 ?_
      exact w_rz rfl dX7_isName_15 zq_0 (by decide) h
    · have h := h.1 q
      refine w_iconst dX7_isName_10 ?_
      refine w_goto (tgt := 15) dX7_isName_11 (by decide) ?_
      exact w_rz rfl dX7_isName_15 zq_1 (by decide) h
theorem e_X7_isWay {d : Nat} {Q : Int → zM → Prop} {M : zM} (v0 : Int) (h : wp (Ev d) 7 cX7_isWay (some .boolean) Q 0 [some (zI v0)] [] M) : Ev (d + 1) mX7_isWay [zI v0] M Q := ⟨kX7_isWay, Nat.le_of_ble_eq_true rfl, h⟩
theorem v_X7_isWay_0 {E : zE} {Q : Int → zM → Prop} {M : zM} (v0 : Int)  (h : (zw v0 < 0 → (Q 0 M)) ∧ (¬ zw v0 < 0 → ((zw v0 < 3 → (Q 1 M)) ∧ (¬ zw v0 < 3 → (Q 0 M))))) : wp E 7 cX7_isWay (some .boolean) Q 0 [some (zI v0)] [] M := by
  refine w_iload_n dX7_isWay_0 rfl ?_
  refine w_if_lt (tgt := 13) dX7_isWay_1 (by decide) rfl (fun q => ?_) (fun q => ?_)
  · have h := h.1 q
    refine w_iconst dX7_isWay_13 ?_
    exact w_rz rfl dX7_isWay_14 zq_0 (by decide) h
  · have h := h.2 q
    refine w_iload_n dX7_isWay_4 rfl ?_
    refine w_iconst dX7_isWay_5 ?_
    refine w_icmp_ge (tgt := 13) dX7_isWay_6 (by decide) rfl zq_3 (fun q => ?_) (fun q => ?_)
    · have h := h.2 q
      refine w_iconst dX7_isWay_13 ?_
      exact w_rz rfl dX7_isWay_14 zq_0 (by decide) h
    · have h := h.1 q
      refine w_iconst dX7_isWay_9 ?_
      refine w_goto (tgt := 14) dX7_isWay_10 (by decide) ?_
      exact w_rz rfl dX7_isWay_14 zq_1 (by decide) h
theorem e_X7_isShelf {d : Nat} {Q : Int → zM → Prop} {M : zM} (v0 : Int) (h : wp (Ev d) 7 cX7_isShelf (some .boolean) Q 0 [some (zI v0)] [] M) : Ev (d + 1) mX7_isShelf [zI v0] M Q := ⟨kX7_isShelf, Nat.le_of_ble_eq_true rfl, h⟩
theorem v_X7_isShelf_0 {E : zE} {Q : Int → zM → Prop} {M : zM} (v0 : Int)  (h : (zw v0 < 0 → (Q 0 M)) ∧ (¬ zw v0 < 0 → ((zw v0 < 6 → (Q 1 M)) ∧ (¬ zw v0 < 6 → (Q 0 M))))) : wp E 7 cX7_isShelf (some .boolean) Q 0 [some (zI v0)] [] M := by
  refine w_iload_n dX7_isShelf_0 rfl ?_
  refine w_if_lt (tgt := 14) dX7_isShelf_1 (by decide) rfl (fun q => ?_) (fun q => ?_)
  · have h := h.1 q
    refine w_iconst dX7_isShelf_14 ?_
    exact w_rz rfl dX7_isShelf_15 zq_0 (by decide) h
  · have h := h.2 q
    refine w_iload_n dX7_isShelf_4 rfl ?_
    refine w_bipush dX7_isShelf_5 (by decide) ?_
    refine w_icmp_ge (tgt := 14) dX7_isShelf_7 (by decide) rfl zq_6 (fun q => ?_) (fun q => ?_)
    · have h := h.2 q
      refine w_iconst dX7_isShelf_14 ?_
      exact w_rz rfl dX7_isShelf_15 zq_0 (by decide) h
    · have h := h.1 q
      refine w_iconst dX7_isShelf_10 ?_
      refine w_goto (tgt := 15) dX7_isShelf_11 (by decide) ?_
      exact w_rz rfl dX7_isShelf_15 zq_1 (by decide) h
theorem e_X7_isKind {d : Nat} {Q : Int → zM → Prop} {M : zM} (v0 : Int) (h : wp (Ev d) 7 cX7_isKind (some .boolean) Q 0 [some (zI v0)] [] M) : Ev (d + 1) mX7_isKind [zI v0] M Q := ⟨kX7_isKind, Nat.le_of_ble_eq_true rfl, h⟩
theorem v_X7_isKind_0 {E : zE} {Q : Int → zM → Prop} {M : zM} (v0 : Int)  (h : (zw v0 < 0 → (Q 0 M)) ∧ (¬ zw v0 < 0 → ((zw v0 < 8 → (Q 1 M)) ∧ (¬ zw v0 < 8 → (Q 0 M))))) : wp E 7 cX7_isKind (some .boolean) Q 0 [some (zI v0)] [] M := by
  refine w_iload_n dX7_isKind_0 rfl ?_
  refine w_if_lt (tgt := 14) dX7_isKind_1 (by decide) rfl (fun q => ?_) (fun q => ?_)
  · have h := h.1 q
    refine w_iconst dX7_isKind_14 ?_
    exact w_rz rfl dX7_isKind_15 zq_0 (by decide) h
  · have h := h.2 q
    refine w_iload_n dX7_isKind_4 rfl ?_
    refine w_bipush dX7_isKind_5 (by decide) ?_
    refine w_icmp_ge (tgt := 14) dX7_isKind_7 (by decide) rfl zq_8 (fun q => ?_) (fun q => ?_)
    · have h := h.2 q
      refine w_iconst dX7_isKind_14 ?_
      exact w_rz rfl dX7_isKind_15 zq_0 (by decide) h
    · have h := h.1 q
      refine w_iconst dX7_isKind_10 ?_
      refine w_goto (tgt := 15) dX7_isKind_11 (by decide) ?_
      exact w_rz rfl dX7_isKind_15 zq_1 (by decide) h
theorem e_X7_mayLive {d : Nat} {Q : Int → zM → Prop} {M : zM} (v0 : Int) (v1 : Int) (h : wp (Ev d) 7 cX7_mayLive (some .boolean) Q 0 [some (zI v0), some (zI v1)] [] M) : Ev (d + 1) mX7_mayLive [zI v0, zI v1] M Q := ⟨kX7_mayLive, Nat.le_of_ble_eq_true rfl, h⟩
theorem v_X7_mayLive_0 {E : zE} {Q : Int → zM → Prop} {M : zM} (v0 : Int) (v1 : Int)  (h : E mX7_isYear [zI v0] M (fun r1 M2 => (zw r1 = 0 → (Q 0 M2)) ∧ (¬ zw r1 = 0 → ((zw v0 < zw v1 → ((100 < zw v1 → (Q 0 M2)) ∧ (¬ 100 < zw v1 → (Q 1 M2)))) ∧ (¬ zw v0 < zw v1 → (Q 0 M2)))))) : wp E 7 cX7_mayLive (some .boolean) Q 0 [some (zI v0), some (zI v1)] [] M := by
  refine w_iload_n dX7_mayLive_0 rfl ?_
  refine w_invSi [_] dX7_mayLive_1 l7_158 kX7_isYear rfl rfl (Nat.le_of_ble_eq_true rfl) (Or.inr rfl) h (fun r1 M2 h => ?_)
  refine w_if_eq (tgt := 22) dX7_mayLive_4 (by decide) rfl (fun q => ?_) (fun q => ?_)
  · have h := h.1 q
    refine w_iconst dX7_mayLive_22 ?_
    exact w_rz rfl dX7_mayLive_23 zq_0 (by decide) h
  · have h := h.2 q
    refine w_iload_n dX7_mayLive_7 rfl ?_
    refine w_iload_n dX7_mayLive_8 rfl ?_
    refine w_icmp_le (tgt := 22) dX7_mayLive_9 (by decide) rfl rfl (fun q => ?_) (fun q => ?_)
    · have h := h.2 q
      refine w_iconst dX7_mayLive_22 ?_
      exact w_rz rfl dX7_mayLive_23 zq_0 (by decide) h
    · have h := h.1 q
      refine w_iload_n dX7_mayLive_12 rfl ?_
      refine w_bipush dX7_mayLive_13 (by decide) ?_
      refine w_icmp_gt (tgt := 22) dX7_mayLive_15 (by decide) rfl zq_100 (fun q => ?_) (fun q => ?_)
      · have h := h.1 q
        refine w_iconst dX7_mayLive_22 ?_
        exact w_rz rfl dX7_mayLive_23 zq_0 (by decide) h
      · have h := h.2 q
        refine w_iconst dX7_mayLive_18 ?_
        refine w_goto (tgt := 23) dX7_mayLive_19 (by decide) ?_
        exact w_rz rfl dX7_mayLive_23 zq_1 (by decide) h
theorem e_X7_mayBeNamed {d : Nat} {Q : Int → zM → Prop} {M : zM} (v0 : Int) (h : wp (Ev d) 7 cX7_mayBeNamed (some .boolean) Q 0 [some (zI v0)] [] M) : Ev (d + 1) mX7_mayBeNamed [zI v0] M Q := ⟨kX7_mayBeNamed, Nat.le_of_ble_eq_true rfl, h⟩
theorem v_X7_mayBeNamed_0 {E : zE} {Q : Int → zM → Prop} {M : zM} (v0 : Int)  (h : (zw v0 = (-1) → (Q 1 M)) ∧ (¬ zw v0 = (-1) → (E mX7_isName [zI v0] M (fun r1 M2 => (zw r1 = 0 → (Q 0 M2)) ∧ (¬ zw r1 = 0 → (Q 1 M2)))))) : wp E 7 cX7_mayBeNamed (some .boolean) Q 0 [some (zI v0)] [] M := by
  refine w_iload_n dX7_mayBeNamed_0 rfl ?_
  refine w_iconst dX7_mayBeNamed_1 ?_
  refine w_icmp_eq (tgt := 12) dX7_mayBeNamed_2 (by decide) rfl zq_m1 (fun q => ?_) (fun q => ?_)
  · have h := h.1 q
    refine w_iconst dX7_mayBeNamed_12 ?_
    refine w_goto (tgt := 17) dX7_mayBeNamed_13 (by decide) ?_
    exact w_rz rfl dX7_mayBeNamed_17 zq_1 (by decide) h
  · have h := h.2 q
    refine w_iload_n dX7_mayBeNamed_5 rfl ?_
    refine w_invSi [_] dX7_mayBeNamed_6 l7_118 kX7_isName rfl rfl (Nat.le_of_ble_eq_true rfl) (Or.inr rfl) h (fun r1 M2 h => ?_)
    refine w_if_eq (tgt := 16) dX7_mayBeNamed_9 (by decide) rfl (fun q => ?_) (fun q => ?_)
    · have h := h.1 q
      refine w_iconst dX7_mayBeNamed_16 ?_
      exact w_rz rfl dX7_mayBeNamed_17 zq_0 (by decide) h
    · have h := h.2 q
      refine w_iconst dX7_mayBeNamed_12 ?_
      refine w_goto (tgt := 17) dX7_mayBeNamed_13 (by decide) ?_
      exact w_rz rfl dX7_mayBeNamed_17 zq_1 (by decide) h
theorem e_X7_mayMend {d : Nat} {Q : Int → zM → Prop} {M : zM} (v1 : Int) (v2 : Int) (v3 : Int) (h : wp (Ev d) 7 cX7_mayMend (some .boolean) Q 0 [some (.ref 64), some (zI v1), some (zI v2), some (zI v3)] [] M) : Ev (d + 1) mX7_mayMend [.ref 64, zI v1, zI v2, zI v3] M Q := ⟨kX7_mayMend, Nat.le_of_ble_eq_true rfl, h⟩
theorem v_X7_mayMend_0 {E : zE} {Q : Int → zM → Prop} {M : zM} (v1 : Int) (v2 : Int) (v3 : Int)  (h : (zw v2 = 0 → (E mX4_hasPerson [.ref 192, zI v1] M (fun r3 M4 => (zw r3 = 0 → (Q 0 M4)) ∧ (¬ zw r3 = 0 → ((0 ≤ zw v1) ∧ ((zw v1 < 12) ∧ (E mX7_mayLive [zI (zg M4 194 (zw v1).toNat), zI v3] M4 (fun r7 M8 => (zw r7 = 0 → (Q 0 M8)) ∧ (¬ zw r7 = 0 → (Q 1 M8)))))))))) ∧ (¬ zw v2 = 0 → ((zw v2 = 1 → (E mX7_isName [zI v1] M (fun r1 M2 => (zw r1 = 0 → (Q 0 M2)) ∧ (¬ zw r1 = 0 → ((zw v3 < 0 → (Q 0 M2)) ∧ (¬ zw v3 < 0 → ((9 < zw v3 → (Q 0 M2)) ∧ (¬ 9 < zw v3 → (Q 1 M2))))))))) ∧ (¬ zw v2 = 1 → (Q 0 M))))) : wp E 7 cX7_mayMend (some .boolean) Q 0 [some (.ref 64), some (zI v1), some (zI v2), some (zI v3)] [] M := by
  refine w_iload_n dX7_mayMend_0 rfl ?_
  refine w_if_ne (tgt := 37) dX7_mayMend_1 (by decide) rfl (fun q => ?_) (fun q => ?_)
  · have h := h.2 q
    refine w_iload_n dX7_mayMend_37 rfl ?_
    refine w_iconst dX7_mayMend_38 ?_
    refine w_icmp_ne (tgt := 63) dX7_mayMend_39 (by decide) rfl zq_1 (fun q => ?_) (fun q => ?_)
    · have h := h.2 q
      refine w_iconst dX7_mayMend_63 ?_
      exact w_rz rfl dX7_mayMend_64 zq_0 (by decide) h
    · have h := h.1 q
      refine w_iload_n dX7_mayMend_42 rfl ?_
      refine w_invSi [_] dX7_mayMend_43 l7_118 kX7_isName rfl rfl (Nat.le_of_ble_eq_true rfl) (Or.inr rfl) h (fun r1 M2 h => ?_)
      refine w_if_eq (tgt := 63) dX7_mayMend_46 (by decide) rfl (fun q => ?_) (fun q => ?_)
      · have h := h.1 q
        refine w_iconst dX7_mayMend_63 ?_
        exact w_rz rfl dX7_mayMend_64 zq_0 (by decide) h
      · have h := h.2 q
        refine w_iload_n dX7_mayMend_49 rfl ?_
        refine w_if_lt (tgt := 63) dX7_mayMend_50 (by decide) rfl (fun q => ?_) (fun q => ?_)
        · have h := h.1 q
          refine w_iconst dX7_mayMend_63 ?_
          exact w_rz rfl dX7_mayMend_64 zq_0 (by decide) h
        · have h := h.2 q
          refine w_iload_n dX7_mayMend_53 rfl ?_
          refine w_bipush dX7_mayMend_54 (by decide) ?_
          refine w_icmp_gt (tgt := 63) dX7_mayMend_56 (by decide) rfl zq_9 (fun q => ?_) (fun q => ?_)
          · have h := h.1 q
            refine w_iconst dX7_mayMend_63 ?_
            exact w_rz rfl dX7_mayMend_64 zq_0 (by decide) h
          · have h := h.2 q
            refine w_iconst dX7_mayMend_59 ?_
            refine w_goto (tgt := 64) dX7_mayMend_60 (by decide) ?_
            exact w_rz rfl dX7_mayMend_64 zq_1 (by decide) h
  · have h := h.1 q
    refine w_aload_n dX7_mayMend_4 rfl ?_
    refine w_gfO (ci := 7) (k := 1) (q := 192) dX7_mayMend_5 f7_21 ob_64 rfl rfl ?_
    refine w_iload_n dX7_mayMend_8 rfl ?_
    refine w_invVi [_] dX7_mayMend_9 l7_108 kX4_hasPerson rfl rfl (Nat.le_of_ble_eq_true rfl) (Or.inr rfl) ob_192 h (fun r3 M4 h => ?_)
    refine w_if_eq (tgt := 35) dX7_mayMend_12 (by decide) rfl (fun q => ?_) (fun q => ?_)
    · have h := h.1 q
      refine w_iconst dX7_mayMend_35 ?_
      exact w_rz rfl dX7_mayMend_36 zq_0 (by decide) h
    · have h := h.2 q
      refine w_aload_n dX7_mayMend_15 rfl ?_
      refine w_gfO (ci := 7) (k := 1) (q := 192) dX7_mayMend_16 f7_21 ob_64 rfl rfl ?_
      refine w_gfA (ci := 4) (k := 1) dX7_mayMend_19 f7_224 ob_192 rfl ?_
      refine w_iload_n dX7_mayMend_22 rfl ?_
      obtain ⟨c5, h⟩ := h
      obtain ⟨c6, h⟩ := h
      refine w_iald dX7_mayMend_23 rfl (a4_1 ob_192) c5 c6 ?_
      refine w_iload_n dX7_mayMend_24 rfl ?_
      refine w_invSi [_, _] dX7_mayMend_25 l7_72 kX7_mayLive rfl rfl (Nat.le_of_ble_eq_true rfl) (Or.inr rfl) h (fun r7 M8 h => ?_)
      refine w_if_eq (tgt := 35) dX7_mayMend_28 (by decide) rfl (fun q => ?_) (fun q => ?_)
      · have h := h.1 q
        refine w_iconst dX7_mayMend_35 ?_
        exact w_rz rfl dX7_mayMend_36 zq_0 (by decide) h
      · have h := h.2 q
        refine w_iconst dX7_mayMend_31 ?_
        refine w_goto (tgt := 36) dX7_mayMend_32 (by decide) ?_
        exact w_rz rfl dX7_mayMend_36 zq_1 (by decide) h
theorem e_X7_comesFrom {d : Nat} {Q : Int → zM → Prop} {M : zM} (o1 : Nat) (v2 : Int) (v3 : Int) (h : wp (Ev d) 7 cX7_comesFrom (some .boolean) Q 0 [some (.ref 64), some (.ref o1), some (zI v2), some (zI v3), none, none, none, none] [] M) : Ev (d + 1) mX7_comesFrom [.ref 64, .ref o1, zI v2, zI v3] M Q := ⟨kX7_comesFrom, Nat.le_of_ble_eq_true rfl, h⟩
theorem v_X7_comesFrom_0 {E : zE} {Q : Int → zM → Prop} {M : zM} (o1 : Nat) (v2 : Int) (v3 : Int) (h_o1 : zob o1 6) (h : (zw v2 < 0 → (Q 0 M)) ∧ (¬ zw v2 < 0 → ((zw (((zg M o1 3) - 3) - (3 * v3)) < zw v2 → (Q 0 M)) ∧ (¬ zw (((zg M o1 3) - 3) - (3 * v3)) < zw v2 → ((0 ≤ zw (v2 + (3 * v3))) ∧ ((zw (v2 + (3 * v3)) < 60) ∧ ((0 ≤ zw ((v2 + (3 * v3)) + 1)) ∧ ((zw ((v2 + (3 * v3)) + 1) < 60) ∧ ((0 ≤ zw ((v2 + (3 * v3)) + 2)) ∧ ((zw ((v2 + (3 * v3)) + 2) < 60) ∧ (E mX7_mayLive [zI (zv (zh M (o1 + 1) (zw (v2 + (3 * v3))).toNat)), zI (zv (zh M (o1 + 1) (zw ((v2 + (3 * v3)) + 1)).toNat))] M (fun r7 M8 => (zw r7 = 0 → (Q 0 M8)) ∧ (¬ zw r7 = 0 → (E mX7_mayBeNamed [zI (zv (zh M (o1 + 1) (zw ((v2 + (3 * v3)) + 2)).toNat))] M8 (fun r9 M10 => (zw r9 = 0 → (Q 0 M10)) ∧ (¬ zw r9 = 0 → (E mX4_come [.ref 192, zI (zv (zh M (o1 + 1) (zw (v2 + (3 * v3))).toNat)), zI (zv (zh M (o1 + 1) (zw ((v2 + (3 * v3)) + 1)).toNat)), zI (zv (zh M (o1 + 1) (zw ((v2 + (3 * v3)) + 2)).toNat))] M10 (fun r11 M12 => (zw r11 = (-3) → (Q 0 M12)) ∧ (¬ zw r11 = (-3) → (Q 1 M12)))))))))))))))))))) : wp E 7 cX7_comesFrom (some .boolean) Q 0 [some (.ref 64), some (.ref o1), some (zI v2), some (zI v3), none, none, none, none] [] M := by
  refine w_iload_n dX7_comesFrom_0 rfl ?_
  refine w_if_lt (tgt := 18) dX7_comesFrom_1 (by decide) rfl (fun q => ?_) (fun q => ?_)
  · have h := h.1 q
    refine w_iconst dX7_comesFrom_18 ?_
    exact w_rz rfl dX7_comesFrom_19 zq_0 (by decide) h
  · have h := h.2 q
    refine w_iload_n dX7_comesFrom_4 rfl ?_
    refine w_aload_n dX7_comesFrom_5 rfl ?_
    refine w_gfI (ci := 6) (k := 3) dX7_comesFrom_6 f7_334 h_o1 rfl ?_
    refine w_iconst dX7_comesFrom_9 ?_
    refine w_isub dX7_comesFrom_10 ?_
    refine w_iconst dX7_comesFrom_11 ?_
    refine w_iload_n dX7_comesFrom_12 rfl ?_
    refine w_imul dX7_comesFrom_13 ?_
    refine w_isub dX7_comesFrom_14 ?_
    refine w_icmp_le (tgt := 20) dX7_comesFrom_15 (by decide) rfl rfl (fun q => ?_) (fun q => ?_)
    · have h := h.2 q
      refine w_iload_n dX7_comesFrom_20 rfl ?_
      refine w_iconst dX7_comesFrom_21 ?_
      refine w_iload_n dX7_comesFrom_22 rfl ?_
      refine w_imul dX7_comesFrom_23 ?_
      refine w_iadd dX7_comesFrom_24 ?_
      refine w_istore dX7_comesFrom_25 (Nat.le_of_ble_eq_true rfl) rfl ?_
      refine w_aload_n dX7_comesFrom_27 rfl ?_
      refine w_gfA (ci := 6) (k := 0) dX7_comesFrom_28 f7_299 h_o1 rfl ?_
      refine w_iload dX7_comesFrom_31 rfl ?_
      obtain ⟨c1, h⟩ := h
      obtain ⟨c2, h⟩ := h
      refine w_lald dX7_comesFrom_33 rfl (a6_0 h_o1) c1 c2 ?_
      refine w_l2i dX7_comesFrom_34 ?_
      refine w_istore dX7_comesFrom_35 (Nat.le_of_ble_eq_true rfl) rfl ?_
      refine w_aload_n dX7_comesFrom_37 rfl ?_
      refine w_gfA (ci := 6) (k := 0) dX7_comesFrom_38 f7_299 h_o1 rfl ?_
      refine w_iload dX7_comesFrom_41 rfl ?_
      refine w_iconst dX7_comesFrom_43 ?_
      refine w_iadd dX7_comesFrom_44 ?_
      obtain ⟨c3, h⟩ := h
      obtain ⟨c4, h⟩ := h
      refine w_lald dX7_comesFrom_45 rfl (a6_0 h_o1) c3 c4 ?_
      refine w_l2i dX7_comesFrom_46 ?_
      refine w_istore dX7_comesFrom_47 (Nat.le_of_ble_eq_true rfl) rfl ?_
      refine w_aload_n dX7_comesFrom_49 rfl ?_
      refine w_gfA (ci := 6) (k := 0) dX7_comesFrom_50 f7_299 h_o1 rfl ?_
      refine w_iload dX7_comesFrom_53 rfl ?_
      refine w_iconst dX7_comesFrom_55 ?_
      refine w_iadd dX7_comesFrom_56 ?_
      obtain ⟨c5, h⟩ := h
      obtain ⟨c6, h⟩ := h
      refine w_lald dX7_comesFrom_57 rfl (a6_0 h_o1) c5 c6 ?_
      refine w_l2i dX7_comesFrom_58 ?_
      refine w_istore dX7_comesFrom_59 (Nat.le_of_ble_eq_true rfl) rfl ?_
      refine w_iload dX7_comesFrom_61 rfl ?_
      refine w_iload dX7_comesFrom_63 rfl ?_
      refine w_invSi [_, _] dX7_comesFrom_65 l7_72 kX7_mayLive rfl rfl (Nat.le_of_ble_eq_true rfl) (Or.inr rfl) h (fun r7 M8 h => ?_)
      refine w_if_eq (tgt := 101) dX7_comesFrom_68 (by decide) rfl (fun q => ?_) (fun q => ?_)
      · have h := h.1 q
        refine w_iconst dX7_comesFrom_101 ?_
        exact w_rz rfl dX7_comesFrom_102 zq_0 (by decide) h
      · have h := h.2 q
        refine w_iload dX7_comesFrom_71 rfl ?_
        refine w_invSi [_] dX7_comesFrom_73 l7_111 kX7_mayBeNamed rfl rfl (Nat.le_of_ble_eq_true rfl) (Or.inr rfl) h (fun r9 M10 h => ?_)
        refine w_if_eq (tgt := 101) dX7_comesFrom_76 (by decide) rfl (fun q => ?_) (fun q => ?_)
        · have h := h.1 q
          refine w_iconst dX7_comesFrom_101 ?_
          exact w_rz rfl dX7_comesFrom_102 zq_0 (by decide) h
        · have h := h.2 q
          refine w_aload_n dX7_comesFrom_79 rfl ?_
          refine w_gfO (ci := 7) (k := 1) (q := 192) dX7_comesFrom_80 f7_21 ob_64 rfl rfl ?_
          refine w_iload dX7_comesFrom_83 rfl ?_
          refine w_iload dX7_comesFrom_85 rfl ?_
          refine w_iload dX7_comesFrom_87 rfl ?_
          refine w_invVi [_, _, _] dX7_comesFrom_89 l7_76 kX4_come rfl rfl (Nat.le_of_ble_eq_true rfl) (Or.inl rfl) ob_192 h (fun r11 M12 h => ?_)
          refine w_bipush dX7_comesFrom_92 (by decide) ?_
          refine w_icmp_eq (tgt := 101) dX7_comesFrom_94 (by decide) rfl zq_m3 (fun q => ?_) (fun q => ?_)
          · have h := h.1 q
            refine w_iconst dX7_comesFrom_101 ?_
            exact w_rz rfl dX7_comesFrom_102 zq_0 (by decide) h
          · have h := h.2 q
            refine w_iconst dX7_comesFrom_97 ?_
            refine w_goto (tgt := 102) dX7_comesFrom_98 (by decide) ?_
            exact w_rz rfl dX7_comesFrom_102 zq_1 (by decide) h
    · have h := h.1 q
      refine w_iconst dX7_comesFrom_18 ?_
      exact w_rz rfl dX7_comesFrom_19 zq_0 (by decide) h
theorem e_X7_ofPerson {d : Nat} {Q : Int → zM → Prop} {M : zM} (v1 : Int) (v2 : Int) (h : wp (Ev d) 7 cX7_ofPerson (some .int) Q 0 [some (.ref 64), some (zI v1), some (zI v2)] [] M) : Ev (d + 1) mX7_ofPerson [.ref 64, zI v1, zI v2] M Q := ⟨kX7_ofPerson, Nat.le_of_ble_eq_true rfl, h⟩
theorem v_X7_ofPerson_0 {E : zE} {Q : Int → zM → Prop} {M : zM} (v1 : Int) (v2 : Int)  (h : (zw v2 = 0 → ((0 ≤ zw v1) ∧ ((zw v1 < 12) ∧ (Q (zg M 194 (zw v1).toNat) M)))) ∧ (zw v2 = 1 → ((0 ≤ zw v1) ∧ ((zw v1 < 12) ∧ (Q (zg M 195 (zw v1).toNat) M)))) ∧ (zw v2 = 2 → ((0 ≤ zw v1) ∧ ((zw v1 < 12) ∧ (Q (zg M 196 (zw v1).toNat) M)))) ∧ (zw v2 = 3 → (E mX4_placeOf [.ref 192, zI v1] M (fun r7 M8 => Q (zw r7) M8))) ∧ (¬ zw v2 = 0 → ¬ zw v2 = 1 → ¬ zw v2 = 2 → ¬ zw v2 = 3 → (Q (-2000000000) M))) : wp E 7 cX7_ofPerson (some .int) Q 0 [some (.ref 64), some (zI v1), some (zI v2)] [] M := by
  refine w_iload_n dX7_ofPerson_0 rfl ?_
  by_cases q0 : zw v2 = 0
  · refine w_tsw (tgt := 32) dX7_ofPerson_1 (by rw [q0]; decide) (by rw [q0]; decide) ?_
    have h := h.1 q0
    refine w_aload_n dX7_ofPerson_32 rfl ?_
    refine w_gfO (ci := 7) (k := 1) (q := 192) dX7_ofPerson_33 f7_21 ob_64 rfl rfl ?_
    refine w_gfA (ci := 4) (k := 1) dX7_ofPerson_36 f7_224 ob_192 rfl ?_
    refine w_iload_n dX7_ofPerson_39 rfl ?_
    obtain ⟨c1, h⟩ := h
    obtain ⟨c2, h⟩ := h
    refine w_iald dX7_ofPerson_40 rfl (a4_1 ob_192) c1 c2 ?_
    exact w_ri rfl dX7_ofPerson_41 (zw_zg _ _ _) h
  · skip
    by_cases q1 : zw v2 = 1
    · refine w_tsw (tgt := 42) dX7_ofPerson_1 (by rw [q1]; decide) (by rw [q1]; decide) ?_
      have h := h.2.1 q1
      refine w_aload_n dX7_ofPerson_42 rfl ?_
      refine w_gfO (ci := 7) (k := 1) (q := 192) dX7_ofPerson_43 f7_21 ob_64 rfl rfl ?_
      refine w_gfA (ci := 4) (k := 2) dX7_ofPerson_46 f7_127 ob_192 rfl ?_
      refine w_iload_n dX7_ofPerson_49 rfl ?_
      obtain ⟨c3, h⟩ := h
      obtain ⟨c4, h⟩ := h
      refine w_iald dX7_ofPerson_50 rfl (a4_2 ob_192) c3 c4 ?_
      exact w_ri rfl dX7_ofPerson_51 (zw_zg _ _ _) h
    · skip
      by_cases q2 : zw v2 = 2
      · refine w_tsw (tgt := 52) dX7_ofPerson_1 (by rw [q2]; decide) (by rw [q2]; decide) ?_
        have h := h.2.2.1 q2
        refine w_aload_n dX7_ofPerson_52 rfl ?_
        refine w_gfO (ci := 7) (k := 1) (q := 192) dX7_ofPerson_53 f7_21 ob_64 rfl rfl ?_
        refine w_gfA (ci := 4) (k := 3) dX7_ofPerson_56 f7_115 ob_192 rfl ?_
        refine w_iload_n dX7_ofPerson_59 rfl ?_
        obtain ⟨c5, h⟩ := h
        obtain ⟨c6, h⟩ := h
        refine w_iald dX7_ofPerson_60 rfl (a4_3 ob_192) c5 c6 ?_
        exact w_ri rfl dX7_ofPerson_61 (zw_zg _ _ _) h
      · skip
        by_cases q3 : zw v2 = 3
        · refine w_tsw (tgt := 62) dX7_ofPerson_1 (by rw [q3]; decide) (by rw [q3]; decide) ?_
          have h := h.2.2.2.1 q3
          refine w_aload_n dX7_ofPerson_62 rfl ?_
          refine w_gfO (ci := 7) (k := 1) (q := 192) dX7_ofPerson_63 f7_21 ob_64 rfl rfl ?_
          refine w_iload_n dX7_ofPerson_66 rfl ?_
          refine w_invVi [_] dX7_ofPerson_67 l7_215 kX4_placeOf rfl rfl (Nat.le_of_ble_eq_true rfl) (Or.inl rfl) ob_192 h (fun r7 M8 h => ?_)
          exact w_ri rfl dX7_ofPerson_70 rfl h
        · skip
          have hz : (1 : Int) + zts (70) 0 3 #[31, 41, 51, 61] (zw v2) = (71 : Nat) := by
            rcases (show zw v2 < 0 ∨ 3 < zw v2 by omega) with z | z <;> first | (rw [zts, if_pos (Or.inl z)]; rfl) | (rw [zts, if_pos (Or.inr z)]; rfl) | (rw [z]; decide)
          have hn : ¬ (zw v2 < 0 ∨ 3 < zw v2) → ((zw v2 - 0).toNat) < (#[31, 41, 51, 61] : Array Int).size := by
            intro z
            show _ < 4
            omega
          refine w_tsw (tgt := 71) dX7_ofPerson_1 hz hn ?_
          have h := h.2.2.2.2 q0 q1 q2 q3
          refine w_ldc (n := -2000000000) dX7_ofPerson_71 o7_114 ?_
          exact w_ri rfl dX7_ofPerson_73 zq_m2000000000 h
theorem e_X7_ofName {d : Nat} {Q : Int → zM → Prop} {M : zM} (v1 : Int) (v2 : Int) (h : wp (Ev d) 7 cX7_ofName (some .int) Q 0 [some (.ref 64), some (zI v1), some (zI v2)] [] M) : Ev (d + 1) mX7_ofName [.ref 64, zI v1, zI v2] M Q := ⟨kX7_ofName, Nat.le_of_ble_eq_true rfl, h⟩
theorem v_X7_ofName_0 {E : zE} {Q : Int → zM → Prop} {M : zM} (v1 : Int) (v2 : Int)  (h : (zw v2 = 10 → ((0 ≤ zw v1) ∧ ((zw v1 < 12) ∧ (Q (zg M 205 (zw v1).toNat) M)))) ∧ (zw v2 = 11 → ((0 ≤ zw v1) ∧ ((zw v1 < 12) ∧ (Q (zg M 206 (zw v1).toNat) M)))) ∧ (zw v2 = 12 → (E mX4_bearersOf [.ref 192, zI v1] M (fun r5 M6 => Q (zw r5) M6))) ∧ (¬ zw v2 = 10 → ¬ zw v2 = 11 → ¬ zw v2 = 12 → (Q (-2000000000) M))) : wp E 7 cX7_ofName (some .int) Q 0 [some (.ref 64), some (zI v1), some (zI v2)] [] M := by
  refine w_iload_n dX7_ofName_0 rfl ?_
  by_cases q0 : zw v2 = 10
  · refine w_tsw (tgt := 28) dX7_ofName_1 (by rw [q0]; decide) (by rw [q0]; decide) ?_
    have h := h.1 q0
    refine w_aload_n dX7_ofName_28 rfl ?_
    refine w_gfO (ci := 7) (k := 1) (q := 192) dX7_ofName_29 f7_21 ob_64 rfl rfl ?_
    refine w_gfA (ci := 4) (k := 12) dX7_ofName_32 f7_130 ob_192 rfl ?_
    refine w_iload_n dX7_ofName_35 rfl ?_
    obtain ⟨c1, h⟩ := h
    obtain ⟨c2, h⟩ := h
    refine w_iald dX7_ofName_36 rfl (a4_12 ob_192) c1 c2 ?_
    exact w_ri rfl dX7_ofName_37 (zw_zg _ _ _) h
  · skip
    by_cases q1 : zw v2 = 11
    · refine w_tsw (tgt := 38) dX7_ofName_1 (by rw [q1]; decide) (by rw [q1]; decide) ?_
      have h := h.2.1 q1
      refine w_aload_n dX7_ofName_38 rfl ?_
      refine w_gfO (ci := 7) (k := 1) (q := 192) dX7_ofName_39 f7_21 ob_64 rfl rfl ?_
      refine w_gfA (ci := 4) (k := 13) dX7_ofName_42 f7_121 ob_192 rfl ?_
      refine w_iload_n dX7_ofName_45 rfl ?_
      obtain ⟨c3, h⟩ := h
      obtain ⟨c4, h⟩ := h
      refine w_iald dX7_ofName_46 rfl (a4_13 ob_192) c3 c4 ?_
      exact w_ri rfl dX7_ofName_47 (zw_zg _ _ _) h
    · skip
      by_cases q2 : zw v2 = 12
      · refine w_tsw (tgt := 48) dX7_ofName_1 (by rw [q2]; decide) (by rw [q2]; decide) ?_
        have h := h.2.2.1 q2
        refine w_aload_n dX7_ofName_48 rfl ?_
        refine w_gfO (ci := 7) (k := 1) (q := 192) dX7_ofName_49 f7_21 ob_64 rfl rfl ?_
        refine w_iload_n dX7_ofName_52 rfl ?_
        refine w_invVi [_] dX7_ofName_53 l7_337 kX4_bearersOf rfl rfl (Nat.le_of_ble_eq_true rfl) (Or.inl rfl) ob_192 h (fun r5 M6 h => ?_)
        exact w_ri rfl dX7_ofName_56 rfl h
      · skip
        have hz : (1 : Int) + zts (56) 10 12 #[27, 37, 47] (zw v2) = (57 : Nat) := by
          rcases (show zw v2 < 10 ∨ 12 < zw v2 by omega) with z | z <;> first | (rw [zts, if_pos (Or.inl z)]; rfl) | (rw [zts, if_pos (Or.inr z)]; rfl) | (rw [z]; decide)
        have hn : ¬ (zw v2 < 10 ∨ 12 < zw v2) → ((zw v2 - 10).toNat) < (#[27, 37, 47] : Array Int).size := by
          intro z
          show _ < 3
          omega
        refine w_tsw (tgt := 57) dX7_ofName_1 hz hn ?_
        have h := h.2.2.2 q0 q1 q2
        refine w_ldc (n := -2000000000) dX7_ofName_57 o7_114 ?_
        exact w_ri rfl dX7_ofName_59 zq_m2000000000 h
theorem e_X7_ofMeeting {d : Nat} {Q : Int → zM → Prop} {M : zM} (v1 : Int) (v2 : Int) (h : wp (Ev d) 7 cX7_ofMeeting (some .int) Q 0 [some (.ref 64), some (zI v1), some (zI v2)] [] M) : Ev (d + 1) mX7_ofMeeting [.ref 64, zI v1, zI v2] M Q := ⟨kX7_ofMeeting, Nat.le_of_ble_eq_true rfl, h⟩
theorem v_X7_ofMeeting_0 {E : zE} {Q : Int → zM → Prop} {M : zM} (v1 : Int) (v2 : Int)  (h : (zw v2 = 20 → ((0 ≤ zw v1) ∧ ((zw v1 < 16) ∧ ((0 ≤ zw v1) ∧ ((zw v1 < 16) ∧ (Q (zw ((100 * (zg M 199 (zw v1).toNat)) + (zg M 200 (zw v1).toNat))) M)))))) ∧ (zw v2 = 21 → ((0 ≤ zw v1) ∧ ((zw v1 < 16) ∧ (Q (zg M 201 (zw v1).toNat) M)))) ∧ (zw v2 = 22 → (E mX4_counts [.ref 192, zI v1] M (fun r7 M8 => (zw r7 = 0 → (Q 0 M8)) ∧ (¬ zw r7 = 0 → (Q 1 M8))))) ∧ (¬ zw v2 = 20 → ¬ zw v2 = 21 → ¬ zw v2 = 22 → (Q (-2000000000) M))) : wp E 7 cX7_ofMeeting (some .int) Q 0 [some (.ref 64), some (zI v1), some (zI v2)] [] M := by
  refine w_iload_n dX7_ofMeeting_0 rfl ?_
  by_cases q0 : zw v2 = 20
  · refine w_tsw (tgt := 28) dX7_ofMeeting_1 (by rw [q0]; decide) (by rw [q0]; decide) ?_
    have h := h.1 q0
    refine w_bipush dX7_ofMeeting_28 (by decide) ?_
    refine w_aload_n dX7_ofMeeting_30 rfl ?_
    refine w_gfO (ci := 7) (k := 1) (q := 192) dX7_ofMeeting_31 f7_21 ob_64 rfl rfl ?_
    refine w_gfA (ci := 4) (k := 6) dX7_ofMeeting_34 f7_340 ob_192 rfl ?_
    refine w_iload_n dX7_ofMeeting_37 rfl ?_
    obtain ⟨c1, h⟩ := h
    obtain ⟨c2, h⟩ := h
    refine w_iald dX7_ofMeeting_38 rfl (a4_6 ob_192) c1 c2 ?_
    refine w_imul dX7_ofMeeting_39 ?_
    refine w_aload_n dX7_ofMeeting_40 rfl ?_
    refine w_gfO (ci := 7) (k := 1) (q := 192) dX7_ofMeeting_41 f7_21 ob_64 rfl rfl ?_
    refine w_gfA (ci := 4) (k := 7) dX7_ofMeeting_44 f7_343 ob_192 rfl ?_
    refine w_iload_n dX7_ofMeeting_47 rfl ?_
    obtain ⟨c3, h⟩ := h
    obtain ⟨c4, h⟩ := h
    refine w_iald dX7_ofMeeting_48 rfl (a4_7 ob_192) c3 c4 ?_
    refine w_iadd dX7_ofMeeting_49 ?_
    exact w_ri rfl dX7_ofMeeting_50 rfl h
  · skip
    by_cases q1 : zw v2 = 21
    · refine w_tsw (tgt := 51) dX7_ofMeeting_1 (by rw [q1]; decide) (by rw [q1]; decide) ?_
      have h := h.2.1 q1
      refine w_aload_n dX7_ofMeeting_51 rfl ?_
      refine w_gfO (ci := 7) (k := 1) (q := 192) dX7_ofMeeting_52 f7_21 ob_64 rfl rfl ?_
      refine w_gfA (ci := 4) (k := 8) dX7_ofMeeting_55 f7_346 ob_192 rfl ?_
      refine w_iload_n dX7_ofMeeting_58 rfl ?_
      obtain ⟨c5, h⟩ := h
      obtain ⟨c6, h⟩ := h
      refine w_iald dX7_ofMeeting_59 rfl (a4_8 ob_192) c5 c6 ?_
      exact w_ri rfl dX7_ofMeeting_60 (zw_zg _ _ _) h
    · skip
      by_cases q2 : zw v2 = 22
      · refine w_tsw (tgt := 61) dX7_ofMeeting_1 (by rw [q2]; decide) (by rw [q2]; decide) ?_
        have h := h.2.2.1 q2
        refine w_aload_n dX7_ofMeeting_61 rfl ?_
        refine w_gfO (ci := 7) (k := 1) (q := 192) dX7_ofMeeting_62 f7_21 ob_64 rfl rfl ?_
        refine w_iload_n dX7_ofMeeting_65 rfl ?_
        refine w_invVi [_] dX7_ofMeeting_66 l7_349 kX4_counts rfl rfl (Nat.le_of_ble_eq_true rfl) (Or.inr rfl) ob_192 h (fun r7 M8 h => ?_)
        refine w_if_eq (tgt := 76) dX7_ofMeeting_69 (by decide) rfl (fun q => ?_) (fun q => ?_)
        · have h := h.1 q
          refine w_iconst dX7_ofMeeting_76 ?_
          exact w_ri rfl dX7_ofMeeting_77 zq_0 h
        · have h := h.2 q
          refine w_iconst dX7_ofMeeting_72 ?_
          refine w_goto (tgt := 77) dX7_ofMeeting_73 (by decide) ?_
          exact w_ri rfl dX7_ofMeeting_77 zq_1 h
      · skip
        have hz : (1 : Int) + zts (77) 20 22 #[27, 50, 60] (zw v2) = (78 : Nat) := by
          rcases (show zw v2 < 20 ∨ 22 < zw v2 by omega) with z | z <;> first | (rw [zts, if_pos (Or.inl z)]; rfl) | (rw [zts, if_pos (Or.inr z)]; rfl) | (rw [z]; decide)
        have hn : ¬ (zw v2 < 20 ∨ 22 < zw v2) → ((zw v2 - 20).toNat) < (#[27, 50, 60] : Array Int).size := by
          intro z
          show _ < 3
          omega
        refine w_tsw (tgt := 78) dX7_ofMeeting_1 hz hn ?_
        have h := h.2.2.2 q0 q1 q2
        refine w_ldc (n := -2000000000) dX7_ofMeeting_78 o7_114 ?_
        exact w_ri rfl dX7_ofMeeting_80 zq_m2000000000 h
theorem e_X7_heldTill {d : Nat} {Q : Int → zM → Prop} {M : zM} (v1 : Int) (v2 : Int) (h : wp (Ev d) 7 cX7_heldTill (some .int) Q 0 [some (.ref 64), some (zI v1), some (zI v2), none] [] M) : Ev (d + 1) mX7_heldTill [.ref 64, zI v1, zI v2] M Q := ⟨kX7_heldTill, Nat.le_of_ble_eq_true rfl, h⟩
theorem v_X7_heldTill_0 {E : zE} {Q : Int → zM → Prop} {M : zM} (v1 : Int) (v2 : Int)  (h : wp E 7 cX7_heldTill (some .int) Q 2 [some (.ref 64), some (zI v1), none, some (zI v2)] [] M) : wp E 7 cX7_heldTill (some .int) Q 0 [some (.ref 64), some (zI v1), some (zI v2), none] [] M := by
  refine w_iload_n dX7_heldTill_0 rfl ?_
  refine w_istore_n dX7_heldTill_1 (Nat.le_of_ble_eq_true rfl) rfl ?_
  exact w_fgt (fgk (fgk (fgd (fgk (fgn))))) h
theorem v_X7_heldTill_2 {E : zE} {Q : Int → zM → Prop} {M : zM} (v1 : Int) (v3 : Int)  (h : (zw v3 < 100 → (E mX4_heldIn [.ref 192, zI v3] M (fun r1 M2 => (z_and (z_shr r1 v1) 1 = 0 → (Q (zw v3) M2)) ∧ (¬ z_and (z_shr r1 v1) 1 = 0 → (wp E 7 cX7_heldTill (some .int) Q 2 [some (.ref 64), some (zI v1), none, some (zI (v3 + 1))] [] M2))))) ∧ (¬ zw v3 < 100 → (Q (-2) M))) : wp E 7 cX7_heldTill (some .int) Q 2 [some (.ref 64), some (zI v1), none, some (zI v3)] [] M := by
  refine w_iload_n dX7_heldTill_2 rfl ?_
  refine w_bipush dX7_heldTill_3 (by decide) ?_
  refine w_icmp_ge (tgt := 31) dX7_heldTill_5 (by decide) rfl zq_100 (fun q => ?_) (fun q => ?_)
  · have h := h.2 q
    refine w_bipush dX7_heldTill_31 (by decide) ?_
    exact w_ri rfl dX7_heldTill_33 zq_m2 h
  · have h := h.1 q
    refine w_aload_n dX7_heldTill_8 rfl ?_
    refine w_gfO (ci := 7) (k := 1) (q := 192) dX7_heldTill_9 f7_21 ob_64 rfl rfl ?_
    refine w_iload_n dX7_heldTill_12 rfl ?_
    refine w_invVi [_] dX7_heldTill_13 l7_168 kX4_heldIn rfl rfl (Nat.le_of_ble_eq_true rfl) (Or.inl rfl) ob_192 h (fun r1 M2 h => ?_)
    refine w_iload_n dX7_heldTill_16 rfl ?_
    refine w_ishr dX7_heldTill_17 ?_
    refine w_iconst dX7_heldTill_18 ?_
    refine w_iand dX7_heldTill_19 ?_
    refine w_if_ne (tgt := 25) dX7_heldTill_20 (by decide) (zx_and _ _) (fun q => ?_) (fun q => ?_)
    · have h := h.2 q
      refine w_iinc dX7_heldTill_25 rfl rfl ?_
      refine w_goto (tgt := 2) dX7_heldTill_28 (by decide) ?_
      exact w_fgt (fgk (fgk (fgd (fgk (fgn))))) h
    · have h := h.1 q
      refine w_iload_n dX7_heldTill_23 rfl ?_
      exact w_ri rfl dX7_heldTill_24 rfl h
theorem e_X7_setChanged {d : Nat} {Q : Int → zM → Prop} {M : zM} (v1 : Int) (h : wp (Ev d) 7 cX7_setChanged (none) Q 0 [some (.ref 64), some (zI v1), none] [] M) : Ev (d + 1) mX7_setChanged [.ref 64, zI v1] M Q := ⟨kX7_setChanged, Nat.le_of_ble_eq_true rfl, h⟩
theorem v_X7_setChanged_0 {E : zE} {Q : Int → zM → Prop} {M : zM} (v1 : Int)  (h : (0 ≤ zg M 448 4) ∧ ((zg M 448 4 < 40) ∧ ((0 ≤ zg M 448 4) ∧ ((zg M 448 4 < 40) ∧ ((zg M 449 (zg M 448 4).toNat = 0 → ((0 ≤ zg M 450 (zg M 448 4).toNat) ∧ ((zg M 450 (zg M 448 4).toNat < 12) ∧ (∀ M10 : zM, M10 = zs M 195 (zg M 450 (zg M 448 4).toNat).toNat v1 → (Q 0 M10))))) ∧ (¬ zg M 449 (zg M 448 4).toNat = 0 → ((0 ≤ zg M 450 (zg M 448 4).toNat) ∧ ((zg M 450 (zg M 448 4).toNat < 12) ∧ (∀ M7 : zM, M7 = zs M 205 (zg M 450 (zg M 448 4).toNat).toNat v1 → (Q 0 M7)))))))))) : wp E 7 cX7_setChanged (none) Q 0 [some (.ref 64), some (zI v1), none] [] M := by
  refine w_aload_n dX7_setChanged_0 rfl ?_
  refine w_gfO (ci := 7) (k := 4) (q := 448) dX7_setChanged_1 f7_46 ob_64 rfl rfl ?_
  refine w_gfA (ci := 0) (k := 1) dX7_setChanged_4 f7_352 ob_448 rfl ?_
  refine w_aload_n dX7_setChanged_7 rfl ?_
  refine w_gfO (ci := 7) (k := 4) (q := 448) dX7_setChanged_8 f7_46 ob_64 rfl rfl ?_
  refine w_gfI (ci := 0) (k := 4) dX7_setChanged_11 f7_250 ob_448 rfl ?_
  obtain ⟨c1, h⟩ := h
  obtain ⟨c2, h⟩ := h
  refine w_iald dX7_setChanged_14 (zw_zg _ _ _) (a0_1 ob_448) c1 c2 ?_
  refine w_istore_n dX7_setChanged_15 (Nat.le_of_ble_eq_true rfl) rfl ?_
  refine w_aload_n dX7_setChanged_16 rfl ?_
  refine w_gfO (ci := 7) (k := 4) (q := 448) dX7_setChanged_17 f7_46 ob_64 rfl rfl ?_
  refine w_gfA (ci := 0) (k := 0) dX7_setChanged_20 f7_355 ob_448 rfl ?_
  refine w_aload_n dX7_setChanged_23 rfl ?_
  refine w_gfO (ci := 7) (k := 4) (q := 448) dX7_setChanged_24 f7_46 ob_64 rfl rfl ?_
  refine w_gfI (ci := 0) (k := 4) dX7_setChanged_27 f7_250 ob_448 rfl ?_
  obtain ⟨c3, h⟩ := h
  obtain ⟨c4, h⟩ := h
  refine w_iald dX7_setChanged_30 (zw_zg _ _ _) (a0_0 ob_448) c3 c4 ?_
  refine w_if_ne (tgt := 47) dX7_setChanged_31 (by decide) (zw_zg _ _ _) (fun q => ?_) (fun q => ?_)
  · have h := h.2 q
    refine w_aload_n dX7_setChanged_47 rfl ?_
    refine w_gfO (ci := 7) (k := 1) (q := 192) dX7_setChanged_48 f7_21 ob_64 rfl rfl ?_
    refine w_gfA (ci := 4) (k := 12) dX7_setChanged_51 f7_130 ob_192 rfl ?_
    refine w_iload_n dX7_setChanged_54 rfl ?_
    refine w_iload_n dX7_setChanged_55 rfl ?_
    obtain ⟨c5, h⟩ := h
    obtain ⟨c6, h⟩ := h
    have h := h _ rfl
    refine w_iast dX7_setChanged_56 (zw_zg _ _ _) (a4_12 ob_192) c5 c6 ?_
    exact w_rv rfl dX7_setChanged_57 h
  · have h := h.1 q
    refine w_aload_n dX7_setChanged_34 rfl ?_
    refine w_gfO (ci := 7) (k := 1) (q := 192) dX7_setChanged_35 f7_21 ob_64 rfl rfl ?_
    refine w_gfA (ci := 4) (k := 2) dX7_setChanged_38 f7_127 ob_192 rfl ?_
    refine w_iload_n dX7_setChanged_41 rfl ?_
    refine w_iload_n dX7_setChanged_42 rfl ?_
    obtain ⟨c8, h⟩ := h
    obtain ⟨c9, h⟩ := h
    have h := h _ rfl
    refine w_iast dX7_setChanged_43 (zw_zg _ _ _) (a4_2 ob_192) c8 c9 ?_
    refine w_goto (tgt := 57) dX7_setChanged_44 (by decide) ?_
    exact w_rv rfl dX7_setChanged_57 h
theorem e_X7_refusalOf {d : Nat} {Q : Int → zM → Prop} {M : zM} (v1 : Int) (v2 : Int) (h : wp (Ev d) 7 cX7_refusalOf (some .int) Q 0 [some (.ref 64), some (zI v1), some (zI v2)] [] M) : Ev (d + 1) mX7_refusalOf [.ref 64, zI v1, zI v2] M Q := ⟨kX7_refusalOf, Nat.le_of_ble_eq_true rfl, h⟩
theorem v_X7_refusalOf_0 {E : zE} {Q : Int → zM → Prop} {M : zM} (v1 : Int) (v2 : Int)  (h : E mX7_isShelf [zI v1] M (fun r1 M2 => (zw r1 = 0 → (Q (-1) M2)) ∧ (¬ zw r1 = 0 → ((0 ≤ zw v1) ∧ ((zw v1 < 6) ∧ (E mX6_isEmpty [.ref (640 + 64 * (zw v1).toNat)] M2 (fun r5 M6 => (zw r5 = 0 → ((0 ≤ zw v1) ∧ ((zw v1 < 6) ∧ (E mX6_isRow [.ref (640 + 64 * (zw v1).toNat)] M6 (fun r9 M10 => (zw r9 = 0 → (Q (-12) M10)) ∧ (¬ zw r9 = 0 → ((0 ≤ zw v1) ∧ ((zw v1 < 6) ∧ (E mX6_hasPlaces [.ref (640 + 64 * (zw v1).toNat), zI v2, zI 1] M10 (fun r13 M14 => (zw r13 = 0 → (Q (-13) M14)) ∧ (¬ zw r13 = 0 → (Q 0 M14)))))))))))) ∧ (¬ zw r5 = 0 → (Q (-11) M6))))))))) : wp E 7 cX7_refusalOf (some .int) Q 0 [some (.ref 64), some (zI v1), some (zI v2)] [] M := by
  refine w_iload_n dX7_refusalOf_0 rfl ?_
  refine w_invSi [_] dX7_refusalOf_1 l7_80 kX7_isShelf rfl rfl (Nat.le_of_ble_eq_true rfl) (Or.inr rfl) h (fun r1 M2 h => ?_)
  refine w_if_ne (tgt := 9) dX7_refusalOf_4 (by decide) rfl (fun q => ?_) (fun q => ?_)
  · have h := h.2 q
    refine w_aload_n dX7_refusalOf_9 rfl ?_
    refine w_gfA (ci := 7) (k := 6) dX7_refusalOf_10 f7_59 ob_64 rfl ?_
    refine w_iload_n dX7_refusalOf_13 rfl ?_
    obtain ⟨c3, h⟩ := h
    obtain ⟨c4, h⟩ := h
    refine w_aald dX7_refusalOf_14 rfl (a7_6 ob_64) c3 c4 ?_
    refine w_invVi [] dX7_refusalOf_15 l7_84 kX6_isEmpty rfl rfl (Nat.le_of_ble_eq_true rfl) (Or.inr rfl) (ob_sh (zsh c3 c4)) h (fun r5 M6 h => ?_)
    refine w_if_eq (tgt := 24) dX7_refusalOf_18 (by decide) rfl (fun q => ?_) (fun q => ?_)
    · have h := h.1 q
      refine w_aload_n dX7_refusalOf_24 rfl ?_
      refine w_gfA (ci := 7) (k := 6) dX7_refusalOf_25 f7_59 ob_64 rfl ?_
      refine w_iload_n dX7_refusalOf_28 rfl ?_
      obtain ⟨c7, h⟩ := h
      obtain ⟨c8, h⟩ := h
      refine w_aald dX7_refusalOf_29 rfl (a7_6 ob_64) c7 c8 ?_
      refine w_invVi [] dX7_refusalOf_30 l7_88 kX6_isRow rfl rfl (Nat.le_of_ble_eq_true rfl) (Or.inr rfl) (ob_sh (zsh c7 c8)) h (fun r9 M10 h => ?_)
      refine w_if_ne (tgt := 39) dX7_refusalOf_33 (by decide) rfl (fun q => ?_) (fun q => ?_)
      · have h := h.2 q
        refine w_aload_n dX7_refusalOf_39 rfl ?_
        refine w_gfA (ci := 7) (k := 6) dX7_refusalOf_40 f7_59 ob_64 rfl ?_
        refine w_iload_n dX7_refusalOf_43 rfl ?_
        obtain ⟨c11, h⟩ := h
        obtain ⟨c12, h⟩ := h
        refine w_aald dX7_refusalOf_44 rfl (a7_6 ob_64) c11 c12 ?_
        refine w_iload_n dX7_refusalOf_45 rfl ?_
        refine w_iconst dX7_refusalOf_46 ?_
        refine w_invVi [_, _] dX7_refusalOf_47 l7_307 kX6_hasPlaces rfl rfl (Nat.le_of_ble_eq_true rfl) (Or.inr rfl) (ob_sh (zsh c11 c12)) h (fun r13 M14 h => ?_)
        refine w_if_eq (tgt := 57) dX7_refusalOf_50 (by decide) rfl (fun q => ?_) (fun q => ?_)
        · have h := h.1 q
          refine w_bipush dX7_refusalOf_57 (by decide) ?_
          exact w_ri rfl dX7_refusalOf_59 zq_m13 h
        · have h := h.2 q
          refine w_iconst dX7_refusalOf_53 ?_
          refine w_goto (tgt := 59) dX7_refusalOf_54 (by decide) ?_
          exact w_ri rfl dX7_refusalOf_59 zq_0 h
      · have h := h.1 q
        refine w_bipush dX7_refusalOf_36 (by decide) ?_
        exact w_ri rfl dX7_refusalOf_38 zq_m12 h
    · have h := h.2 q
      refine w_bipush dX7_refusalOf_21 (by decide) ?_
      exact w_ri rfl dX7_refusalOf_23 zq_m11 h
  · have h := h.1 q
    refine w_iconst dX7_refusalOf_7 ?_
    exact w_ri rfl dX7_refusalOf_8 zq_m1 h
theorem e_J6_bitCount_0f7a4 {d : Nat} {Q : Int → zM → Prop} {M : zM} (v0 : Int) (h : wp (Ev d) 9 cJ6_bitCount_0f7a4 (some .int) Q 0 [some (zI v0)] [] M) : Ev (d + 1) mJ6_bitCount_0f7a4 [zI v0] M Q := ⟨kJ6_bitCount_0f7a4, Nat.le_of_ble_eq_true rfl, h⟩
theorem v_J6_bitCount_0f7a4_0 {E : zE} {Q : Int → zM → Prop} {M : zM} (v0 : Int)  (h : Q (z_and (((z_and (((z_and (v0 - (z_and (z_ushr v0 1) 1431655765)) 858993459) + (z_and (z_ushr (v0 - (z_and (z_ushr v0 1) 1431655765)) 2) 858993459)) + (z_ushr ((z_and (v0 - (z_and (z_ushr v0 1) 1431655765)) 858993459) + (z_and (z_ushr (v0 - (z_and (z_ushr v0 1) 1431655765)) 2) 858993459)) 4)) 252645135) + (z_ushr (z_and (((z_and (v0 - (z_and (z_ushr v0 1) 1431655765)) 858993459) + (z_and (z_ushr (v0 - (z_and (z_ushr v0 1) 1431655765)) 2) 858993459)) + (z_ushr ((z_and (v0 - (z_and (z_ushr v0 1) 1431655765)) 858993459) + (z_and (z_ushr (v0 - (z_and (z_ushr v0 1) 1431655765)) 2) 858993459)) 4)) 252645135) 8)) + (z_ushr ((z_and (((z_and (v0 - (z_and (z_ushr v0 1) 1431655765)) 858993459) + (z_and (z_ushr (v0 - (z_and (z_ushr v0 1) 1431655765)) 2) 858993459)) + (z_ushr ((z_and (v0 - (z_and (z_ushr v0 1) 1431655765)) 858993459) + (z_and (z_ushr (v0 - (z_and (z_ushr v0 1) 1431655765)) 2) 858993459)) 4)) 252645135) + (z_ushr (z_and (((z_and (v0 - (z_and (z_ushr v0 1) 1431655765)) 858993459) + (z_and (z_ushr (v0 - (z_and (z_ushr v0 1) 1431655765)) 2) 858993459)) + (z_ushr ((z_and (v0 - (z_and (z_ushr v0 1) 1431655765)) 858993459) + (z_and (z_ushr (v0 - (z_and (z_ushr v0 1) 1431655765)) 2) 858993459)) 4)) 252645135) 8)) 16)) 63) M) : wp E 9 cJ6_bitCount_0f7a4 (some .int) Q 0 [some (zI v0)] [] M := by
  refine w_iload_n dJ6_bitCount_0f7a4_0 rfl ?_
  refine w_iload_n dJ6_bitCount_0f7a4_1 rfl ?_
  refine w_iconst dJ6_bitCount_0f7a4_2 ?_
  refine w_iushr dJ6_bitCount_0f7a4_3 ?_
  refine w_ldcw (n := 1431655765) dJ6_bitCount_0f7a4_4 o9_265 ?_
  refine w_iand dJ6_bitCount_0f7a4_7 ?_
  refine w_isub dJ6_bitCount_0f7a4_8 ?_
  refine w_istore_n dJ6_bitCount_0f7a4_9 (Nat.le_of_ble_eq_true rfl) rfl ?_
  refine w_iload_n dJ6_bitCount_0f7a4_10 rfl ?_
  refine w_ldcw (n := 858993459) dJ6_bitCount_0f7a4_11 o9_266 ?_
  refine w_iand dJ6_bitCount_0f7a4_14 ?_
  refine w_iload_n dJ6_bitCount_0f7a4_15 rfl ?_
  refine w_iconst dJ6_bitCount_0f7a4_16 ?_
  refine w_iushr dJ6_bitCount_0f7a4_17 ?_
  refine w_ldcw (n := 858993459) dJ6_bitCount_0f7a4_18 o9_266 ?_
  refine w_iand dJ6_bitCount_0f7a4_21 ?_
  refine w_iadd dJ6_bitCount_0f7a4_22 ?_
  refine w_istore_n dJ6_bitCount_0f7a4_23 (Nat.le_of_ble_eq_true rfl) rfl ?_
  refine w_iload_n dJ6_bitCount_0f7a4_24 rfl ?_
  refine w_iload_n dJ6_bitCount_0f7a4_25 rfl ?_
  refine w_iconst dJ6_bitCount_0f7a4_26 ?_
  refine w_iushr dJ6_bitCount_0f7a4_27 ?_
  refine w_iadd dJ6_bitCount_0f7a4_28 ?_
  refine w_ldcw (n := 252645135) dJ6_bitCount_0f7a4_29 o9_267 ?_
  refine w_iand dJ6_bitCount_0f7a4_32 ?_
  refine w_istore_n dJ6_bitCount_0f7a4_33 (Nat.le_of_ble_eq_true rfl) rfl ?_
  refine w_iload_n dJ6_bitCount_0f7a4_34 rfl ?_
  refine w_iload_n dJ6_bitCount_0f7a4_35 rfl ?_
  refine w_bipush dJ6_bitCount_0f7a4_36 (by decide) ?_
  refine w_iushr dJ6_bitCount_0f7a4_38 ?_
  refine w_iadd dJ6_bitCount_0f7a4_39 ?_
  refine w_istore_n dJ6_bitCount_0f7a4_40 (Nat.le_of_ble_eq_true rfl) rfl ?_
  refine w_iload_n dJ6_bitCount_0f7a4_41 rfl ?_
  refine w_iload_n dJ6_bitCount_0f7a4_42 rfl ?_
  refine w_bipush dJ6_bitCount_0f7a4_43 (by decide) ?_
  refine w_iushr dJ6_bitCount_0f7a4_45 ?_
  refine w_iadd dJ6_bitCount_0f7a4_46 ?_
  refine w_istore_n dJ6_bitCount_0f7a4_47 (Nat.le_of_ble_eq_true rfl) rfl ?_
  refine w_iload_n dJ6_bitCount_0f7a4_48 rfl ?_
  refine w_bipush dJ6_bitCount_0f7a4_49 (by decide) ?_
  refine w_iand dJ6_bitCount_0f7a4_51 ?_
  exact w_ri rfl dJ6_bitCount_0f7a4_52 (zx_and _ _) h
theorem e_J7_fill_d0a16 {d : Nat} {Q : Int → zM → Prop} {M : zM} (q1 : Nat) (v1 : Int) (h : wp (Ev d) 11 cJ7_fill_d0a16 (none) Q 0 [some (.ref q1), some (zJ v1), none, none, none] [] M) : Ev (d + 1) mJ7_fill_d0a16 [.ref q1, zJ v1] M Q := ⟨kJ7_fill_d0a16, Nat.le_of_ble_eq_true rfl, h⟩
theorem v_J7_fill_d0a16_0 {E : zE} {Q : Int → zM → Prop} {M : zM} (q1 : Nat) (n1 : Nat) (v1 : Int) (h_q1 : zar q1 .long n1) (h : wp E 11 cJ7_fill_d0a16 (none) Q 6 [some (.ref q1), some (zJ v1), none, some (zI 0), some (zI (n1 : Int))] [] M) : wp E 11 cJ7_fill_d0a16 (none) Q 0 [some (.ref q1), some (zJ v1), none, none, none] [] M := by
  refine w_iconst dJ7_fill_d0a16_0 ?_
  refine w_istore_n dJ7_fill_d0a16_1 (Nat.le_of_ble_eq_true rfl) rfl ?_
  refine w_aload_n dJ7_fill_d0a16_2 rfl ?_
  refine w_alen dJ7_fill_d0a16_3 h_q1 (Or.inr rfl) ?_
  refine w_istore dJ7_fill_d0a16_4 (Nat.le_of_ble_eq_true rfl) rfl ?_
  exact w_fgt (fgk (fgk (fgd (fgk (fgk (fgn)))))) h
theorem v_J7_fill_d0a16_6 {E : zE} {Q : Int → zM → Prop} {M : zM} (q1 : Nat) (n1 : Nat) (v1 : Int) (v3 : Int) (v4 : Int) (h_q1 : zar q1 .long n1) (h : (zw v3 < zw v4 → ((0 ≤ zw v3) ∧ ((zw v3 < (n1 : Int)) ∧ (∀ M3 : zM, M3 = zt M q1 (zw v3).toNat v1 → (wp E 11 cJ7_fill_d0a16 (none) Q 6 [some (.ref q1), some (zJ v1), none, some (zI (v3 + 1)), some (zI v4)] [] M3))))) ∧ (¬ zw v3 < zw v4 → (Q 0 M))) : wp E 11 cJ7_fill_d0a16 (none) Q 6 [some (.ref q1), some (zJ v1), none, some (zI v3), some (zI v4)] [] M := by
  refine w_iload_n dJ7_fill_d0a16_6 rfl ?_
  refine w_iload dJ7_fill_d0a16_7 rfl ?_
  refine w_icmp_ge (tgt := 22) dJ7_fill_d0a16_9 (by decide) rfl rfl (fun q => ?_) (fun q => ?_)
  · have h := h.2 q
    exact w_rv rfl dJ7_fill_d0a16_22 h
  · have h := h.1 q
    refine w_aload_n dJ7_fill_d0a16_12 rfl ?_
    refine w_iload_n dJ7_fill_d0a16_13 rfl ?_
    refine w_lload_n dJ7_fill_d0a16_14 rfl ?_
    obtain ⟨c1, h⟩ := h
    obtain ⟨c2, h⟩ := h
    have h := h _ rfl
    refine w_last dJ7_fill_d0a16_15 rfl h_q1 c1 c2 ?_
    refine w_iinc dJ7_fill_d0a16_16 rfl rfl ?_
    refine w_goto (tgt := 6) dJ7_fill_d0a16_19 (by decide) ?_
    exact w_fgt (fgk (fgk (fgd (fgk (fgk (fgn)))))) h
theorem e_J7_fill_53178 {d : Nat} {Q : Int → zM → Prop} {M : zM} (q1 : Nat) (v1 : Int) (h : wp (Ev d) 11 cJ7_fill_53178 (none) Q 0 [some (.ref q1), some (zI v1), none, none] [] M) : Ev (d + 1) mJ7_fill_53178 [.ref q1, zI v1] M Q := ⟨kJ7_fill_53178, Nat.le_of_ble_eq_true rfl, h⟩
theorem v_J7_fill_53178_0 {E : zE} {Q : Int → zM → Prop} {M : zM} (q1 : Nat) (n1 : Nat) (v1 : Int) (h_q1 : zar q1 .int n1) (h : wp E 11 cJ7_fill_53178 (none) Q 5 [some (.ref q1), some (zI v1), some (zI 0), some (zI (n1 : Int))] [] M) : wp E 11 cJ7_fill_53178 (none) Q 0 [some (.ref q1), some (zI v1), none, none] [] M := by
  refine w_iconst dJ7_fill_53178_0 ?_
  refine w_istore_n dJ7_fill_53178_1 (Nat.le_of_ble_eq_true rfl) rfl ?_
  refine w_aload_n dJ7_fill_53178_2 rfl ?_
  refine w_alen dJ7_fill_53178_3 h_q1 (Or.inl rfl) ?_
  refine w_istore_n dJ7_fill_53178_4 (Nat.le_of_ble_eq_true rfl) rfl ?_
  exact w_fgt (fgk (fgk (fgk (fgk (fgn))))) h
theorem v_J7_fill_53178_5 {E : zE} {Q : Int → zM → Prop} {M : zM} (q1 : Nat) (n1 : Nat) (v1 : Int) (v2 : Int) (v3 : Int) (h_q1 : zar q1 .int n1) (h : (zw v2 < zw v3 → ((0 ≤ zw v2) ∧ ((zw v2 < (n1 : Int)) ∧ (∀ M3 : zM, M3 = zs M q1 (zw v2).toNat v1 → (wp E 11 cJ7_fill_53178 (none) Q 5 [some (.ref q1), some (zI v1), some (zI (v2 + 1)), some (zI v3)] [] M3))))) ∧ (¬ zw v2 < zw v3 → (Q 0 M))) : wp E 11 cJ7_fill_53178 (none) Q 5 [some (.ref q1), some (zI v1), some (zI v2), some (zI v3)] [] M := by
  refine w_iload_n dJ7_fill_53178_5 rfl ?_
  refine w_iload_n dJ7_fill_53178_6 rfl ?_
  refine w_icmp_ge (tgt := 20) dJ7_fill_53178_7 (by decide) rfl rfl (fun q => ?_) (fun q => ?_)
  · have h := h.2 q
    exact w_rv rfl dJ7_fill_53178_20 h
  · have h := h.1 q
    refine w_aload_n dJ7_fill_53178_10 rfl ?_
    refine w_iload_n dJ7_fill_53178_11 rfl ?_
    refine w_iload_n dJ7_fill_53178_12 rfl ?_
    obtain ⟨c1, h⟩ := h
    obtain ⟨c2, h⟩ := h
    have h := h _ rfl
    refine w_iast dJ7_fill_53178_13 rfl h_q1 c1 c2 ?_
    refine w_iinc dJ7_fill_53178_14 rfl rfl ?_
    refine w_goto (tgt := 5) dJ7_fill_53178_17 (by decide) ?_
    exact w_fgt (fgk (fgk (fgk (fgk (fgn))))) h
