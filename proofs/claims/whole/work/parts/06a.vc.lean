theorem e_X0_add {d : Nat} {Q : Int → zM → Prop} {M : zM} (v1 : Int) (v2 : Int) (v3 : Int) (v4 : Int) (h : wp (Ev d) 0 cX0_add (none) Q 0 [some (.ref 448), some (zI v1), some (zI v2), some (zI v3), some (zI v4)] [] M) : Ev (d + 1) mX0_add [.ref 448, zI v1, zI v2, zI v3, zI v4] M Q := ⟨kX0_add, Nat.le_of_ble_eq_true rfl, h⟩
theorem v_X0_add_0 {E : zE} {Q : Int → zM → Prop} {M : zM} (v1 : Int) (v2 : Int) (v3 : Int) (v4 : Int)  (h : (zg M 448 4 < 40 → (wp E 0 cX0_add (none) Q 13 [some (.ref 448), some (zI v1), some (zI v2), some (zI v3), some (zI v4)] [] M)) ∧ (¬ zg M 448 4 < 40 → (E mX0_dropOldest [.ref 448] M (fun r1 M2 => wp E 0 cX0_add (none) Q 13 [some (.ref 448), some (zI v1), some (zI v2), some (zI v3), some (zI v4)] [] M2)))) : wp E 0 cX0_add (none) Q 0 [some (.ref 448), some (zI v1), some (zI v2), some (zI v3), some (zI v4)] [] M := by
  refine w_aload_n dX0_add_0 rfl ?_
  refine w_gfI (ci := 0) (k := 4) dX0_add_1 f0_22 ob_448 rfl ?_
  refine w_bipush dX0_add_4 (by decide) ?_
  refine w_icmp_lt (tgt := 13) dX0_add_6 (by decide) (zw_zg _ _ _) zq_40 (fun q => ?_) (fun q => ?_)
  · have h := h.1 q
    exact w_fgt (fgk (fgk (fgk (fgk (fgk (fgn)))))) h
  · have h := h.2 q
    refine w_aload_n dX0_add_9 rfl ?_
    refine w_invVv [] dX0_add_10 l0_26 kX0_dropOldest rfl rfl (Nat.le_of_ble_eq_true rfl) rfl ob_448 h (fun r1 M2 h => ?_)
    exact w_fgt (fgk (fgk (fgk (fgk (fgk (fgn)))))) h
theorem v_X0_add_13 {E : zE} {Q : Int → zM → Prop} {M : zM} (v1 : Int) (v2 : Int) (v3 : Int) (v4 : Int)  (h : (0 ≤ zg M 448 4) ∧ ((zg M 448 4 < 40) ∧ (∀ M3 : zM, M3 = zs M 449 (zg M 448 4).toNat v1 → ((0 ≤ zg M3 448 4) ∧ ((zg M3 448 4 < 40) ∧ (∀ M6 : zM, M6 = zs M3 450 (zg M3 448 4).toNat v2 → ((0 ≤ zg M6 448 4) ∧ ((zg M6 448 4 < 40) ∧ (∀ M9 : zM, M9 = zs M6 451 (zg M6 448 4).toNat v3 → ((0 ≤ zg M9 448 4) ∧ ((zg M9 448 4 < 40) ∧ (∀ M12 : zM, M12 = zs M9 452 (zg M9 448 4).toNat v4 → (∀ M13 : zM, M13 = zs M12 448 4 ((zg M12 448 4) + 1) → (∀ M14 : zM, M14 = zs M13 448 5 (zg M13 448 4) → (Q 0 M14))))))))))))))) : wp E 0 cX0_add (none) Q 13 [some (.ref 448), some (zI v1), some (zI v2), some (zI v3), some (zI v4)] [] M := by
  refine w_aload_n dX0_add_13 rfl ?_
  refine w_gfA (ci := 0) (k := 0) dX0_add_14 f0_9 ob_448 rfl ?_
  refine w_aload_n dX0_add_17 rfl ?_
  refine w_gfI (ci := 0) (k := 4) dX0_add_18 f0_22 ob_448 rfl ?_
  refine w_iload_n dX0_add_21 rfl ?_
  obtain ⟨c1, h⟩ := h
  obtain ⟨c2, h⟩ := h
  have h := h _ rfl
  refine w_iast dX0_add_22 (zw_zg _ _ _) (a0_0 ob_448) c1 c2 ?_
  refine w_aload_n dX0_add_23 rfl ?_
  refine w_gfA (ci := 0) (k := 1) dX0_add_24 f0_13 ob_448 rfl ?_
  refine w_aload_n dX0_add_27 rfl ?_
  refine w_gfI (ci := 0) (k := 4) dX0_add_28 f0_22 ob_448 rfl ?_
  refine w_iload_n dX0_add_31 rfl ?_
  obtain ⟨c4, h⟩ := h
  obtain ⟨c5, h⟩ := h
  have h := h _ rfl
  refine w_iast dX0_add_32 (zw_zg _ _ _) (a0_1 ob_448) c4 c5 ?_
  refine w_aload_n dX0_add_33 rfl ?_
  refine w_gfA (ci := 0) (k := 2) dX0_add_34 f0_16 ob_448 rfl ?_
  refine w_aload_n dX0_add_37 rfl ?_
  refine w_gfI (ci := 0) (k := 4) dX0_add_38 f0_22 ob_448 rfl ?_
  refine w_iload_n dX0_add_41 rfl ?_
  obtain ⟨c7, h⟩ := h
  obtain ⟨c8, h⟩ := h
  have h := h _ rfl
  refine w_iast dX0_add_42 (zw_zg _ _ _) (a0_2 ob_448) c7 c8 ?_
  refine w_aload_n dX0_add_43 rfl ?_
  refine w_gfA (ci := 0) (k := 3) dX0_add_44 f0_19 ob_448 rfl ?_
  refine w_aload_n dX0_add_47 rfl ?_
  refine w_gfI (ci := 0) (k := 4) dX0_add_48 f0_22 ob_448 rfl ?_
  refine w_iload dX0_add_51 rfl ?_
  obtain ⟨c10, h⟩ := h
  obtain ⟨c11, h⟩ := h
  have h := h _ rfl
  refine w_iast dX0_add_53 (zw_zg _ _ _) (a0_3 ob_448) c10 c11 ?_
  refine w_aload_n dX0_add_54 rfl ?_
  refine w_dup dX0_add_55 rfl ?_
  refine w_gfI (ci := 0) (k := 4) dX0_add_56 f0_22 ob_448 rfl ?_
  refine w_iconst dX0_add_59 ?_
  refine w_iadd dX0_add_60 ?_
  have h := h _ rfl
  refine w_pfI (ci := 0) (k := 4) dX0_add_61 f0_22 ob_448 rfl rfl rfl ?_
  refine w_aload_n dX0_add_64 rfl ?_
  refine w_aload_n dX0_add_65 rfl ?_
  refine w_gfI (ci := 0) (k := 4) dX0_add_66 f0_22 ob_448 rfl ?_
  have h := h _ rfl
  refine w_pfI (ci := 0) (k := 5) dX0_add_69 f0_29 ob_448 rfl rfl rfl ?_
  exact w_rv rfl dX0_add_72 h
theorem e_X0_dropOldest {d : Nat} {Q : Int → zM → Prop} {M : zM}  (h : wp (Ev d) 0 cX0_dropOldest (none) Q 0 [some (.ref 448)] [] M) : Ev (d + 1) mX0_dropOldest [.ref 448] M Q := ⟨kX0_dropOldest, Nat.le_of_ble_eq_true rfl, h⟩
theorem v_X0_dropOldest_0 {E : zE} {Q : Int → zM → Prop} {M : zM}   (h : ∀ M1 : zM, M1 = zs M 448 4 39 → ((0 ≤ zg M1 448 4) ∧ ((1 + zg M1 448 4 ≤ 40) ∧ ((0 + zg M1 448 4 ≤ 40) ∧ (∀ M5 : zM, M5 = zci M1 449 449 1 0 (zg M1 448 4).toNat → ((0 ≤ zg M5 448 4) ∧ ((1 + zg M5 448 4 ≤ 40) ∧ ((0 + zg M5 448 4 ≤ 40) ∧ (∀ M9 : zM, M9 = zci M5 450 450 1 0 (zg M5 448 4).toNat → ((0 ≤ zg M9 448 4) ∧ ((1 + zg M9 448 4 ≤ 40) ∧ ((0 + zg M9 448 4 ≤ 40) ∧ (∀ M13 : zM, M13 = zci M9 451 451 1 0 (zg M9 448 4).toNat → ((0 ≤ zg M13 448 4) ∧ ((1 + zg M13 448 4 ≤ 40) ∧ ((0 + zg M13 448 4 ≤ 40) ∧ (∀ M17 : zM, M17 = zci M13 452 452 1 0 (zg M13 448 4).toNat → (Q 0 M17)))))))))))))))))) : wp E 0 cX0_dropOldest (none) Q 0 [some (.ref 448)] [] M := by
  refine w_aload_n dX0_dropOldest_0 rfl ?_
  refine w_bipush dX0_dropOldest_1 (by decide) ?_
  have h := h _ rfl
  refine w_pfI (ci := 0) (k := 4) dX0_dropOldest_3 f0_22 ob_448 rfl rfl rfl ?_
  refine w_aload_n dX0_dropOldest_6 rfl ?_
  refine w_gfA (ci := 0) (k := 0) dX0_dropOldest_7 f0_9 ob_448 rfl ?_
  refine w_iconst dX0_dropOldest_10 ?_
  refine w_aload_n dX0_dropOldest_11 rfl ?_
  refine w_gfA (ci := 0) (k := 0) dX0_dropOldest_12 f0_9 ob_448 rfl ?_
  refine w_iconst dX0_dropOldest_15 ?_
  refine w_aload_n dX0_dropOldest_16 rfl ?_
  refine w_gfI (ci := 0) (k := 4) dX0_dropOldest_17 f0_22 ob_448 rfl ?_
  obtain ⟨c2, h⟩ := h
  obtain ⟨c3, h⟩ := h
  obtain ⟨c4, h⟩ := h
  have h := h _ rfl
  refine w_cpyi dX0_dropOldest_20 (a0_0 ob_448) (a0_0 ob_448) l0_32 zq_1 zq_0 (zw_zg _ _ _) (by decide) (by decide) c2 c3 c4 (Nat.le_of_ble_eq_true rfl) ?_
  refine w_aload_n dX0_dropOldest_23 rfl ?_
  refine w_gfA (ci := 0) (k := 1) dX0_dropOldest_24 f0_13 ob_448 rfl ?_
  refine w_iconst dX0_dropOldest_27 ?_
  refine w_aload_n dX0_dropOldest_28 rfl ?_
  refine w_gfA (ci := 0) (k := 1) dX0_dropOldest_29 f0_13 ob_448 rfl ?_
  refine w_iconst dX0_dropOldest_32 ?_
  refine w_aload_n dX0_dropOldest_33 rfl ?_
  refine w_gfI (ci := 0) (k := 4) dX0_dropOldest_34 f0_22 ob_448 rfl ?_
  obtain ⟨c6, h⟩ := h
  obtain ⟨c7, h⟩ := h
  obtain ⟨c8, h⟩ := h
  have h := h _ rfl
  refine w_cpyi dX0_dropOldest_37 (a0_1 ob_448) (a0_1 ob_448) l0_32 zq_1 zq_0 (zw_zg _ _ _) (by decide) (by decide) c6 c7 c8 (Nat.le_of_ble_eq_true rfl) ?_
  refine w_aload_n dX0_dropOldest_40 rfl ?_
  refine w_gfA (ci := 0) (k := 2) dX0_dropOldest_41 f0_16 ob_448 rfl ?_
  refine w_iconst dX0_dropOldest_44 ?_
  refine w_aload_n dX0_dropOldest_45 rfl ?_
  refine w_gfA (ci := 0) (k := 2) dX0_dropOldest_46 f0_16 ob_448 rfl ?_
  refine w_iconst dX0_dropOldest_49 ?_
  refine w_aload_n dX0_dropOldest_50 rfl ?_
  refine w_gfI (ci := 0) (k := 4) dX0_dropOldest_51 f0_22 ob_448 rfl ?_
  obtain ⟨c10, h⟩ := h
  obtain ⟨c11, h⟩ := h
  obtain ⟨c12, h⟩ := h
  have h := h _ rfl
  refine w_cpyi dX0_dropOldest_54 (a0_2 ob_448) (a0_2 ob_448) l0_32 zq_1 zq_0 (zw_zg _ _ _) (by decide) (by decide) c10 c11 c12 (Nat.le_of_ble_eq_true rfl) ?_
  refine w_aload_n dX0_dropOldest_57 rfl ?_
  refine w_gfA (ci := 0) (k := 3) dX0_dropOldest_58 f0_19 ob_448 rfl ?_
  refine w_iconst dX0_dropOldest_61 ?_
  refine w_aload_n dX0_dropOldest_62 rfl ?_
  refine w_gfA (ci := 0) (k := 3) dX0_dropOldest_63 f0_19 ob_448 rfl ?_
  refine w_iconst dX0_dropOldest_66 ?_
  refine w_aload_n dX0_dropOldest_67 rfl ?_
  refine w_gfI (ci := 0) (k := 4) dX0_dropOldest_68 f0_22 ob_448 rfl ?_
  obtain ⟨c14, h⟩ := h
  obtain ⟨c15, h⟩ := h
  obtain ⟨c16, h⟩ := h
  have h := h _ rfl
  refine w_cpyi dX0_dropOldest_71 (a0_3 ob_448) (a0_3 ob_448) l0_32 zq_1 zq_0 (zw_zg _ _ _) (by decide) (by decide) c14 c15 c16 (Nat.le_of_ble_eq_true rfl) ?_
  exact w_rv rfl dX0_dropOldest_74 h
theorem e_X0_stepBack {d : Nat} {Q : Int → zM → Prop} {M : zM}  (h : wp (Ev d) 0 cX0_stepBack (some .boolean) Q 0 [some (.ref 448)] [] M) : Ev (d + 1) mX0_stepBack [.ref 448] M Q := ⟨kX0_stepBack, Nat.le_of_ble_eq_true rfl, h⟩
theorem v_X0_stepBack_0 {E : zE} {Q : Int → zM → Prop} {M : zM}   (h : (zg M 448 4 < 1 → (Q 0 M)) ∧ (¬ zg M 448 4 < 1 → (∀ M1 : zM, M1 = zs M 448 4 ((zg M 448 4) - 1) → (Q 1 M1)))) : wp E 0 cX0_stepBack (some .boolean) Q 0 [some (.ref 448)] [] M := by
  refine w_aload_n dX0_stepBack_0 rfl ?_
  refine w_gfI (ci := 0) (k := 4) dX0_stepBack_1 f0_22 ob_448 rfl ?_
  refine w_iconst dX0_stepBack_4 ?_
  refine w_icmp_ge (tgt := 10) dX0_stepBack_5 (by decide) (zw_zg _ _ _) zq_1 (fun q => ?_) (fun q => ?_)
  · have h := h.2 q
    refine w_aload_n dX0_stepBack_10 rfl ?_
    refine w_dup dX0_stepBack_11 rfl ?_
    refine w_gfI (ci := 0) (k := 4) dX0_stepBack_12 f0_22 ob_448 rfl ?_
    refine w_iconst dX0_stepBack_15 ?_
    refine w_isub dX0_stepBack_16 ?_
    have h := h _ rfl
    refine w_pfI (ci := 0) (k := 4) dX0_stepBack_17 f0_22 ob_448 rfl rfl rfl ?_
    refine w_iconst dX0_stepBack_20 ?_
    exact w_rz rfl dX0_stepBack_21 zq_1 (by decide) h
  · have h := h.1 q
    refine w_iconst dX0_stepBack_8 ?_
    exact w_rz rfl dX0_stepBack_9 zq_0 (by decide) h
theorem e_X0_hasUndone {d : Nat} {Q : Int → zM → Prop} {M : zM}  (h : wp (Ev d) 0 cX0_hasUndone (some .boolean) Q 0 [some (.ref 448)] [] M) : Ev (d + 1) mX0_hasUndone [.ref 448] M Q := ⟨kX0_hasUndone, Nat.le_of_ble_eq_true rfl, h⟩
theorem v_X0_hasUndone_0 {E : zE} {Q : Int → zM → Prop} {M : zM}   (h : (zg M 448 4 < zg M 448 5 → (Q 1 M)) ∧ (¬ zg M 448 4 < zg M 448 5 → (Q 0 M))) : wp E 0 cX0_hasUndone (some .boolean) Q 0 [some (.ref 448)] [] M := by
  refine w_aload_n dX0_hasUndone_0 rfl ?_
  refine w_gfI (ci := 0) (k := 4) dX0_hasUndone_1 f0_22 ob_448 rfl ?_
  refine w_aload_n dX0_hasUndone_4 rfl ?_
  refine w_gfI (ci := 0) (k := 5) dX0_hasUndone_5 f0_29 ob_448 rfl ?_
  refine w_icmp_ge (tgt := 15) dX0_hasUndone_8 (by decide) (zw_zg _ _ _) (zw_zg _ _ _) (fun q => ?_) (fun q => ?_)
  · have h := h.2 q
    refine w_iconst dX0_hasUndone_15 ?_
    exact w_rz rfl dX0_hasUndone_16 zq_0 (by decide) h
  · have h := h.1 q
    refine w_iconst dX0_hasUndone_11 ?_
    refine w_goto (tgt := 16) dX0_hasUndone_12 (by decide) ?_
    exact w_rz rfl dX0_hasUndone_16 zq_1 (by decide) h
theorem e_X0_stepOn {d : Nat} {Q : Int → zM → Prop} {M : zM}  (h : wp (Ev d) 0 cX0_stepOn (none) Q 0 [some (.ref 448)] [] M) : Ev (d + 1) mX0_stepOn [.ref 448] M Q := ⟨kX0_stepOn, Nat.le_of_ble_eq_true rfl, h⟩
theorem v_X0_stepOn_0 {E : zE} {Q : Int → zM → Prop} {M : zM}   (h : ∀ M1 : zM, M1 = zs M 448 4 ((zg M 448 4) + 1) → (Q 0 M1)) : wp E 0 cX0_stepOn (none) Q 0 [some (.ref 448)] [] M := by
  refine w_aload_n dX0_stepOn_0 rfl ?_
  refine w_dup dX0_stepOn_1 rfl ?_
  refine w_gfI (ci := 0) (k := 4) dX0_stepOn_2 f0_22 ob_448 rfl ?_
  refine w_iconst dX0_stepOn_5 ?_
  refine w_iadd dX0_stepOn_6 ?_
  have h := h _ rfl
  refine w_pfI (ci := 0) (k := 4) dX0_stepOn_7 f0_22 ob_448 rfl rfl rfl ?_
  exact w_rv rfl dX0_stepOn_10 h
theorem e_X1_has {d : Nat} {Q : Int → zM → Prop} {M : zM} (v1 : Int) (h : wp (Ev d) 1 cX1_has (some .boolean) Q 0 [some (.ref 512), some (zI v1)] [] M) : Ev (d + 1) mX1_has [.ref 512, zI v1] M Q := ⟨kX1_has, Nat.le_of_ble_eq_true rfl, h⟩
theorem v_X1_has_0 {E : zE} {Q : Int → zM → Prop} {M : zM} (v1 : Int)  (h : (zw v1 < 0 → (Q 0 M)) ∧ (¬ zw v1 < 0 → ((zw v1 < zg M 512 1 → (Q 1 M)) ∧ (¬ zw v1 < zg M 512 1 → (Q 0 M))))) : wp E 1 cX1_has (some .boolean) Q 0 [some (.ref 512), some (zI v1)] [] M := by
  refine w_iload_n dX1_has_0 rfl ?_
  refine w_if_lt (tgt := 16) dX1_has_1 (by decide) rfl (fun q => ?_) (fun q => ?_)
  · have h := h.1 q
    refine w_iconst dX1_has_16 ?_
    exact w_rz rfl dX1_has_17 zq_0 (by decide) h
  · have h := h.2 q
    refine w_iload_n dX1_has_4 rfl ?_
    refine w_aload_n dX1_has_5 rfl ?_
    refine w_gfI (ci := 1) (k := 1) dX1_has_6 f1_18 ob_512 rfl ?_
    refine w_icmp_ge (tgt := 16) dX1_has_9 (by decide) rfl (zw_zg _ _ _) (fun q => ?_) (fun q => ?_)
    · have h := h.2 q
      refine w_iconst dX1_has_16 ?_
      exact w_rz rfl dX1_has_17 zq_0 (by decide) h
    · have h := h.1 q
      refine w_iconst dX1_has_12 ?_
      refine w_goto (tgt := 17) dX1_has_13 (by decide) ?_
      exact w_rz rfl dX1_has_17 zq_1 (by decide) h
theorem e_X1_add {d : Nat} {Q : Int → zM → Prop} {M : zM} (v1 : Int) (h : wp (Ev d) 1 cX1_add (some .int) Q 0 [some (.ref 512), some (zI v1)] [] M) : Ev (d + 1) mX1_add [.ref 512, zI v1] M Q := ⟨kX1_add, Nat.le_of_ble_eq_true rfl, h⟩
theorem v_X1_add_0 {E : zE} {Q : Int → zM → Prop} {M : zM} (v1 : Int)  (h : (zg M 512 1 < 50 → ((0 ≤ zg M 512 1) ∧ ((zg M 512 1 < 50) ∧ (∀ M3 : zM, M3 = zs M 513 (zg M 512 1).toNat v1 → (∀ M4 : zM, M4 = zs M3 512 1 ((zg M3 512 1) + 1) → (Q (zg M3 512 1) M4)))))) ∧ (¬ zg M 512 1 < 50 → (Q (-3) M))) : wp E 1 cX1_add (some .int) Q 0 [some (.ref 512), some (zI v1)] [] M := by
  refine w_aload_n dX1_add_0 rfl ?_
  refine w_gfI (ci := 1) (k := 1) dX1_add_1 f1_18 ob_512 rfl ?_
  refine w_bipush dX1_add_4 (by decide) ?_
  refine w_icmp_lt (tgt := 12) dX1_add_6 (by decide) (zw_zg _ _ _) zq_50 (fun q => ?_) (fun q => ?_)
  · have h := h.1 q
    refine w_aload_n dX1_add_12 rfl ?_
    refine w_gfA (ci := 1) (k := 0) dX1_add_13 f1_11 ob_512 rfl ?_
    refine w_aload_n dX1_add_16 rfl ?_
    refine w_gfI (ci := 1) (k := 1) dX1_add_17 f1_18 ob_512 rfl ?_
    refine w_iload_n dX1_add_20 rfl ?_
    obtain ⟨c1, h⟩ := h
    obtain ⟨c2, h⟩ := h
    have h := h _ rfl
    refine w_iast dX1_add_21 (zw_zg _ _ _) (a1_0 ob_512) c1 c2 ?_
    refine w_aload_n dX1_add_22 rfl ?_
    refine w_dup dX1_add_23 rfl ?_
    refine w_gfI (ci := 1) (k := 1) dX1_add_24 f1_18 ob_512 rfl ?_
    refine w_dup_x1 dX1_add_27 rfl rfl ?_
    refine w_iconst dX1_add_28 ?_
    refine w_iadd dX1_add_29 ?_
    have h := h _ rfl
    refine w_pfI (ci := 1) (k := 1) dX1_add_30 f1_18 ob_512 rfl rfl rfl ?_
    exact w_ri rfl dX1_add_33 (zw_zg _ _ _) h
  · have h := h.2 q
    refine w_bipush dX1_add_9 (by decide) ?_
    exact w_ri rfl dX1_add_11 zq_m3 h
theorem e_X1_traced {d : Nat} {Q : Int → zM → Prop} {M : zM}  (h : wp (Ev d) 1 cX1_traced (some .int) Q 0 [some (.ref 512)] [] M) : Ev (d + 1) mX1_traced [.ref 512] M Q := ⟨kX1_traced, Nat.le_of_ble_eq_true rfl, h⟩
theorem v_X1_traced_0 {E : zE} {Q : Int → zM → Prop} {M : zM}   (h : Q (zw (if zw 24 < zw (zg M 512 3) then 24 else zg M 512 3)) M) : wp E 1 cX1_traced (some .int) Q 0 [some (.ref 512)] [] M := by
  refine w_aload_n dX1_traced_0 rfl ?_
  refine w_gfI (ci := 1) (k := 3) dX1_traced_1 f1_22 ob_512 rfl ?_
  refine w_bipush dX1_traced_4 (by decide) ?_
  refine w_mmin dX1_traced_6 l1_25 (Nat.le_of_ble_eq_true rfl) ?_
  exact w_ri rfl dX1_traced_9 rfl h
theorem e_X1_isUnder {d : Nat} {Q : Int → zM → Prop} {M : zM} (v0 : Int) (v1 : Int) (h : wp (Ev d) 1 cX1_isUnder (some .boolean) Q 0 [some (zI v0), some (zI v1), none, none] [] M) : Ev (d + 1) mX1_isUnder [zI v0, zI v1] M Q := ⟨kX1_isUnder, Nat.le_of_ble_eq_true rfl, h⟩
theorem v_X1_isUnder_0 {E : zE} {Q : Int → zM → Prop} {M : zM} (v0 : Int) (v1 : Int)  (h : wp E 1 cX1_isUnder (some .boolean) Q 4 [none, some (zI v1), some (zI v0), some (zI 0)] [] M) : wp E 1 cX1_isUnder (some .boolean) Q 0 [some (zI v0), some (zI v1), none, none] [] M := by
  refine w_iload_n dX1_isUnder_0 rfl ?_
  refine w_istore_n dX1_isUnder_1 (Nat.le_of_ble_eq_true rfl) rfl ?_
  refine w_iconst dX1_isUnder_2 ?_
  refine w_istore_n dX1_isUnder_3 (Nat.le_of_ble_eq_true rfl) rfl ?_
  exact w_fgt (fgd (fgk (fgk (fgk (fgn))))) h
theorem v_X1_isUnder_4 {E : zE} {Q : Int → zM → Prop} {M : zM} (v1 : Int) (v2 : Int) (v3 : Int)  (h : (zw v3 < 8 → ((zw v2 < 0 → (Q 0 M)) ∧ (¬ zw v2 < 0 → ((zw v2 < 8 → ((zw v2 = zw v1 → (Q 1 M)) ∧ (¬ zw v2 = zw v1 → ((0 ≤ zw v2) ∧ ((zw v2 < 8) ∧ (wp E 1 cX1_isUnder (some .boolean) Q 4 [none, some (zI v1), some (zI (zsv 1 (zw v2).toNat)), some (zI (v3 + 1))] [] M)))))) ∧ (¬ zw v2 < 8 → (Q 0 M)))))) ∧ (¬ zw v3 < 8 → (Q 0 M))) : wp E 1 cX1_isUnder (some .boolean) Q 4 [none, some (zI v1), some (zI v2), some (zI v3)] [] M := by
  refine w_iload_n dX1_isUnder_4 rfl ?_
  refine w_bipush dX1_isUnder_5 (by decide) ?_
  refine w_icmp_ge (tgt := 39) dX1_isUnder_7 (by decide) rfl zq_8 (fun q => ?_) (fun q => ?_)
  · have h := h.2 q
    refine w_iconst dX1_isUnder_39 ?_
    exact w_rz rfl dX1_isUnder_40 zq_0 (by decide) h
  · have h := h.1 q
    refine w_iload_n dX1_isUnder_10 rfl ?_
    refine w_if_lt (tgt := 39) dX1_isUnder_11 (by decide) rfl (fun q => ?_) (fun q => ?_)
    · have h := h.1 q
      refine w_iconst dX1_isUnder_39 ?_
      exact w_rz rfl dX1_isUnder_40 zq_0 (by decide) h
    · have h := h.2 q
      refine w_iload_n dX1_isUnder_14 rfl ?_
      refine w_bipush dX1_isUnder_15 (by decide) ?_
      refine w_icmp_ge (tgt := 39) dX1_isUnder_17 (by decide) rfl zq_8 (fun q => ?_) (fun q => ?_)
      · have h := h.2 q
        refine w_iconst dX1_isUnder_39 ?_
        exact w_rz rfl dX1_isUnder_40 zq_0 (by decide) h
      · have h := h.1 q
        refine w_iload_n dX1_isUnder_20 rfl ?_
        refine w_iload_n dX1_isUnder_21 rfl ?_
        refine w_icmp_ne (tgt := 27) dX1_isUnder_22 (by decide) rfl rfl (fun q => ?_) (fun q => ?_)
        · have h := h.2 q
          refine w_gs (q := 1) dX1_isUnder_27 f1_31 (by decide) ?_
          refine w_iload_n dX1_isUnder_30 rfl ?_
          obtain ⟨c1, h⟩ := h
          obtain ⟨c2, h⟩ := h
          refine w_stld dX1_isUnder_31 rfl (by decide) c1 c2 ?_
          refine w_istore_n dX1_isUnder_32 (Nat.le_of_ble_eq_true rfl) rfl ?_
          refine w_iinc dX1_isUnder_33 rfl rfl ?_
          refine w_goto (tgt := 4) dX1_isUnder_36 (by decide) ?_
          exact w_fgt (fgd (fgk (fgk (fgk (fgn))))) h
        · have h := h.1 q
          refine w_iconst dX1_isUnder_25 ?_
          exact w_rz rfl dX1_isUnder_26 zq_1 (by decide) h
theorem e_X1_perform {d : Nat} {Q : Int → zM → Prop} {M : zM} (v1 : Int) (v2 : Int) (v3 : Int) (h : wp (Ev d) 1 cX1_perform (some .int) Q 0 [some (.ref 512), some (zI v1), some (zI v2), some (zI v3)] [] M) : Ev (d + 1) mX1_perform [.ref 512, zI v1, zI v2, zI v3] M Q := ⟨kX1_perform, Nat.le_of_ble_eq_true rfl, h⟩
theorem v_X1_perform_0 {E : zE} {Q : Int → zM → Prop} {M : zM} (v1 : Int) (v2 : Int) (v3 : Int)  (h : ∀ M1 : zM, M1 = zs M 512 3 0 → (E mX1_has [.ref 512, zI v1] M1 (fun r2 M3 => (zw r2 = 0 → (Q 0 M3)) ∧ (¬ zw r2 = 0 → ((zw v2 < 0 → (Q 0 M3)) ∧ (¬ zw v2 < 0 → ((zw v2 < 4 → (∀ M4 : zM, M4 = zs M3 512 4 v1 → (E mX1_own [.ref 512, zI v2, zI v3, zI 0] M4 (fun r5 M6 => Q (zw r5) M6)))) ∧ (¬ zw v2 < 4 → (Q 0 M3))))))))) : wp E 1 cX1_perform (some .int) Q 0 [some (.ref 512), some (zI v1), some (zI v2), some (zI v3)] [] M := by
  refine w_aload_n dX1_perform_0 rfl ?_
  refine w_iconst dX1_perform_1 ?_
  have h := h _ rfl
  refine w_pfI (ci := 1) (k := 3) dX1_perform_2 f1_22 ob_512 rfl rfl rfl ?_
  refine w_aload_n dX1_perform_5 rfl ?_
  refine w_iload_n dX1_perform_6 rfl ?_
  refine w_invVi [_] dX1_perform_7 l1_34 kX1_has rfl rfl (Nat.le_of_ble_eq_true rfl) (Or.inr rfl) ob_512 h (fun r2 M3 h => ?_)
  refine w_if_eq (tgt := 22) dX1_perform_10 (by decide) rfl (fun q => ?_) (fun q => ?_)
  · have h := h.1 q
    refine w_iconst dX1_perform_22 ?_
    exact w_ri rfl dX1_perform_23 zq_0 h
  · have h := h.2 q
    refine w_iload_n dX1_perform_13 rfl ?_
    refine w_if_lt (tgt := 22) dX1_perform_14 (by decide) rfl (fun q => ?_) (fun q => ?_)
    · have h := h.1 q
      refine w_iconst dX1_perform_22 ?_
      exact w_ri rfl dX1_perform_23 zq_0 h
    · have h := h.2 q
      refine w_iload_n dX1_perform_17 rfl ?_
      refine w_iconst dX1_perform_18 ?_
      refine w_icmp_lt (tgt := 24) dX1_perform_19 (by decide) rfl zq_4 (fun q => ?_) (fun q => ?_)
      · have h := h.1 q
        refine w_aload_n dX1_perform_24 rfl ?_
        refine w_iload_n dX1_perform_25 rfl ?_
        have h := h _ rfl
        refine w_pfI (ci := 1) (k := 4) dX1_perform_26 f1_38 ob_512 rfl rfl rfl ?_
        refine w_aload_n dX1_perform_29 rfl ?_
        refine w_iload_n dX1_perform_30 rfl ?_
        refine w_iload_n dX1_perform_31 rfl ?_
        refine w_iconst dX1_perform_32 ?_
        refine w_invVi [_, _, _] dX1_perform_33 l1_41 kX1_own rfl rfl (Nat.le_of_ble_eq_true rfl) (Or.inl rfl) ob_512 h (fun r5 M6 h => ?_)
        exact w_ri rfl dX1_perform_36 rfl h
      · have h := h.2 q
        refine w_iconst dX1_perform_22 ?_
        exact w_ri rfl dX1_perform_23 zq_0 h
theorem e_X1_own {d : Nat} {Q : Int → zM → Prop} {M : zM} (v1 : Int) (v2 : Int) (v3 : Int) (h : wp (Ev d) 1 cX1_own (some .int) Q 0 [some (.ref 512), some (zI v1), some (zI v2), some (zI v3)] [] M) : Ev (d + 1) mX1_own [.ref 512, zI v1, zI v2, zI v3] M Q := ⟨kX1_own, Nat.le_of_ble_eq_true rfl, h⟩
theorem v_X1_own_0 {E : zE} {Q : Int → zM → Prop} {M : zM} (v1 : Int) (v2 : Int) (v3 : Int)  (h : (0 ≤ zg M 512 4) ∧ ((zg M 512 4 < 50) ∧ (E mX1_runFrom [.ref 512, zI (zg M 513 (zg M 512 4).toNat), zI v1, zI v2, zI v3] M (fun r3 M4 => Q (zw r3) M4)))) : wp E 1 cX1_own (some .int) Q 0 [some (.ref 512), some (zI v1), some (zI v2), some (zI v3)] [] M := by
  refine w_aload_n dX1_own_0 rfl ?_
  refine w_aload_n dX1_own_1 rfl ?_
  refine w_gfA (ci := 1) (k := 0) dX1_own_2 f1_11 ob_512 rfl ?_
  refine w_aload_n dX1_own_5 rfl ?_
  refine w_gfI (ci := 1) (k := 4) dX1_own_6 f1_38 ob_512 rfl ?_
  obtain ⟨c1, h⟩ := h
  obtain ⟨c2, h⟩ := h
  refine w_iald dX1_own_9 (zw_zg _ _ _) (a1_0 ob_512) c1 c2 ?_
  refine w_iload_n dX1_own_10 rfl ?_
  refine w_iload_n dX1_own_11 rfl ?_
  refine w_iload_n dX1_own_12 rfl ?_
  refine w_invVi [_, _, _, _] dX1_own_13 l1_45 kX1_runFrom rfl rfl (Nat.le_of_ble_eq_true rfl) (Or.inl rfl) ob_512 h (fun r3 M4 h => ?_)
  exact w_ri rfl dX1_own_16 rfl h
theorem e_X1_runFrom {d : Nat} {Q : Int → zM → Prop} {M : zM} (v1 : Int) (v2 : Int) (v3 : Int) (v4 : Int) (h : wp (Ev d) 1 cX1_runFrom (some .int) Q 0 [some (.ref 512), some (zI v1), some (zI v2), some (zI v3), some (zI v4), none, none, none] [] M) : Ev (d + 1) mX1_runFrom [.ref 512, zI v1, zI v2, zI v3, zI v4] M Q := ⟨kX1_runFrom, Nat.le_of_ble_eq_true rfl, h⟩
theorem v_X1_runFrom_0 {E : zE} {Q : Int → zM → Prop} {M : zM} (v1 : Int) (v2 : Int) (v3 : Int) (v4 : Int)  (h : wp E 1 cX1_runFrom (some .int) Q 6 [some (.ref 512), none, some (zI v2), some (zI v3), some (zI v4), some (zI v1), some (zI 0), none] [] M) : wp E 1 cX1_runFrom (some .int) Q 0 [some (.ref 512), some (zI v1), some (zI v2), some (zI v3), some (zI v4), none, none, none] [] M := by
  refine w_iload_n dX1_runFrom_0 rfl ?_
  refine w_istore dX1_runFrom_1 (Nat.le_of_ble_eq_true rfl) rfl ?_
  refine w_iconst dX1_runFrom_3 ?_
  refine w_istore dX1_runFrom_4 (Nat.le_of_ble_eq_true rfl) rfl ?_
  exact w_fgt (fgk (fgd (fgk (fgk (fgk (fgk (fgk (fgd (fgn))))))))) h
theorem v_X1_runFrom_6 {E : zE} {Q : Int → zM → Prop} {M : zM} (v2 : Int) (v3 : Int) (v4 : Int) (v5 : Int) (v6 : Int)  (h : (zw v6 < 8 → ((zw v5 < 0 → (Q 0 M)) ∧ (¬ zw v5 < 0 → ((zw v5 < 8 → ((zw v4 < 40 → ((0 ≤ zw ((v5 * 4) + v2)) ∧ ((zw ((v5 * 4) + v2) < 32) ∧ ((zw (zsv 2 (zw ((v5 * 4) + v2)).toNat) = 0 → ((0 ≤ zw v5) ∧ ((zw v5 < 8) ∧ (wp E 1 cX1_runFrom (some .int) Q 6 [some (.ref 512), none, some (zI v2), some (zI v3), some (zI v4), some (zI (zsv 1 (zw v5).toNat)), some (zI (v6 + 1)), none] [] M)))) ∧ (¬ zw (zsv 2 (zw ((v5 * 4) + v2)).toNat) = 0 → (E mX1_noteBegun [.ref 512, zI (zsv 2 (zw ((v5 * 4) + v2)).toNat)] M (fun r5 M6 => (0 ≤ zw v5) ∧ ((zw v5 < 8) ∧ (E mX1_runBody [.ref 512, zI (zsv 2 (zw ((v5 * 4) + v2)).toNat), zI (zsv 1 (zw v5).toNat), zI v3, zI (v4 + 1)] M6 (fun r9 M10 => Q (zw r9) M10)))))))))) ∧ (¬ zw v4 < 40 → (Q 0 M)))) ∧ (¬ zw v5 < 8 → (Q 0 M)))))) ∧ (¬ zw v6 < 8 → (Q 0 M))) : wp E 1 cX1_runFrom (some .int) Q 6 [some (.ref 512), none, some (zI v2), some (zI v3), some (zI v4), some (zI v5), some (zI v6), none] [] M := by
  refine w_iload dX1_runFrom_6 rfl ?_
  refine w_bipush dX1_runFrom_8 (by decide) ?_
  refine w_icmp_ge (tgt := 87) dX1_runFrom_10 (by decide) rfl zq_8 (fun q => ?_) (fun q => ?_)
  · have h := h.2 q
    refine w_iconst dX1_runFrom_87 ?_
    exact w_ri rfl dX1_runFrom_88 zq_0 h
  · have h := h.1 q
    refine w_iload dX1_runFrom_13 rfl ?_
    refine w_if_lt (tgt := 87) dX1_runFrom_15 (by decide) rfl (fun q => ?_) (fun q => ?_)
    · have h := h.1 q
      refine w_iconst dX1_runFrom_87 ?_
      exact w_ri rfl dX1_runFrom_88 zq_0 h
    · have h := h.2 q
      refine w_iload dX1_runFrom_18 rfl ?_
      refine w_bipush dX1_runFrom_20 (by decide) ?_
      refine w_icmp_ge (tgt := 87) dX1_runFrom_22 (by decide) rfl zq_8 (fun q => ?_) (fun q => ?_)
      · have h := h.2 q
        refine w_iconst dX1_runFrom_87 ?_
        exact w_ri rfl dX1_runFrom_88 zq_0 h
      · have h := h.1 q
        refine w_iload dX1_runFrom_25 rfl ?_
        refine w_bipush dX1_runFrom_27 (by decide) ?_
        refine w_icmp_ge (tgt := 87) dX1_runFrom_29 (by decide) rfl zq_40 (fun q => ?_) (fun q => ?_)
        · have h := h.2 q
          refine w_iconst dX1_runFrom_87 ?_
          exact w_ri rfl dX1_runFrom_88 zq_0 h
        · have h := h.1 q
          refine w_gs (q := 2) dX1_runFrom_32 f1_49 (by decide) ?_
          refine w_iload dX1_runFrom_35 rfl ?_
          refine w_iconst dX1_runFrom_37 ?_
          refine w_imul dX1_runFrom_38 ?_
          refine w_iload_n dX1_runFrom_39 rfl ?_
          refine w_iadd dX1_runFrom_40 ?_
          obtain ⟨c1, h⟩ := h
          obtain ⟨c2, h⟩ := h
          refine w_stld dX1_runFrom_41 rfl (by decide) c1 c2 ?_
          refine w_istore dX1_runFrom_42 (Nat.le_of_ble_eq_true rfl) rfl ?_
          refine w_iload dX1_runFrom_44 rfl ?_
          refine w_if_eq (tgt := 73) dX1_runFrom_46 (by decide) rfl (fun q => ?_) (fun q => ?_)
          · have h := h.1 q
            refine w_gs (q := 1) dX1_runFrom_73 f1_31 (by decide) ?_
            refine w_iload dX1_runFrom_76 rfl ?_
            obtain ⟨c3, h⟩ := h
            obtain ⟨c4, h⟩ := h
            refine w_stld dX1_runFrom_78 rfl (by decide) c3 c4 ?_
            refine w_istore dX1_runFrom_79 (Nat.le_of_ble_eq_true rfl) rfl ?_
            refine w_iinc dX1_runFrom_81 rfl rfl ?_
            refine w_goto (tgt := 6) dX1_runFrom_84 (by decide) ?_
            exact w_fgt (fgk (fgd (fgk (fgk (fgk (fgk (fgk (fgd (fgn))))))))) h
          · have h := h.2 q
            refine w_aload_n dX1_runFrom_49 rfl ?_
            refine w_iload dX1_runFrom_50 rfl ?_
            refine w_invVv [_] dX1_runFrom_52 l1_52 kX1_noteBegun rfl rfl (Nat.le_of_ble_eq_true rfl) rfl ob_512 h (fun r5 M6 h => ?_)
            refine w_aload_n dX1_runFrom_55 rfl ?_
            refine w_iload dX1_runFrom_56 rfl ?_
            refine w_gs (q := 1) dX1_runFrom_58 f1_31 (by decide) ?_
            refine w_iload dX1_runFrom_61 rfl ?_
            obtain ⟨c7, h⟩ := h
            obtain ⟨c8, h⟩ := h
            refine w_stld dX1_runFrom_63 rfl (by decide) c7 c8 ?_
            refine w_iload_n dX1_runFrom_64 rfl ?_
            refine w_iload dX1_runFrom_65 rfl ?_
            refine w_iconst dX1_runFrom_67 ?_
            refine w_iadd dX1_runFrom_68 ?_
            refine w_invVi [_, _, _, _] dX1_runFrom_69 l1_56 kX1_runBody rfl rfl (Nat.le_of_ble_eq_true rfl) (Or.inl rfl) ob_512 h (fun r9 M10 h => ?_)
            exact w_ri rfl dX1_runFrom_72 rfl h
theorem e_X1_noteBegun {d : Nat} {Q : Int → zM → Prop} {M : zM} (v1 : Int) (h : wp (Ev d) 1 cX1_noteBegun (none) Q 0 [some (.ref 512), some (zI v1)] [] M) : Ev (d + 1) mX1_noteBegun [.ref 512, zI v1] M Q := ⟨kX1_noteBegun, Nat.le_of_ble_eq_true rfl, h⟩
theorem v_X1_noteBegun_0 {E : zE} {Q : Int → zM → Prop} {M : zM} (v1 : Int)  (h : (zg M 512 3 < 24 → ((0 ≤ zg M 512 3) ∧ ((zg M 512 3 < 24) ∧ (∀ M4 : zM, M4 = zs M 515 (zg M 512 3).toNat v1 → (∀ M5 : zM, M5 = zs M4 512 3 ((zg M4 512 3) + 1) → (Q 0 M5)))))) ∧ (¬ zg M 512 3 < 24 → (∀ M1 : zM, M1 = zs M 512 3 ((zg M 512 3) + 1) → (Q 0 M1)))) : wp E 1 cX1_noteBegun (none) Q 0 [some (.ref 512), some (zI v1)] [] M := by
  refine w_aload_n dX1_noteBegun_0 rfl ?_
  refine w_gfI (ci := 1) (k := 3) dX1_noteBegun_1 f1_22 ob_512 rfl ?_
  refine w_bipush dX1_noteBegun_4 (by decide) ?_
  refine w_icmp_ge (tgt := 19) dX1_noteBegun_6 (by decide) (zw_zg _ _ _) zq_24 (fun q => ?_) (fun q => ?_)
  · have h := h.2 q
    refine w_aload_n dX1_noteBegun_19 rfl ?_
    refine w_dup dX1_noteBegun_20 rfl ?_
    refine w_gfI (ci := 1) (k := 3) dX1_noteBegun_21 f1_22 ob_512 rfl ?_
    refine w_iconst dX1_noteBegun_24 ?_
    refine w_iadd dX1_noteBegun_25 ?_
    have h := h _ rfl
    refine w_pfI (ci := 1) (k := 3) dX1_noteBegun_26 f1_22 ob_512 rfl rfl rfl ?_
    exact w_rv rfl dX1_noteBegun_29 h
  · have h := h.1 q
    refine w_aload_n dX1_noteBegun_9 rfl ?_
    refine w_gfA (ci := 1) (k := 2) dX1_noteBegun_10 f1_15 ob_512 rfl ?_
    refine w_aload_n dX1_noteBegun_13 rfl ?_
    refine w_gfI (ci := 1) (k := 3) dX1_noteBegun_14 f1_22 ob_512 rfl ?_
    refine w_iload_n dX1_noteBegun_17 rfl ?_
    obtain ⟨c2, h⟩ := h
    obtain ⟨c3, h⟩ := h
    have h := h _ rfl
    refine w_iast dX1_noteBegun_18 (zw_zg _ _ _) (a1_2 ob_512) c2 c3 ?_
    refine w_aload_n dX1_noteBegun_19 rfl ?_
    refine w_dup dX1_noteBegun_20 rfl ?_
    refine w_gfI (ci := 1) (k := 3) dX1_noteBegun_21 f1_22 ob_512 rfl ?_
    refine w_iconst dX1_noteBegun_24 ?_
    refine w_iadd dX1_noteBegun_25 ?_
    have h := h _ rfl
    refine w_pfI (ci := 1) (k := 3) dX1_noteBegun_26 f1_22 ob_512 rfl rfl rfl ?_
    exact w_rv rfl dX1_noteBegun_29 h
theorem e_X1_runBody {d : Nat} {Q : Int → zM → Prop} {M : zM} (v1 : Int) (v2 : Int) (v3 : Int) (v4 : Int) (h : wp (Ev d) 1 cX1_runBody (some .int) Q 0 [some (.ref 512), some (zI v1), some (zI v2), some (zI v3), some (zI v4)] [] M) : Ev (d + 1) mX1_runBody [.ref 512, zI v1, zI v2, zI v3, zI v4] M Q := ⟨kX1_runBody, Nat.le_of_ble_eq_true rfl, h⟩
theorem v_X1_runBody_0 {E : zE} {Q : Int → zM → Prop} {M : zM} (v1 : Int) (v2 : Int) (v3 : Int) (v4 : Int)  (h : (zw v1 = 1 → (Q (zw (v3 + (zg M 512 4))) M)) ∧ (zw v1 = 2 → (E mX1_own [.ref 512, zI 1, zI v3, zI v4] M (fun r1 M2 => E mX1_own [.ref 512, zI 2, zI 1, zI v4] M2 (fun r3 M4 => Q (zw (r1 - r3)) M4)))) ∧ (zw v1 = 10 → (E mX1_own [.ref 512, zI 0, zI v3, zI v4] M (fun r5 M6 => Q (zw (r5 * 2)) M6))) ∧ (zw v1 = 11 → (Q (z_xor v3 (zg M 512 4)) M)) ∧ (zw v1 = 20 → (E mX1_runFrom [.ref 512, zI v2, zI 0, zI v3, zI v4] M (fun r7 M8 => Q (zw (r7 + 3)) M8))) ∧ (zw v1 = 30 → (E mX1_runFrom [.ref 512, zI v2, zI 1, zI v3, zI v4] M (fun r9 M10 => Q (zw (-r9)) M10))) ∧ (zw v1 = 40 → (E mX1_runFrom [.ref 512, zI v2, zI 2, zI v3, zI v4] M (fun r11 M12 => Q (zw (r11 * 3)) M12))) ∧ (zw v1 = 41 → (E mX1_runFrom [.ref 512, zI v2, zI 1, zI (v3 + 1), zI v4] M (fun r13 M14 => Q (zw r13) M14))) ∧ (zw v1 = 50 → (E mX1_runFrom [.ref 512, zI v2, zI 3, zI v3, zI v4] M (fun r15 M16 => Q (z_xor r15 5) M16))) ∧ (zw v1 = 60 → (E mX1_runFrom [.ref 512, zI v2, zI 2, zI v3, zI v4] M (fun r17 M18 => E mX1_own [.ref 512, zI 0, zI 2, zI v4] M18 (fun r19 M20 => Q (zw (r17 - r19)) M20)))) ∧ (zw v1 = 61 → (E mX1_runFrom [.ref 512, zI v2, zI 3, zI v3, zI v4] M (fun r21 M22 => Q (zw (r21 + 1)) M22))) ∧ (zw v1 = 70 → (E mX1_runFrom [.ref 512, zI v2, zI 0, zI v3, zI v4] M (fun r23 M24 => Q (zw (r23 * 2)) M24))) ∧ (zw v1 = 80 → (E mX1_runFrom [.ref 512, zI v2, zI 1, zI v3, zI v4] M (fun r25 M26 => E mX1_own [.ref 512, zI 2, zI 2, zI v4] M26 (fun r27 M28 => Q (zw (r25 + r27)) M28)))) ∧ (zw v1 = 81 → (E mX1_runFrom [.ref 512, zI v2, zI 0, zI v3, zI v4] M (fun r29 M30 => Q (zw (r29 - 1)) M30))) ∧ (¬ zw v1 = 1 → ¬ zw v1 = 2 → ¬ zw v1 = 10 → ¬ zw v1 = 11 → ¬ zw v1 = 20 → ¬ zw v1 = 30 → ¬ zw v1 = 40 → ¬ zw v1 = 41 → ¬ zw v1 = 50 → ¬ zw v1 = 60 → ¬ zw v1 = 61 → ¬ zw v1 = 70 → ¬ zw v1 = 80 → ¬ zw v1 = 81 → (Q 0 M))) : wp E 1 cX1_runBody (some .int) Q 0 [some (.ref 512), some (zI v1), some (zI v2), some (zI v3), some (zI v4)] [] M := by
  refine w_iload_n dX1_runBody_0 rfl ?_
  by_cases q0 : zw v1 = 1
  · refine w_lsw (tgt := 124) dX1_runBody_1 (by decide) (by rw [q0]; decide) ?_
    have h := h.1 q0
    refine w_iload_n dX1_runBody_124 rfl ?_
    refine w_aload_n dX1_runBody_125 rfl ?_
    refine w_gfI (ci := 1) (k := 4) dX1_runBody_126 f1_38 ob_512 rfl ?_
    refine w_iadd dX1_runBody_129 ?_
    exact w_ri rfl dX1_runBody_130 rfl h
  · skip
    by_cases q1 : zw v1 = 2
    · refine w_lsw (tgt := 131) dX1_runBody_1 (by decide) (by rw [q1]; decide) ?_
      have h := h.2.1 q1
      refine w_aload_n dX1_runBody_131 rfl ?_
      refine w_iconst dX1_runBody_132 ?_
      refine w_iload_n dX1_runBody_133 rfl ?_
      refine w_iload dX1_runBody_134 rfl ?_
      refine w_invVi [_, _, _] dX1_runBody_136 l1_41 kX1_own rfl rfl (Nat.le_of_ble_eq_true rfl) (Or.inl rfl) ob_512 h (fun r1 M2 h => ?_)
      refine w_aload_n dX1_runBody_139 rfl ?_
      refine w_iconst dX1_runBody_140 ?_
      refine w_iconst dX1_runBody_141 ?_
      refine w_iload dX1_runBody_142 rfl ?_
      refine w_invVi [_, _, _] dX1_runBody_144 l1_41 kX1_own rfl rfl (Nat.le_of_ble_eq_true rfl) (Or.inl rfl) ob_512 h (fun r3 M4 h => ?_)
      refine w_isub dX1_runBody_147 ?_
      exact w_ri rfl dX1_runBody_148 rfl h
    · skip
      by_cases q2 : zw v1 = 10
      · refine w_lsw (tgt := 149) dX1_runBody_1 (by decide) (by rw [q2]; decide) ?_
        have h := h.2.2.1 q2
        refine w_aload_n dX1_runBody_149 rfl ?_
        refine w_iconst dX1_runBody_150 ?_
        refine w_iload_n dX1_runBody_151 rfl ?_
        refine w_iload dX1_runBody_152 rfl ?_
        refine w_invVi [_, _, _] dX1_runBody_154 l1_41 kX1_own rfl rfl (Nat.le_of_ble_eq_true rfl) (Or.inl rfl) ob_512 h (fun r5 M6 h => ?_)
        refine w_iconst dX1_runBody_157 ?_
        refine w_imul dX1_runBody_158 ?_
        exact w_ri rfl dX1_runBody_159 rfl h
      · skip
        by_cases q3 : zw v1 = 11
        · refine w_lsw (tgt := 160) dX1_runBody_1 (by decide) (by rw [q3]; decide) ?_
          have h := h.2.2.2.1 q3
          refine w_iload_n dX1_runBody_160 rfl ?_
          refine w_aload_n dX1_runBody_161 rfl ?_
          refine w_gfI (ci := 1) (k := 4) dX1_runBody_162 f1_38 ob_512 rfl ?_
          refine w_ixor dX1_runBody_165 ?_
          exact w_ri rfl dX1_runBody_166 (zx_xor _ _) h
        · skip
          by_cases q4 : zw v1 = 20
          · refine w_lsw (tgt := 167) dX1_runBody_1 (by decide) (by rw [q4]; decide) ?_
            have h := h.2.2.2.2.1 q4
            refine w_aload_n dX1_runBody_167 rfl ?_
            refine w_iload_n dX1_runBody_168 rfl ?_
            refine w_iconst dX1_runBody_169 ?_
            refine w_iload_n dX1_runBody_170 rfl ?_
            refine w_iload dX1_runBody_171 rfl ?_
            refine w_invVi [_, _, _, _] dX1_runBody_173 l1_45 kX1_runFrom rfl rfl (Nat.le_of_ble_eq_true rfl) (Or.inl rfl) ob_512 h (fun r7 M8 h => ?_)
            refine w_iconst dX1_runBody_176 ?_
            refine w_iadd dX1_runBody_177 ?_
            exact w_ri rfl dX1_runBody_178 rfl h
          · skip
            by_cases q5 : zw v1 = 30
            · refine w_lsw (tgt := 179) dX1_runBody_1 (by decide) (by rw [q5]; decide) ?_
              have h := h.2.2.2.2.2.1 q5
              refine w_aload_n dX1_runBody_179 rfl ?_
              refine w_iload_n dX1_runBody_180 rfl ?_
              refine w_iconst dX1_runBody_181 ?_
              refine w_iload_n dX1_runBody_182 rfl ?_
              refine w_iload dX1_runBody_183 rfl ?_
              refine w_invVi [_, _, _, _] dX1_runBody_185 l1_45 kX1_runFrom rfl rfl (Nat.le_of_ble_eq_true rfl) (Or.inl rfl) ob_512 h (fun r9 M10 h => ?_)
              refine w_ineg dX1_runBody_188 ?_
              exact w_ri rfl dX1_runBody_189 rfl h
            · skip
              by_cases q6 : zw v1 = 40
              · refine w_lsw (tgt := 190) dX1_runBody_1 (by decide) (by rw [q6]; decide) ?_
                have h := h.2.2.2.2.2.2.1 q6
                refine w_aload_n dX1_runBody_190 rfl ?_
                refine w_iload_n dX1_runBody_191 rfl ?_
                refine w_iconst dX1_runBody_192 ?_
                refine w_iload_n dX1_runBody_193 rfl ?_
                refine w_iload dX1_runBody_194 rfl ?_
                refine w_invVi [_, _, _, _] dX1_runBody_196 l1_45 kX1_runFrom rfl rfl (Nat.le_of_ble_eq_true rfl) (Or.inl rfl) ob_512 h (fun r11 M12 h => ?_)
                refine w_iconst dX1_runBody_199 ?_
                refine w_imul dX1_runBody_200 ?_
                exact w_ri rfl dX1_runBody_201 rfl h
              · skip
                by_cases q7 : zw v1 = 41
                · refine w_lsw (tgt := 202) dX1_runBody_1 (by decide) (by rw [q7]; decide) ?_
                  have h := h.2.2.2.2.2.2.2.1 q7
                  refine w_aload_n dX1_runBody_202 rfl ?_
                  refine w_iload_n dX1_runBody_203 rfl ?_
                  refine w_iconst dX1_runBody_204 ?_
                  refine w_iload_n dX1_runBody_205 rfl ?_
                  refine w_iconst dX1_runBody_206 ?_
                  refine w_iadd dX1_runBody_207 ?_
                  refine w_iload dX1_runBody_208 rfl ?_
                  refine w_invVi [_, _, _, _] dX1_runBody_210 l1_45 kX1_runFrom rfl rfl (Nat.le_of_ble_eq_true rfl) (Or.inl rfl) ob_512 h (fun r13 M14 h => ?_)
                  exact w_ri rfl dX1_runBody_213 rfl h
                · skip
                  by_cases q8 : zw v1 = 50
                  · refine w_lsw (tgt := 214) dX1_runBody_1 (by decide) (by rw [q8]; decide) ?_
                    have h := h.2.2.2.2.2.2.2.2.1 q8
                    refine w_aload_n dX1_runBody_214 rfl ?_
                    refine w_iload_n dX1_runBody_215 rfl ?_
                    refine w_iconst dX1_runBody_216 ?_
                    refine w_iload_n dX1_runBody_217 rfl ?_
                    refine w_iload dX1_runBody_218 rfl ?_
                    refine w_invVi [_, _, _, _] dX1_runBody_220 l1_45 kX1_runFrom rfl rfl (Nat.le_of_ble_eq_true rfl) (Or.inl rfl) ob_512 h (fun r15 M16 h => ?_)
                    refine w_iconst dX1_runBody_223 ?_
                    refine w_ixor dX1_runBody_224 ?_
                    exact w_ri rfl dX1_runBody_225 (zx_xor _ _) h
                  · skip
                    by_cases q9 : zw v1 = 60
                    · refine w_lsw (tgt := 226) dX1_runBody_1 (by decide) (by rw [q9]; decide) ?_
                      have h := h.2.2.2.2.2.2.2.2.2.1 q9
                      refine w_aload_n dX1_runBody_226 rfl ?_
                      refine w_iload_n dX1_runBody_227 rfl ?_
                      refine w_iconst dX1_runBody_228 ?_
                      refine w_iload_n dX1_runBody_229 rfl ?_
                      refine w_iload dX1_runBody_230 rfl ?_
                      refine w_invVi [_, _, _, _] dX1_runBody_232 l1_45 kX1_runFrom rfl rfl (Nat.le_of_ble_eq_true rfl) (Or.inl rfl) ob_512 h (fun r17 M18 h => ?_)
                      refine w_aload_n dX1_runBody_235 rfl ?_
                      refine w_iconst dX1_runBody_236 ?_
                      refine w_iconst dX1_runBody_237 ?_
                      refine w_iload dX1_runBody_238 rfl ?_
                      refine w_invVi [_, _, _] dX1_runBody_240 l1_41 kX1_own rfl rfl (Nat.le_of_ble_eq_true rfl) (Or.inl rfl) ob_512 h (fun r19 M20 h => ?_)
                      refine w_isub dX1_runBody_243 ?_
                      exact w_ri rfl dX1_runBody_244 rfl h
                    · skip
                      by_cases q10 : zw v1 = 61
                      · refine w_lsw (tgt := 245) dX1_runBody_1 (by decide) (by rw [q10]; decide) ?_
                        have h := h.2.2.2.2.2.2.2.2.2.2.1 q10
                        refine w_aload_n dX1_runBody_245 rfl ?_
                        refine w_iload_n dX1_runBody_246 rfl ?_
                        refine w_iconst dX1_runBody_247 ?_
                        refine w_iload_n dX1_runBody_248 rfl ?_
                        refine w_iload dX1_runBody_249 rfl ?_
                        refine w_invVi [_, _, _, _] dX1_runBody_251 l1_45 kX1_runFrom rfl rfl (Nat.le_of_ble_eq_true rfl) (Or.inl rfl) ob_512 h (fun r21 M22 h => ?_)
                        refine w_iconst dX1_runBody_254 ?_
                        refine w_iadd dX1_runBody_255 ?_
                        exact w_ri rfl dX1_runBody_256 rfl h
                      · skip
                        by_cases q11 : zw v1 = 70
                        · refine w_lsw (tgt := 257) dX1_runBody_1 (by decide) (by rw [q11]; decide) ?_
                          have h := h.2.2.2.2.2.2.2.2.2.2.2.1 q11
                          refine w_aload_n dX1_runBody_257 rfl ?_
                          refine w_iload_n dX1_runBody_258 rfl ?_
                          refine w_iconst dX1_runBody_259 ?_
                          refine w_iload_n dX1_runBody_260 rfl ?_
                          refine w_iload dX1_runBody_261 rfl ?_
                          refine w_invVi [_, _, _, _] dX1_runBody_263 l1_45 kX1_runFrom rfl rfl (Nat.le_of_ble_eq_true rfl) (Or.inl rfl) ob_512 h (fun r23 M24 h => ?_)
                          refine w_iconst dX1_runBody_266 ?_
                          refine w_imul dX1_runBody_267 ?_
                          exact w_ri rfl dX1_runBody_268 rfl h
                        · skip
                          by_cases q12 : zw v1 = 80
                          · refine w_lsw (tgt := 269) dX1_runBody_1 (by decide) (by rw [q12]; decide) ?_
                            have h := h.2.2.2.2.2.2.2.2.2.2.2.2.1 q12
                            refine w_aload_n dX1_runBody_269 rfl ?_
                            refine w_iload_n dX1_runBody_270 rfl ?_
                            refine w_iconst dX1_runBody_271 ?_
                            refine w_iload_n dX1_runBody_272 rfl ?_
                            refine w_iload dX1_runBody_273 rfl ?_
                            refine w_invVi [_, _, _, _] dX1_runBody_275 l1_45 kX1_runFrom rfl rfl (Nat.le_of_ble_eq_true rfl) (Or.inl rfl) ob_512 h (fun r25 M26 h => ?_)
                            refine w_aload_n dX1_runBody_278 rfl ?_
                            refine w_iconst dX1_runBody_279 ?_
                            refine w_iconst dX1_runBody_280 ?_
                            refine w_iload dX1_runBody_281 rfl ?_
                            refine w_invVi [_, _, _] dX1_runBody_283 l1_41 kX1_own rfl rfl (Nat.le_of_ble_eq_true rfl) (Or.inl rfl) ob_512 h (fun r27 M28 h => ?_)
                            refine w_iadd dX1_runBody_286 ?_
                            exact w_ri rfl dX1_runBody_287 rfl h
                          · skip
                            by_cases q13 : zw v1 = 81
                            · refine w_lsw (tgt := 288) dX1_runBody_1 (by decide) (by rw [q13]; decide) ?_
                              have h := h.2.2.2.2.2.2.2.2.2.2.2.2.2.1 q13
                              refine w_aload_n dX1_runBody_288 rfl ?_
                              refine w_iload_n dX1_runBody_289 rfl ?_
                              refine w_iconst dX1_runBody_290 ?_
                              refine w_iload_n dX1_runBody_291 rfl ?_
                              refine w_iload dX1_runBody_292 rfl ?_
                              refine w_invVi [_, _, _, _] dX1_runBody_294 l1_45 kX1_runFrom rfl rfl (Nat.le_of_ble_eq_true rfl) (Or.inl rfl) ob_512 h (fun r29 M30 h => ?_)
                              refine w_iconst dX1_runBody_297 ?_
                              refine w_isub dX1_runBody_298 ?_
                              exact w_ri rfl dX1_runBody_299 rfl h
                            · skip
                              have hz : (1 : Int) + Op.lookupswitch.offset [(1, 123), (2, 130), (10, 148), (11, 159), (20, 166), (30, 178), (40, 189), (41, 201), (50, 213), (60, 225), (61, 244), (70, 256), (80, 268), (81, 287)] (299) (zw v1) = (300 : Nat) := by
                                rw [Op.lookupswitch.offset_cons, if_neg (fun z => q0 z.symm), Op.lookupswitch.offset_cons, if_neg (fun z => q1 z.symm), Op.lookupswitch.offset_cons, if_neg (fun z => q2 z.symm), Op.lookupswitch.offset_cons, if_neg (fun z => q3 z.symm), Op.lookupswitch.offset_cons, if_neg (fun z => q4 z.symm), Op.lookupswitch.offset_cons, if_neg (fun z => q5 z.symm), Op.lookupswitch.offset_cons, if_neg (fun z => q6 z.symm), Op.lookupswitch.offset_cons, if_neg (fun z => q7 z.symm), Op.lookupswitch.offset_cons, if_neg (fun z => q8 z.symm), Op.lookupswitch.offset_cons, if_neg (fun z => q9 z.symm), Op.lookupswitch.offset_cons, if_neg (fun z => q10 z.symm), Op.lookupswitch.offset_cons, if_neg (fun z => q11 z.symm), Op.lookupswitch.offset_cons, if_neg (fun z => q12 z.symm), Op.lookupswitch.offset_cons, if_neg (fun z => q13 z.symm), Op.lookupswitch.offset_nil]; rfl
                              refine w_lsw (tgt := 300) dX1_runBody_1 (by decide) hz ?_
                              have h := h.2.2.2.2.2.2.2.2.2.2.2.2.2.2 q0 q1 q2 q3 q4 q5 q6 q7 q8 q9 q10 q11 q12 q13
                              refine w_iconst dX1_runBody_300 ?_
                              exact w_ri rfl dX1_runBody_301 zq_0 h
theorem e_X6_isRow {d : Nat} {Q : Int → zM → Prop} {M : zM} (o : Nat) (h : wp (Ev d) 6 cX6_isRow (some .boolean) Q 0 [some (.ref o)] [] M) : Ev (d + 1) mX6_isRow [.ref o] M Q := ⟨kX6_isRow, Nat.le_of_ble_eq_true rfl, h⟩
theorem v_X6_isRow_0 {E : zE} {Q : Int → zM → Prop} {M : zM} (o : Nat) (h_o : zob o 6) (h : (zg M o 2 = (-1) → (Q 0 M)) ∧ (¬ zg M o 2 = (-1) → (Q 1 M))) : wp E 6 cX6_isRow (some .boolean) Q 0 [some (.ref o)] [] M := by
  refine w_aload_n dX6_isRow_0 rfl ?_
  refine w_gfI (ci := 6) (k := 2) dX6_isRow_1 f6_19 h_o rfl ?_
  refine w_iconst dX6_isRow_4 ?_
  refine w_icmp_eq (tgt := 12) dX6_isRow_5 (by decide) (zw_zg _ _ _) zq_m1 (fun q => ?_) (fun q => ?_)
  · have h := h.1 q
    refine w_iconst dX6_isRow_12 ?_
    exact w_rz rfl dX6_isRow_13 zq_0 (by decide) h
  · have h := h.2 q
    refine w_iconst dX6_isRow_8 ?_
    refine w_goto (tgt := 13) dX6_isRow_9 (by decide) ?_
    exact w_rz rfl dX6_isRow_13 zq_1 (by decide) h
theorem e_X6_isEmpty {d : Nat} {Q : Int → zM → Prop} {M : zM} (o : Nat) (h : wp (Ev d) 6 cX6_isEmpty (some .boolean) Q 0 [some (.ref o)] [] M) : Ev (d + 1) mX6_isEmpty [.ref o] M Q := ⟨kX6_isEmpty, Nat.le_of_ble_eq_true rfl, h⟩
theorem v_X6_isEmpty_0 {E : zE} {Q : Int → zM → Prop} {M : zM} (o : Nat) (h_o : zob o 6) (h : (zg M o 2 = (-1) → ((zg M o 1 = (-1) → (Q 1 M)) ∧ (¬ zg M o 1 = (-1) → (Q 0 M)))) ∧ (¬ zg M o 2 = (-1) → (Q 0 M))) : wp E 6 cX6_isEmpty (some .boolean) Q 0 [some (.ref o)] [] M := by
  refine w_aload_n dX6_isEmpty_0 rfl ?_
  refine w_gfI (ci := 6) (k := 2) dX6_isEmpty_1 f6_19 h_o rfl ?_
  refine w_iconst dX6_isEmpty_4 ?_
  refine w_icmp_ne (tgt := 20) dX6_isEmpty_5 (by decide) (zw_zg _ _ _) zq_m1 (fun q => ?_) (fun q => ?_)
  · have h := h.2 q
    refine w_iconst dX6_isEmpty_20 ?_
    exact w_rz rfl dX6_isEmpty_21 zq_0 (by decide) h
  · have h := h.1 q
    refine w_aload_n dX6_isEmpty_8 rfl ?_
    refine w_gfI (ci := 6) (k := 1) dX6_isEmpty_9 f6_15 h_o rfl ?_
    refine w_iconst dX6_isEmpty_12 ?_
    refine w_icmp_ne (tgt := 20) dX6_isEmpty_13 (by decide) (zw_zg _ _ _) zq_m1 (fun q => ?_) (fun q => ?_)
    · have h := h.2 q
      refine w_iconst dX6_isEmpty_20 ?_
      exact w_rz rfl dX6_isEmpty_21 zq_0 (by decide) h
    · have h := h.1 q
      refine w_iconst dX6_isEmpty_16 ?_
      refine w_goto (tgt := 21) dX6_isEmpty_17 (by decide) ?_
      exact w_rz rfl dX6_isEmpty_21 zq_1 (by decide) h
theorem e_X6_holdBody {d : Nat} {Q : Int → zM → Prop} {M : zM} (o : Nat) (v1 : Int) (h : wp (Ev d) 6 cX6_holdBody (none) Q 0 [some (.ref o), some (zI v1)] [] M) : Ev (d + 1) mX6_holdBody [.ref o, zI v1] M Q := ⟨kX6_holdBody, Nat.le_of_ble_eq_true rfl, h⟩
theorem v_X6_holdBody_0 {E : zE} {Q : Int → zM → Prop} {M : zM} (o : Nat) (v1 : Int) (h_o : zob o 6) (h : ∀ M1 : zM, M1 = zs M o 1 v1 → (∀ M2 : zM, M2 = zs M1 o 2 (-1) → (∀ M3 : zM, M3 = zs M2 o 3 0 → (Q 0 M3)))) : wp E 6 cX6_holdBody (none) Q 0 [some (.ref o), some (zI v1)] [] M := by
  refine w_aload_n dX6_holdBody_0 rfl ?_
  refine w_iload_n dX6_holdBody_1 rfl ?_
  have h := h _ rfl
  refine w_pfI (ci := 6) (k := 1) dX6_holdBody_2 f6_15 h_o rfl rfl rfl ?_
  refine w_aload_n dX6_holdBody_5 rfl ?_
  refine w_iconst dX6_holdBody_6 ?_
  have h := h _ rfl
  refine w_pfI (ci := 6) (k := 2) dX6_holdBody_7 f6_19 h_o rfl rfl rfl ?_
  refine w_aload_n dX6_holdBody_10 rfl ?_
  refine w_iconst dX6_holdBody_11 ?_
  have h := h _ rfl
  refine w_pfI (ci := 6) (k := 3) dX6_holdBody_12 f6_22 h_o rfl rfl rfl ?_
  exact w_rv rfl dX6_holdBody_15 h
theorem e_X6_holdRow {d : Nat} {Q : Int → zM → Prop} {M : zM} (o : Nat) (v1 : Int) (v2 : Int) (h : wp (Ev d) 6 cX6_holdRow (none) Q 0 [some (.ref o), some (zI v1), some (zI v2)] [] M) : Ev (d + 1) mX6_holdRow [.ref o, zI v1, zI v2] M Q := ⟨kX6_holdRow, Nat.le_of_ble_eq_true rfl, h⟩
theorem v_X6_holdRow_0 {E : zE} {Q : Int → zM → Prop} {M : zM} (o : Nat) (v1 : Int) (v2 : Int) (h_o : zob o 6) (h : ∀ M1 : zM, M1 = zs M o 1 (-1) → (∀ M2 : zM, M2 = zs M1 o 2 v1 → (∀ M3 : zM, M3 = zs M2 o 3 v2 → (E mJ7_fill_d0a16 [.ref (o + 1), zJ 0] M3 (fun r4 M5 => Q 0 M5))))) : wp E 6 cX6_holdRow (none) Q 0 [some (.ref o), some (zI v1), some (zI v2)] [] M := by
  refine w_aload_n dX6_holdRow_0 rfl ?_
  refine w_iconst dX6_holdRow_1 ?_
  have h := h _ rfl
  refine w_pfI (ci := 6) (k := 1) dX6_holdRow_2 f6_15 h_o rfl rfl rfl ?_
  refine w_aload_n dX6_holdRow_5 rfl ?_
  refine w_iload_n dX6_holdRow_6 rfl ?_
  have h := h _ rfl
  refine w_pfI (ci := 6) (k := 2) dX6_holdRow_7 f6_19 h_o rfl rfl rfl ?_
  refine w_aload_n dX6_holdRow_10 rfl ?_
  refine w_iload_n dX6_holdRow_11 rfl ?_
  have h := h _ rfl
  refine w_pfI (ci := 6) (k := 3) dX6_holdRow_12 f6_22 h_o rfl rfl rfl ?_
  refine w_aload_n dX6_holdRow_15 rfl ?_
  refine w_gfA (ci := 6) (k := 0) dX6_holdRow_16 f6_11 h_o rfl ?_
  refine w_lconst dX6_holdRow_19 ?_
  refine w_invSv [_, _] dX6_holdRow_20 l6_25 kJ7_fill_d0a16 rfl rfl (Nat.le_of_ble_eq_true rfl) rfl h (fun r4 M5 h => ?_)
  exact w_rv rfl dX6_holdRow_23 h
theorem e_X6_hasPlaces {d : Nat} {Q : Int → zM → Prop} {M : zM} (o : Nat) (v1 : Int) (v2 : Int) (h : wp (Ev d) 6 cX6_hasPlaces (some .boolean) Q 0 [some (.ref o), some (zI v1), some (zI v2)] [] M) : Ev (d + 1) mX6_hasPlaces [.ref o, zI v1, zI v2] M Q := ⟨kX6_hasPlaces, Nat.le_of_ble_eq_true rfl, h⟩
theorem v_X6_hasPlaces_0 {E : zE} {Q : Int → zM → Prop} {M : zM} (o : Nat) (v1 : Int) (v2 : Int) (h_o : zob o 6) (h : (zw v1 < 0 → (Q 0 M)) ∧ (¬ zw v1 < 0 → ((zw v2 < 0 → (Q 0 M)) ∧ (¬ zw v2 < 0 → ((zg M o 3 < zw v1 → (Q 0 M)) ∧ (¬ zg M o 3 < zw v1 → ((zw ((zg M o 3) - v1) < zw v2 → (Q 0 M)) ∧ (¬ zw ((zg M o 3) - v1) < zw v2 → (Q 1 M))))))))) : wp E 6 cX6_hasPlaces (some .boolean) Q 0 [some (.ref o), some (zI v1), some (zI v2)] [] M := by
  refine w_iload_n dX6_hasPlaces_0 rfl ?_
  refine w_if_lt (tgt := 30) dX6_hasPlaces_1 (by decide) rfl (fun q => ?_) (fun q => ?_)
  · have h := h.1 q
    refine w_iconst dX6_hasPlaces_30 ?_
    exact w_rz rfl dX6_hasPlaces_31 zq_0 (by decide) h
  · have h := h.2 q
    refine w_iload_n dX6_hasPlaces_4 rfl ?_
    refine w_if_lt (tgt := 30) dX6_hasPlaces_5 (by decide) rfl (fun q => ?_) (fun q => ?_)
    · have h := h.1 q
      refine w_iconst dX6_hasPlaces_30 ?_
      exact w_rz rfl dX6_hasPlaces_31 zq_0 (by decide) h
    · have h := h.2 q
      refine w_iload_n dX6_hasPlaces_8 rfl ?_
      refine w_aload_n dX6_hasPlaces_9 rfl ?_
      refine w_gfI (ci := 6) (k := 3) dX6_hasPlaces_10 f6_22 h_o rfl ?_
      refine w_icmp_gt (tgt := 30) dX6_hasPlaces_13 (by decide) rfl (zw_zg _ _ _) (fun q => ?_) (fun q => ?_)
      · have h := h.1 q
        refine w_iconst dX6_hasPlaces_30 ?_
        exact w_rz rfl dX6_hasPlaces_31 zq_0 (by decide) h
      · have h := h.2 q
        refine w_iload_n dX6_hasPlaces_16 rfl ?_
        refine w_aload_n dX6_hasPlaces_17 rfl ?_
        refine w_gfI (ci := 6) (k := 3) dX6_hasPlaces_18 f6_22 h_o rfl ?_
        refine w_iload_n dX6_hasPlaces_21 rfl ?_
        refine w_isub dX6_hasPlaces_22 ?_
        refine w_icmp_gt (tgt := 30) dX6_hasPlaces_23 (by decide) rfl rfl (fun q => ?_) (fun q => ?_)
        · have h := h.1 q
          refine w_iconst dX6_hasPlaces_30 ?_
          exact w_rz rfl dX6_hasPlaces_31 zq_0 (by decide) h
        · have h := h.2 q
          refine w_iconst dX6_hasPlaces_26 ?_
          refine w_goto (tgt := 31) dX6_hasPlaces_27 (by decide) ?_
          exact w_rz rfl dX6_hasPlaces_31 zq_1 (by decide) h
theorem e_X6_setElement {d : Nat} {Q : Int → zM → Prop} {M : zM} (o : Nat) (v1 : Int) (v2 : Int) (h : wp (Ev d) 6 cX6_setElement (none) Q 0 [some (.ref o), some (zI v1), some (zJ v2), none] [] M) : Ev (d + 1) mX6_setElement [.ref o, zI v1, zJ v2] M Q := ⟨kX6_setElement, Nat.le_of_ble_eq_true rfl, h⟩
theorem v_X6_setElement_0 {E : zE} {Q : Int → zM → Prop} {M : zM} (o : Nat) (v1 : Int) (v2 : Int) (h_o : zob o 6) (h : E mX6_hasPlaces [.ref o, zI v1, zI 1] M (fun r1 M2 => (zw r1 = 0 → (Q 0 M2)) ∧ (¬ zw r1 = 0 → (E mX6_lowestBits [.ref o, zJ v2] M2 (fun r3 M4 => (0 ≤ zw v1) ∧ ((zw v1 < 60) ∧ (∀ M7 : zM, M7 = zt M4 (o + 1) (zw v1).toNat r3 → (Q 0 M7)))))))) : wp E 6 cX6_setElement (none) Q 0 [some (.ref o), some (zI v1), some (zJ v2), none] [] M := by
  refine w_aload_n dX6_setElement_0 rfl ?_
  refine w_iload_n dX6_setElement_1 rfl ?_
  refine w_iconst dX6_setElement_2 ?_
  refine w_invVi [_, _] dX6_setElement_3 l6_31 kX6_hasPlaces rfl rfl (Nat.le_of_ble_eq_true rfl) (Or.inr rfl) h_o h (fun r1 M2 h => ?_)
  refine w_if_eq (tgt := 20) dX6_setElement_6 (by decide) rfl (fun q => ?_) (fun q => ?_)
  · have h := h.1 q
    exact w_rv rfl dX6_setElement_20 h
  · have h := h.2 q
    refine w_aload_n dX6_setElement_9 rfl ?_
    refine w_gfA (ci := 6) (k := 0) dX6_setElement_10 f6_11 h_o rfl ?_
    refine w_iload_n dX6_setElement_13 rfl ?_
    refine w_aload_n dX6_setElement_14 rfl ?_
    refine w_lload_n dX6_setElement_15 rfl ?_
    refine w_invVl [_] dX6_setElement_16 l6_35 kX6_lowestBits rfl rfl (Nat.le_of_ble_eq_true rfl) rfl h_o h (fun r3 M4 h => ?_)
    obtain ⟨c5, h⟩ := h
    obtain ⟨c6, h⟩ := h
    have h := h _ rfl
    refine w_last dX6_setElement_19 rfl (a6_0 h_o) c5 c6 ?_
    exact w_rv rfl dX6_setElement_20 h
theorem e_X6_lowestBits {d : Nat} {Q : Int → zM → Prop} {M : zM} (o : Nat) (v1 : Int) (h : wp (Ev d) 6 cX6_lowestBits (some .long) Q 0 [some (.ref o), some (zJ v1), none] [] M) : Ev (d + 1) mX6_lowestBits [.ref o, zJ v1] M Q := ⟨kX6_lowestBits, Nat.le_of_ble_eq_true rfl, h⟩
theorem v_X6_lowestBits_0 {E : zE} {Q : Int → zM → Prop} {M : zM} (o : Nat) (v1 : Int) (h_o : zob o 6) (h : (zw (zg M o 2) = 0 → (Q (zv (zw (z_b (zv v1)))) M)) ∧ (zw (zg M o 2) = 1 → (Q (zv (zw (z_s (zv v1)))) M)) ∧ (zw (zg M o 2) = 2 → (Q (zv (zw (zv v1))) M)) ∧ (zw (zg M o 2) = 4 → ((zw (z_lc v1 0) = 0 → (Q 0 M)) ∧ (¬ zw (z_lc v1 0) = 0 → (Q 1 M)))) ∧ (¬ zw (zg M o 2) = 0 → ¬ zw (zg M o 2) = 1 → ¬ zw (zg M o 2) = 2 → ¬ zw (zg M o 2) = 4 → (Q (zv v1) M))) : wp E 6 cX6_lowestBits (some .long) Q 0 [some (.ref o), some (zJ v1), none] [] M := by
  refine w_aload_n dX6_lowestBits_0 rfl ?_
  refine w_gfI (ci := 6) (k := 2) dX6_lowestBits_1 f6_19 h_o rfl ?_
  by_cases q0 : zw (zg M o 2) = 0
  · refine w_tsw (tgt := 40) dX6_lowestBits_4 (by rw [q0]; decide) (by rw [q0]; decide) ?_
    have h := h.1 q0
    refine w_lload_n dX6_lowestBits_40 rfl ?_
    refine w_l2i dX6_lowestBits_41 ?_
    refine w_i2b dX6_lowestBits_42 ?_
    refine w_i2l dX6_lowestBits_43 ?_
    exact w_rl rfl dX6_lowestBits_44 rfl h
  · skip
    by_cases q1 : zw (zg M o 2) = 1
    · refine w_tsw (tgt := 45) dX6_lowestBits_4 (by rw [q1]; decide) (by rw [q1]; decide) ?_
      have h := h.2.1 q1
      refine w_lload_n dX6_lowestBits_45 rfl ?_
      refine w_l2i dX6_lowestBits_46 ?_
      refine w_i2s dX6_lowestBits_47 ?_
      refine w_i2l dX6_lowestBits_48 ?_
      exact w_rl rfl dX6_lowestBits_49 rfl h
    · skip
      by_cases q2 : zw (zg M o 2) = 2
      · refine w_tsw (tgt := 50) dX6_lowestBits_4 (by rw [q2]; decide) (by rw [q2]; decide) ?_
        have h := h.2.2.1 q2
        refine w_lload_n dX6_lowestBits_50 rfl ?_
        refine w_l2i dX6_lowestBits_51 ?_
        refine w_i2l dX6_lowestBits_52 ?_
        exact w_rl rfl dX6_lowestBits_53 rfl h
      · skip
        by_cases q3 : zw (zg M o 2) = 4
        · refine w_tsw (tgt := 54) dX6_lowestBits_4 (by rw [q3]; decide) (by rw [q3]; decide) ?_
          have h := h.2.2.2.1 q3
          refine w_lload_n dX6_lowestBits_54 rfl ?_
          refine w_lconst dX6_lowestBits_55 ?_
          refine w_lcmp dX6_lowestBits_56 ?_
          refine w_if_eq (tgt := 64) dX6_lowestBits_57 (by decide) rfl (fun q => ?_) (fun q => ?_)
          · have h := h.1 q
            refine w_lconst dX6_lowestBits_64 ?_
            exact w_rl rfl dX6_lowestBits_65 zqv_0 h
          · have h := h.2 q
            refine w_lconst dX6_lowestBits_60 ?_
            refine w_goto (tgt := 65) dX6_lowestBits_61 (by decide) ?_
            exact w_rl rfl dX6_lowestBits_65 zqv_1 h
        · skip
          have hz : (4 : Int) + zts (62) 0 4 #[36, 41, 46, 62, 50] (zw (zg M o 2)) = (66 : Nat) := by
            rcases (show zw (zg M o 2) < 0 ∨ 4 < zw (zg M o 2) ∨ zw (zg M o 2) = 3 by omega) with z | z | z <;> first | (rw [zts, if_pos (Or.inl z)]; rfl) | (rw [zts, if_pos (Or.inr z)]; rfl) | (rw [z]; decide)
          have hn : ¬ (zw (zg M o 2) < 0 ∨ 4 < zw (zg M o 2)) → ((zw (zg M o 2) - 0).toNat) < (#[36, 41, 46, 62, 50] : Array Int).size := by
            intro z
            show _ < 5
            omega
          refine w_tsw (tgt := 66) dX6_lowestBits_4 hz hn ?_
          have h := h.2.2.2.2 q0 q1 q2 q3
          refine w_lload_n dX6_lowestBits_66 rfl ?_
          exact w_rl rfl dX6_lowestBits_67 rfl h
