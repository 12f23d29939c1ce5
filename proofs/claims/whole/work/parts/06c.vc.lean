theorem e_X3_begin {d : Nat} {Q : Int → zM → Prop} {M : zM}  (h : wp (Ev d) 3 cX3_begin (none) Q 0 [some (.ref 320)] [] M) : Ev (d + 1) mX3_begin [.ref 320] M Q := ⟨kX3_begin, Nat.le_of_ble_eq_true rfl, h⟩
theorem v_X3_begin_0 {E : zE} {Q : Int → zM → Prop} {M : zM}   (h : E mX4_copyAllButNames [.ref 256, .ref 192] M (fun r1 M2 => E mX3_forgetNames [.ref 320] M2 (fun r3 M4 => Q 0 M4))) : wp E 3 cX3_begin (none) Q 0 [some (.ref 320)] [] M := by
  refine w_aload_n dX3_begin_0 rfl ?_
  refine w_gfO (ci := 3) (k := 1) (q := 256) dX3_begin_1 f3_19 ob_320 rfl rfl ?_
  refine w_aload_n dX3_begin_4 rfl ?_
  refine w_gfO (ci := 3) (k := 0) (q := 192) dX3_begin_5 f3_15 ob_320 rfl rfl ?_
  refine w_invVv [_] dX3_begin_8 l3_22 kX4_copyAllButNames rfl rfl (Nat.le_of_ble_eq_true rfl) rfl ob_256 h (fun r1 M2 h => ?_)
  refine w_aload_n dX3_begin_11 rfl ?_
  refine w_invVv [] dX3_begin_12 l3_28 kX3_forgetNames rfl rfl (Nat.le_of_ble_eq_true rfl) rfl ob_320 h (fun r3 M4 h => ?_)
  exact w_rv rfl dX3_begin_15 h
theorem e_X3_forgetNames {d : Nat} {Q : Int → zM → Prop} {M : zM}  (h : wp (Ev d) 3 cX3_forgetNames (none) Q 0 [some (.ref 320)] [] M) : Ev (d + 1) mX3_forgetNames [.ref 320] M Q := ⟨kX3_forgetNames, Nat.le_of_ble_eq_true rfl, h⟩
theorem v_X3_forgetNames_0 {E : zE} {Q : Int → zM → Prop} {M : zM}   (h : E mJ7_fill_53178 [.ref 260, zI (-1)] M (fun r1 M2 => E mJ7_fill_53178 [.ref 323, zI (-1)] M2 (fun r3 M4 => ∀ M5 : zM, M5 = zs M4 320 3 0 → (Q 0 M5)))) : wp E 3 cX3_forgetNames (none) Q 0 [some (.ref 320)] [] M := by
  refine w_aload_n dX3_forgetNames_0 rfl ?_
  refine w_gfO (ci := 3) (k := 1) (q := 256) dX3_forgetNames_1 f3_19 ob_320 rfl rfl ?_
  refine w_gfA (ci := 4) (k := 3) dX3_forgetNames_4 f3_31 ob_256 rfl ?_
  refine w_iconst dX3_forgetNames_7 ?_
  refine w_invSv [_, _] dX3_forgetNames_8 l3_34 kJ7_fill_53178 rfl rfl (Nat.le_of_ble_eq_true rfl) rfl h (fun r1 M2 h => ?_)
  refine w_aload_n dX3_forgetNames_11 rfl ?_
  refine w_gfA (ci := 3) (k := 2) dX3_forgetNames_12 f3_9 ob_320 rfl ?_
  refine w_iconst dX3_forgetNames_15 ?_
  refine w_invSv [_, _] dX3_forgetNames_16 l3_34 kJ7_fill_53178 rfl rfl (Nat.le_of_ble_eq_true rfl) rfl h (fun r3 M4 h => ?_)
  refine w_aload_n dX3_forgetNames_19 rfl ?_
  refine w_iconst dX3_forgetNames_20 ?_
  have h := h _ rfl
  refine w_pfI (ci := 3) (k := 3) dX3_forgetNames_21 f3_40 ob_320 rfl rfl rfl ?_
  exact w_rv rfl dX3_forgetNames_24 h
theorem e_X3_noteHeldAheadOf {d : Nat} {Q : Int → zM → Prop} {M : zM} (v1 : Int) (h : wp (Ev d) 3 cX3_noteHeldAheadOf (none) Q 0 [some (.ref 320), some (zI v1), none, none, none] [] M) : Ev (d + 1) mX3_noteHeldAheadOf [.ref 320, zI v1] M Q := ⟨kX3_noteHeldAheadOf, Nat.le_of_ble_eq_true rfl, h⟩
theorem v_X3_noteHeldAheadOf_0 {E : zE} {Q : Int → zM → Prop} {M : zM} (v1 : Int)  (h : wp E 3 cX3_noteHeldAheadOf (none) Q 5 [some (.ref 320), some (zI v1), some (zI (zg M 320 3)), none, none] [] M) : wp E 3 cX3_noteHeldAheadOf (none) Q 0 [some (.ref 320), some (zI v1), none, none, none] [] M := by
  refine w_aload_n dX3_noteHeldAheadOf_0 rfl ?_
  refine w_gfI (ci := 3) (k := 3) dX3_noteHeldAheadOf_1 f3_40 ob_320 rfl ?_
  refine w_istore_n dX3_noteHeldAheadOf_4 (Nat.le_of_ble_eq_true rfl) rfl ?_
  exact w_fgt (fgk (fgk (fgk (fgd (fgd (fgn)))))) h
theorem v_X3_noteHeldAheadOf_5 {E : zE} {Q : Int → zM → Prop} {M : zM} (v1 : Int) (v2 : Int)  (h : (zw v2 < zw v1 → (E mX4_heldIn [.ref 256, zI v2] M (fun r2 M3 => wp E 3 cX3_noteHeldAheadOf (none) Q 22 [some (.ref 320), some (zI v1), some (zI v2), some (zI r2), some (zI 0)] [] M3))) ∧ (¬ zw v2 < zw v1 → (∀ M1 : zM, M1 = zs M 320 3 (if zw (zg M 320 3) < zw v1 then v1 else zg M 320 3) → (Q 0 M1)))) : wp E 3 cX3_noteHeldAheadOf (none) Q 5 [some (.ref 320), some (zI v1), some (zI v2), none, none] [] M := by
  refine w_iload_n dX3_noteHeldAheadOf_5 rfl ?_
  refine w_iload_n dX3_noteHeldAheadOf_6 rfl ?_
  refine w_icmp_ge (tgt := 69) dX3_noteHeldAheadOf_7 (by decide) rfl rfl (fun q => ?_) (fun q => ?_)
  · have h := h.2 q
    refine w_aload_n dX3_noteHeldAheadOf_69 rfl ?_
    refine w_aload_n dX3_noteHeldAheadOf_70 rfl ?_
    refine w_gfI (ci := 3) (k := 3) dX3_noteHeldAheadOf_71 f3_40 ob_320 rfl ?_
    refine w_iload_n dX3_noteHeldAheadOf_74 rfl ?_
    refine w_mmax dX3_noteHeldAheadOf_75 l3_48 (Nat.le_of_ble_eq_true rfl) ?_
    have h := h _ rfl
    refine w_pfI (ci := 3) (k := 3) dX3_noteHeldAheadOf_78 f3_40 ob_320 rfl rfl rfl ?_
    exact w_rv rfl dX3_noteHeldAheadOf_81 h
  · have h := h.1 q
    refine w_aload_n dX3_noteHeldAheadOf_10 rfl ?_
    refine w_gfO (ci := 3) (k := 1) (q := 256) dX3_noteHeldAheadOf_11 f3_19 ob_320 rfl rfl ?_
    refine w_iload_n dX3_noteHeldAheadOf_14 rfl ?_
    refine w_invVi [_] dX3_noteHeldAheadOf_15 l3_44 kX4_heldIn rfl rfl (Nat.le_of_ble_eq_true rfl) (Or.inl rfl) ob_256 h (fun r2 M3 h => ?_)
    refine w_istore_n dX3_noteHeldAheadOf_18 (Nat.le_of_ble_eq_true rfl) rfl ?_
    refine w_iconst dX3_noteHeldAheadOf_19 ?_
    refine w_istore dX3_noteHeldAheadOf_20 (Nat.le_of_ble_eq_true rfl) rfl ?_
    exact w_fgt (fgk (fgk (fgk (fgk (fgk (fgn)))))) h
theorem v_X3_noteHeldAheadOf_22 {E : zE} {Q : Int → zM → Prop} {M : zM} (v1 : Int) (v2 : Int) (v3 : Int) (v4 : Int)  (h : (zw v4 < 12 → ((z_and (z_shr v3 v4) 1 = 1 → ((0 ≤ zw v4) ∧ ((zw v4 < 12) ∧ (∀ M8 : zM, M8 = zs M 323 (zw v4).toNat v2 → (wp E 3 cX3_noteHeldAheadOf (none) Q 22 [some (.ref 320), some (zI v1), some (zI v2), some (zI v3), some (zI (v4 + 1))] [] M8))))) ∧ (¬ z_and (z_shr v3 v4) 1 = 1 → ((0 ≤ zw v4) ∧ ((zw v4 < 12) ∧ ((0 ≤ zw v4) ∧ ((zw v4 < 12) ∧ (∀ M5 : zM, M5 = zs M 323 (zw v4).toNat (zg M 323 (zw v4).toNat) → (wp E 3 cX3_noteHeldAheadOf (none) Q 22 [some (.ref 320), some (zI v1), some (zI v2), some (zI v3), some (zI (v4 + 1))] [] M5))))))))) ∧ (¬ zw v4 < 12 → (wp E 3 cX3_noteHeldAheadOf (none) Q 5 [some (.ref 320), some (zI v1), some (zI (v2 + 1)), none, none] [] M))) : wp E 3 cX3_noteHeldAheadOf (none) Q 22 [some (.ref 320), some (zI v1), some (zI v2), some (zI v3), some (zI v4)] [] M := by
  refine w_iload dX3_noteHeldAheadOf_22 rfl ?_
  refine w_bipush dX3_noteHeldAheadOf_24 (by decide) ?_
  refine w_icmp_ge (tgt := 63) dX3_noteHeldAheadOf_26 (by decide) rfl zq_12 (fun q => ?_) (fun q => ?_)
  · have h := h.2 q
    refine w_iinc dX3_noteHeldAheadOf_63 rfl rfl ?_
    refine w_goto (tgt := 5) dX3_noteHeldAheadOf_66 (by decide) ?_
    exact w_fgt (fgk (fgk (fgk (fgd (fgd (fgn)))))) h
  · have h := h.1 q
    refine w_aload_n dX3_noteHeldAheadOf_29 rfl ?_
    refine w_gfA (ci := 3) (k := 2) dX3_noteHeldAheadOf_30 f3_9 ob_320 rfl ?_
    refine w_iload dX3_noteHeldAheadOf_33 rfl ?_
    refine w_iload_n dX3_noteHeldAheadOf_35 rfl ?_
    refine w_iload dX3_noteHeldAheadOf_36 rfl ?_
    refine w_ishr dX3_noteHeldAheadOf_38 ?_
    refine w_iconst dX3_noteHeldAheadOf_39 ?_
    refine w_iand dX3_noteHeldAheadOf_40 ?_
    refine w_iconst dX3_noteHeldAheadOf_41 ?_
    refine w_icmp_ne (tgt := 49) dX3_noteHeldAheadOf_42 (by decide) (zx_and _ _) zq_1 (fun q => ?_) (fun q => ?_)
    · have h := h.2 q
      refine w_aload_n dX3_noteHeldAheadOf_49 rfl ?_
      refine w_gfA (ci := 3) (k := 2) dX3_noteHeldAheadOf_50 f3_9 ob_320 rfl ?_
      refine w_iload dX3_noteHeldAheadOf_53 rfl ?_
      obtain ⟨c1, h⟩ := h
      obtain ⟨c2, h⟩ := h
      refine w_iald dX3_noteHeldAheadOf_55 rfl (a3_2 ob_320) c1 c2 ?_
      obtain ⟨c3, h⟩ := h
      obtain ⟨c4, h⟩ := h
      have h := h _ rfl
      refine w_iast dX3_noteHeldAheadOf_56 rfl (a3_2 ob_320) c3 c4 ?_
      refine w_iinc dX3_noteHeldAheadOf_57 rfl rfl ?_
      refine w_goto (tgt := 22) dX3_noteHeldAheadOf_60 (by decide) ?_
      exact w_fgt (fgk (fgk (fgk (fgk (fgk (fgn)))))) h
    · have h := h.1 q
      refine w_iload_n dX3_noteHeldAheadOf_45 rfl ?_
      refine w_goto (tgt := 56) dX3_noteHeldAheadOf_46 (by decide) ?_
      obtain ⟨c6, h⟩ := h
      obtain ⟨c7, h⟩ := h
      have h := h _ rfl
      refine w_iast dX3_noteHeldAheadOf_56 rfl (a3_2 ob_320) c6 c7 ?_
      refine w_iinc dX3_noteHeldAheadOf_57 rfl rfl ?_
      refine w_goto (tgt := 22) dX3_noteHeldAheadOf_60 (by decide) ?_
      exact w_fgt (fgk (fgk (fgk (fgk (fgk (fgn)))))) h
theorem e_X3_isBetter {d : Nat} {Q : Int → zM → Prop} {M : zM} (v1 : Int) (v2 : Int) (v3 : Int) (h : wp (Ev d) 3 cX3_isBetter (some .boolean) Q 0 [some (.ref 320), some (zI v1), some (zI v2), some (zI v3)] [] M) : Ev (d + 1) mX3_isBetter [.ref 320, zI v1, zI v2, zI v3] M Q := ⟨kX3_isBetter, Nat.le_of_ble_eq_true rfl, h⟩
theorem v_X3_isBetter_0 {E : zE} {Q : Int → zM → Prop} {M : zM} (v1 : Int) (v2 : Int) (v3 : Int)  (h : (zw v2 = (-2) → (Q 1 M)) ∧ (¬ zw v2 = (-2) → ((zw v3 = 1 → ((0 ≤ zw v1) ∧ ((zw v1 < 12) ∧ ((0 ≤ zw v2) ∧ ((zw v2 < 12) ∧ ((zg M 323 (zw v2).toNat < zg M 323 (zw v1).toNat → (Q 1 M)) ∧ (¬ zg M 323 (zw v2).toNat < zg M 323 (zw v1).toNat → (Q 0 M)))))))) ∧ (¬ zw v3 = 1 → ((zw v3 = 2 → ((0 ≤ zw v1) ∧ ((zw v1 < 12) ∧ ((0 ≤ zw v2) ∧ ((zw v2 < 12) ∧ ((zg M 269 (zw v2).toNat < zg M 269 (zw v1).toNat → (Q 1 M)) ∧ (¬ zg M 269 (zw v2).toNat < zg M 269 (zw v1).toNat → (Q 0 M)))))))) ∧ (¬ zw v3 = 2 → (Q 0 M))))))) : wp E 3 cX3_isBetter (some .boolean) Q 0 [some (.ref 320), some (zI v1), some (zI v2), some (zI v3)] [] M := by
  refine w_iload_n dX3_isBetter_0 rfl ?_
  refine w_bipush dX3_isBetter_1 (by decide) ?_
  refine w_icmp_ne (tgt := 8) dX3_isBetter_3 (by decide) rfl zq_m2 (fun q => ?_) (fun q => ?_)
  · have h := h.2 q
    refine w_iload_n dX3_isBetter_8 rfl ?_
    refine w_iconst dX3_isBetter_9 ?_
    refine w_icmp_ne (tgt := 34) dX3_isBetter_10 (by decide) rfl zq_1 (fun q => ?_) (fun q => ?_)
    · have h := h.2 q
      refine w_iload_n dX3_isBetter_34 rfl ?_
      refine w_iconst dX3_isBetter_35 ?_
      refine w_icmp_ne (tgt := 64) dX3_isBetter_36 (by decide) rfl zq_2 (fun q => ?_) (fun q => ?_)
      · have h := h.2 q
        refine w_iconst dX3_isBetter_64 ?_
        exact w_rz rfl dX3_isBetter_65 zq_0 (by decide) h
      · have h := h.1 q
        refine w_aload_n dX3_isBetter_39 rfl ?_
        refine w_gfO (ci := 3) (k := 1) (q := 256) dX3_isBetter_40 f3_19 ob_320 rfl rfl ?_
        refine w_gfA (ci := 4) (k := 12) dX3_isBetter_43 f3_54 ob_256 rfl ?_
        refine w_iload_n dX3_isBetter_46 rfl ?_
        obtain ⟨c1, h⟩ := h
        obtain ⟨c2, h⟩ := h
        refine w_iald dX3_isBetter_47 rfl (a4_12 ob_256) c1 c2 ?_
        refine w_aload_n dX3_isBetter_48 rfl ?_
        refine w_gfO (ci := 3) (k := 1) (q := 256) dX3_isBetter_49 f3_19 ob_320 rfl rfl ?_
        refine w_gfA (ci := 4) (k := 12) dX3_isBetter_52 f3_54 ob_256 rfl ?_
        refine w_iload_n dX3_isBetter_55 rfl ?_
        obtain ⟨c3, h⟩ := h
        obtain ⟨c4, h⟩ := h
        refine w_iald dX3_isBetter_56 rfl (a4_12 ob_256) c3 c4 ?_
        refine w_icmp_le (tgt := 64) dX3_isBetter_57 (by decide) (zw_zg _ _ _) (zw_zg _ _ _) (fun q => ?_) (fun q => ?_)
        · have h := h.2 q
          refine w_iconst dX3_isBetter_64 ?_
          exact w_rz rfl dX3_isBetter_65 zq_0 (by decide) h
        · have h := h.1 q
          refine w_iconst dX3_isBetter_60 ?_
          refine w_goto (tgt := 65) dX3_isBetter_61 (by decide) ?_
          exact w_rz rfl dX3_isBetter_65 zq_1 (by decide) h
    · have h := h.1 q
      refine w_aload_n dX3_isBetter_13 rfl ?_
      refine w_gfA (ci := 3) (k := 2) dX3_isBetter_14 f3_9 ob_320 rfl ?_
      refine w_iload_n dX3_isBetter_17 rfl ?_
      obtain ⟨c5, h⟩ := h
      obtain ⟨c6, h⟩ := h
      refine w_iald dX3_isBetter_18 rfl (a3_2 ob_320) c5 c6 ?_
      refine w_aload_n dX3_isBetter_19 rfl ?_
      refine w_gfA (ci := 3) (k := 2) dX3_isBetter_20 f3_9 ob_320 rfl ?_
      refine w_iload_n dX3_isBetter_23 rfl ?_
      obtain ⟨c7, h⟩ := h
      obtain ⟨c8, h⟩ := h
      refine w_iald dX3_isBetter_24 rfl (a3_2 ob_320) c7 c8 ?_
      refine w_icmp_le (tgt := 32) dX3_isBetter_25 (by decide) (zw_zg _ _ _) (zw_zg _ _ _) (fun q => ?_) (fun q => ?_)
      · have h := h.2 q
        refine w_iconst dX3_isBetter_32 ?_
        exact w_rz rfl dX3_isBetter_33 zq_0 (by decide) h
      · have h := h.1 q
        refine w_iconst dX3_isBetter_28 ?_
        refine w_goto (tgt := 33) dX3_isBetter_29 (by decide) ?_
        exact w_rz rfl dX3_isBetter_33 zq_1 (by decide) h
  · have h := h.1 q
    refine w_iconst dX3_isBetter_6 ?_
    exact w_rz rfl dX3_isBetter_7 zq_1 (by decide) h
theorem e_X3_choose {d : Nat} {Q : Int → zM → Prop} {M : zM} (v1 : Int) (v2 : Int) (h : wp (Ev d) 3 cX3_choose (some .int) Q 0 [some (.ref 320), some (zI v1), some (zI v2), none, none, none] [] M) : Ev (d + 1) mX3_choose [.ref 320, zI v1, zI v2] M Q := ⟨kX3_choose, Nat.le_of_ble_eq_true rfl, h⟩
theorem v_X3_choose_0 {E : zE} {Q : Int → zM → Prop} {M : zM} (v1 : Int) (v2 : Int)  (h : (0 ≤ zw v1) ∧ ((zw v1 < 12) ∧ (E mX4_heldIn [.ref 256, zI (zg M 258 (zw v1).toNat)] M (fun r3 M4 => wp E 3 cX3_choose (some .int) Q 24 [some (.ref 320), none, some (zI v2), some (zI r3), some (zI (-2)), some (zI 0)] [] M4)))) : wp E 3 cX3_choose (some .int) Q 0 [some (.ref 320), some (zI v1), some (zI v2), none, none, none] [] M := by
  refine w_aload_n dX3_choose_0 rfl ?_
  refine w_gfO (ci := 3) (k := 1) (q := 256) dX3_choose_1 f3_19 ob_320 rfl rfl ?_
  refine w_aload_n dX3_choose_4 rfl ?_
  refine w_gfO (ci := 3) (k := 1) (q := 256) dX3_choose_5 f3_19 ob_320 rfl rfl ?_
  refine w_gfA (ci := 4) (k := 1) dX3_choose_8 f3_57 ob_256 rfl ?_
  refine w_iload_n dX3_choose_11 rfl ?_
  obtain ⟨c1, h⟩ := h
  obtain ⟨c2, h⟩ := h
  refine w_iald dX3_choose_12 rfl (a4_1 ob_256) c1 c2 ?_
  refine w_invVi [_] dX3_choose_13 l3_44 kX4_heldIn rfl rfl (Nat.le_of_ble_eq_true rfl) (Or.inl rfl) ob_256 h (fun r3 M4 h => ?_)
  refine w_istore_n dX3_choose_16 (Nat.le_of_ble_eq_true rfl) rfl ?_
  refine w_bipush dX3_choose_17 (by decide) ?_
  refine w_istore dX3_choose_19 (Nat.le_of_ble_eq_true rfl) rfl ?_
  refine w_iconst dX3_choose_21 ?_
  refine w_istore dX3_choose_22 (Nat.le_of_ble_eq_true rfl) rfl ?_
  exact w_fgt (fgk (fgd (fgk (fgk (fgk (fgk (fgn))))))) h
theorem v_X3_choose_24 {E : zE} {Q : Int → zM → Prop} {M : zM} (v2 : Int) (v3 : Int) (v4 : Int) (v5 : Int)  (h : (zw v5 < 12 → ((z_and (z_shr v3 v5) 1 = 0 → (E mX3_isBetter [.ref 320, zI v5, zI v4, zI v2] M (fun r1 M2 => (zw r1 = 0 → (wp E 3 cX3_choose (some .int) Q 24 [some (.ref 320), none, some (zI v2), some (zI v3), some (zI v4), some (zI (v5 + 1))] [] M2)) ∧ (¬ zw r1 = 0 → (wp E 3 cX3_choose (some .int) Q 24 [some (.ref 320), none, some (zI v2), some (zI v3), some (zI v5), some (zI (v5 + 1))] [] M2))))) ∧ (¬ z_and (z_shr v3 v5) 1 = 0 → (wp E 3 cX3_choose (some .int) Q 24 [some (.ref 320), none, some (zI v2), some (zI v3), some (zI v4), some (zI (v5 + 1))] [] M)))) ∧ (¬ zw v5 < 12 → (Q (zw v4) M))) : wp E 3 cX3_choose (some .int) Q 24 [some (.ref 320), none, some (zI v2), some (zI v3), some (zI v4), some (zI v5)] [] M := by
  refine w_iload dX3_choose_24 rfl ?_
  refine w_bipush dX3_choose_26 (by decide) ?_
  refine w_icmp_ge (tgt := 62) dX3_choose_28 (by decide) rfl zq_12 (fun q => ?_) (fun q => ?_)
  · have h := h.2 q
    refine w_iload dX3_choose_62 rfl ?_
    exact w_ri rfl dX3_choose_64 rfl h
  · have h := h.1 q
    refine w_iload_n dX3_choose_31 rfl ?_
    refine w_iload dX3_choose_32 rfl ?_
    refine w_ishr dX3_choose_34 ?_
    refine w_iconst dX3_choose_35 ?_
    refine w_iand dX3_choose_36 ?_
    refine w_if_ne (tgt := 56) dX3_choose_37 (by decide) (zx_and _ _) (fun q => ?_) (fun q => ?_)
    · have h := h.2 q
      refine w_iinc dX3_choose_56 rfl rfl ?_
      refine w_goto (tgt := 24) dX3_choose_59 (by decide) ?_
      exact w_fgt (fgk (fgd (fgk (fgk (fgk (fgk (fgn))))))) h
    · have h := h.1 q
      refine w_aload_n dX3_choose_40 rfl ?_
      refine w_iload dX3_choose_41 rfl ?_
      refine w_iload dX3_choose_43 rfl ?_
      refine w_iload_n dX3_choose_45 rfl ?_
      refine w_invVi [_, _, _] dX3_choose_46 l3_60 kX3_isBetter rfl rfl (Nat.le_of_ble_eq_true rfl) (Or.inr rfl) ob_320 h (fun r1 M2 h => ?_)
      refine w_if_eq (tgt := 56) dX3_choose_49 (by decide) rfl (fun q => ?_) (fun q => ?_)
      · have h := h.1 q
        refine w_iinc dX3_choose_56 rfl rfl ?_
        refine w_goto (tgt := 24) dX3_choose_59 (by decide) ?_
        exact w_fgt (fgk (fgd (fgk (fgk (fgk (fgk (fgn))))))) h
      · have h := h.2 q
        refine w_iload dX3_choose_52 rfl ?_
        refine w_istore dX3_choose_54 (Nat.le_of_ble_eq_true rfl) rfl ?_
        refine w_iinc dX3_choose_56 rfl rfl ?_
        refine w_goto (tgt := 24) dX3_choose_59 (by decide) ?_
        exact w_fgt (fgk (fgd (fgk (fgk (fgk (fgk (fgn))))))) h
theorem e_X3_chosenFor {d : Nat} {Q : Int → zM → Prop} {M : zM} (v1 : Int) (v2 : Int) (h : wp (Ev d) 3 cX3_chosenFor (some .int) Q 0 [some (.ref 320), some (zI v1), some (zI v2), none] [] M) : Ev (d + 1) mX3_chosenFor [.ref 320, zI v1, zI v2] M Q := ⟨kX3_chosenFor, Nat.le_of_ble_eq_true rfl, h⟩
theorem v_X3_chosenFor_0 {E : zE} {Q : Int → zM → Prop} {M : zM} (v1 : Int) (v2 : Int)  (h : E mX3_begin [.ref 320] M (fun r1 M2 => wp E 3 cX3_chosenFor (some .int) Q 6 [some (.ref 320), some (zI v1), some (zI v2), some (zI 0)] [] M2)) : wp E 3 cX3_chosenFor (some .int) Q 0 [some (.ref 320), some (zI v1), some (zI v2), none] [] M := by
  refine w_aload_n dX3_chosenFor_0 rfl ?_
  refine w_invVv [] dX3_chosenFor_1 l3_64 kX3_begin rfl rfl (Nat.le_of_ble_eq_true rfl) rfl ob_320 h (fun r1 M2 h => ?_)
  refine w_iconst dX3_chosenFor_4 ?_
  refine w_istore_n dX3_chosenFor_5 (Nat.le_of_ble_eq_true rfl) rfl ?_
  exact w_fgt (fgk (fgk (fgk (fgk (fgn))))) h
theorem v_X3_chosenFor_6 {E : zE} {Q : Int → zM → Prop} {M : zM} (v1 : Int) (v2 : Int) (v3 : Int)  (h : (zw v3 < zg M 192 5 → ((0 ≤ zw v3) ∧ ((zw v3 < 12) ∧ ((zg M 197 (zw v3).toNat = zw v1 → (wp E 3 cX3_chosenFor (some .int) Q 70 [some (.ref 320), some (zI v1), some (zI v2), none] [] M)) ∧ (¬ zg M 197 (zw v3).toNat = zw v1 → ((0 ≤ zw v3) ∧ ((zw v3 < 12) ∧ ((0 ≤ zw v3) ∧ ((zw v3 < 12) ∧ ((0 ≤ zg M 197 (zw v3).toNat) ∧ ((zg M 197 (zw v3).toNat < 12) ∧ ((0 ≤ zg M 197 (zw v3).toNat) ∧ ((zg M 197 (zw v3).toNat < 12) ∧ (∀ M11 : zM, M11 = zs M 260 (zg M 197 (zw v3).toNat).toNat (zg M 196 (zg M 197 (zw v3).toNat).toNat) → (wp E 3 cX3_chosenFor (some .int) Q 6 [some (.ref 320), some (zI v1), some (zI v2), some (zI (v3 + 1))] [] M11))))))))))))))) ∧ (¬ zw v3 < zg M 192 5 → (wp E 3 cX3_chosenFor (some .int) Q 70 [some (.ref 320), some (zI v1), some (zI v2), none] [] M))) : wp E 3 cX3_chosenFor (some .int) Q 6 [some (.ref 320), some (zI v1), some (zI v2), some (zI v3)] [] M := by
  refine w_iload_n dX3_chosenFor_6 rfl ?_
  refine w_aload_n dX3_chosenFor_7 rfl ?_
  refine w_gfO (ci := 3) (k := 0) (q := 192) dX3_chosenFor_8 f3_15 ob_320 rfl rfl ?_
  refine w_gfI (ci := 4) (k := 5) dX3_chosenFor_11 f3_67 ob_192 rfl ?_
  refine w_icmp_ge (tgt := 70) dX3_chosenFor_14 (by decide) rfl (zw_zg _ _ _) (fun q => ?_) (fun q => ?_)
  · have h := h.2 q
    exact w_fgt (fgk (fgk (fgk (fgd (fgn))))) h
  · have h := h.1 q
    refine w_aload_n dX3_chosenFor_17 rfl ?_
    refine w_gfO (ci := 3) (k := 0) (q := 192) dX3_chosenFor_18 f3_15 ob_320 rfl rfl ?_
    refine w_gfA (ci := 4) (k := 4) dX3_chosenFor_21 f3_70 ob_192 rfl ?_
    refine w_iload_n dX3_chosenFor_24 rfl ?_
    obtain ⟨c1, h⟩ := h
    obtain ⟨c2, h⟩ := h
    refine w_iald dX3_chosenFor_25 rfl (a4_4 ob_192) c1 c2 ?_
    refine w_iload_n dX3_chosenFor_26 rfl ?_
    refine w_icmp_eq (tgt := 70) dX3_chosenFor_27 (by decide) (zw_zg _ _ _) rfl (fun q => ?_) (fun q => ?_)
    · have h := h.1 q
      exact w_fgt (fgk (fgk (fgk (fgd (fgn))))) h
    · have h := h.2 q
      refine w_aload_n dX3_chosenFor_30 rfl ?_
      refine w_gfO (ci := 3) (k := 1) (q := 256) dX3_chosenFor_31 f3_19 ob_320 rfl rfl ?_
      refine w_gfA (ci := 4) (k := 3) dX3_chosenFor_34 f3_31 ob_256 rfl ?_
      refine w_aload_n dX3_chosenFor_37 rfl ?_
      refine w_gfO (ci := 3) (k := 0) (q := 192) dX3_chosenFor_38 f3_15 ob_320 rfl rfl ?_
      refine w_gfA (ci := 4) (k := 4) dX3_chosenFor_41 f3_70 ob_192 rfl ?_
      refine w_iload_n dX3_chosenFor_44 rfl ?_
      obtain ⟨c3, h⟩ := h
      obtain ⟨c4, h⟩ := h
      refine w_iald dX3_chosenFor_45 rfl (a4_4 ob_192) c3 c4 ?_
      refine w_aload_n dX3_chosenFor_46 rfl ?_
      refine w_gfO (ci := 3) (k := 0) (q := 192) dX3_chosenFor_47 f3_15 ob_320 rfl rfl ?_
      refine w_gfA (ci := 4) (k := 3) dX3_chosenFor_50 f3_31 ob_192 rfl ?_
      refine w_aload_n dX3_chosenFor_53 rfl ?_
      refine w_gfO (ci := 3) (k := 0) (q := 192) dX3_chosenFor_54 f3_15 ob_320 rfl rfl ?_
      refine w_gfA (ci := 4) (k := 4) dX3_chosenFor_57 f3_70 ob_192 rfl ?_
      refine w_iload_n dX3_chosenFor_60 rfl ?_
      obtain ⟨c5, h⟩ := h
      obtain ⟨c6, h⟩ := h
      refine w_iald dX3_chosenFor_61 rfl (a4_4 ob_192) c5 c6 ?_
      obtain ⟨c7, h⟩ := h
      obtain ⟨c8, h⟩ := h
      refine w_iald dX3_chosenFor_62 (zw_zg _ _ _) (a4_3 ob_192) c7 c8 ?_
      obtain ⟨c9, h⟩ := h
      obtain ⟨c10, h⟩ := h
      have h := h _ rfl
      refine w_iast dX3_chosenFor_63 (zw_zg _ _ _) (a4_3 ob_256) c9 c10 ?_
      refine w_iinc dX3_chosenFor_64 rfl rfl ?_
      refine w_goto (tgt := 6) dX3_chosenFor_67 (by decide) ?_
      exact w_fgt (fgk (fgk (fgk (fgk (fgn))))) h
theorem v_X3_chosenFor_70 {E : zE} {Q : Int → zM → Prop} {M : zM} (v1 : Int) (v2 : Int)  (h : (zw v2 = 1 → ((0 ≤ zw v1) ∧ ((zw v1 < 12) ∧ (E mX3_noteHeldAheadOf [.ref 320, zI (zg M 194 (zw v1).toNat)] M (fun r3 M4 => wp E 3 cX3_chosenFor (some .int) Q 88 [some (.ref 320), some (zI v1), some (zI v2), none] [] M4))))) ∧ (¬ zw v2 = 1 → (wp E 3 cX3_chosenFor (some .int) Q 88 [some (.ref 320), some (zI v1), some (zI v2), none] [] M))) : wp E 3 cX3_chosenFor (some .int) Q 70 [some (.ref 320), some (zI v1), some (zI v2), none] [] M := by
  refine w_iload_n dX3_chosenFor_70 rfl ?_
  refine w_iconst dX3_chosenFor_71 ?_
  refine w_icmp_ne (tgt := 88) dX3_chosenFor_72 (by decide) rfl zq_1 (fun q => ?_) (fun q => ?_)
  · have h := h.2 q
    exact w_fgt (fgk (fgk (fgk (fgd (fgn))))) h
  · have h := h.1 q
    refine w_aload_n dX3_chosenFor_75 rfl ?_
    refine w_aload_n dX3_chosenFor_76 rfl ?_
    refine w_gfO (ci := 3) (k := 0) (q := 192) dX3_chosenFor_77 f3_15 ob_320 rfl rfl ?_
    refine w_gfA (ci := 4) (k := 1) dX3_chosenFor_80 f3_57 ob_192 rfl ?_
    refine w_iload_n dX3_chosenFor_83 rfl ?_
    obtain ⟨c1, h⟩ := h
    obtain ⟨c2, h⟩ := h
    refine w_iald dX3_chosenFor_84 rfl (a4_1 ob_192) c1 c2 ?_
    refine w_invVv [_] dX3_chosenFor_85 l3_73 kX3_noteHeldAheadOf rfl rfl (Nat.le_of_ble_eq_true rfl) rfl ob_320 h (fun r3 M4 h => ?_)
    exact w_fgt (fgk (fgk (fgk (fgd (fgn))))) h
theorem v_X3_chosenFor_88 {E : zE} {Q : Int → zM → Prop} {M : zM} (v1 : Int) (v2 : Int)  (h : E mX3_choose [.ref 320, zI v1, zI v2] M (fun r1 M2 => Q (zw r1) M2)) : wp E 3 cX3_chosenFor (some .int) Q 88 [some (.ref 320), some (zI v1), some (zI v2), none] [] M := by
  refine w_aload_n dX3_chosenFor_88 rfl ?_
  refine w_iload_n dX3_chosenFor_89 rfl ?_
  refine w_iload_n dX3_chosenFor_90 rfl ?_
  refine w_invVi [_, _] dX3_chosenFor_91 l3_77 kX3_choose rfl rfl (Nat.le_of_ble_eq_true rfl) (Or.inl rfl) ob_320 h (fun r1 M2 h => ?_)
  exact w_ri rfl dX3_chosenFor_94 rfl h
theorem e_X3_firstHeldAtBirth {d : Nat} {Q : Int → zM → Prop} {M : zM}  (h : wp (Ev d) 3 cX3_firstHeldAtBirth (some .int) Q 0 [some (.ref 320), none, none, none] [] M) : Ev (d + 1) mX3_firstHeldAtBirth [.ref 320] M Q := ⟨kX3_firstHeldAtBirth, Nat.le_of_ble_eq_true rfl, h⟩
theorem v_X3_firstHeldAtBirth_0 {E : zE} {Q : Int → zM → Prop} {M : zM}   (h : E mX3_begin [.ref 320] M (fun r1 M2 => wp E 3 cX3_firstHeldAtBirth (some .int) Q 6 [some (.ref 320), some (zI 0), none, none] [] M2)) : wp E 3 cX3_firstHeldAtBirth (some .int) Q 0 [some (.ref 320), none, none, none] [] M := by
  refine w_aload_n dX3_firstHeldAtBirth_0 rfl ?_
  refine w_invVv [] dX3_firstHeldAtBirth_1 l3_64 kX3_begin rfl rfl (Nat.le_of_ble_eq_true rfl) rfl ob_320 h (fun r1 M2 h => ?_)
  refine w_iconst dX3_firstHeldAtBirth_4 ?_
  refine w_istore_n dX3_firstHeldAtBirth_5 (Nat.le_of_ble_eq_true rfl) rfl ?_
  exact w_fgt (fgk (fgk (fgd (fgd (fgn))))) h
theorem v_X3_firstHeldAtBirth_6 {E : zE} {Q : Int → zM → Prop} {M : zM} (v1 : Int)  (h : (zw v1 < zg M 192 5 → ((0 ≤ zw v1) ∧ ((zw v1 < 12) ∧ ((0 ≤ zg M 197 (zw v1).toNat) ∧ ((zg M 197 (zw v1).toNat < 12) ∧ ((zg M 196 (zg M 197 (zw v1).toNat).toNat < 0 → (wp E 3 cX3_firstHeldAtBirth (some .int) Q 67 [some (.ref 320), some (zI v1), some (zI (zg M 197 (zw v1).toNat)), some (zI (zg M 196 (zg M 197 (zw v1).toNat).toNat))] [] M)) ∧ (¬ zg M 196 (zg M 197 (zw v1).toNat).toNat < 0 → ((0 ≤ zg M 197 (zw v1).toNat) ∧ ((zg M 197 (zw v1).toNat < 12) ∧ (E mX4_heldIn [.ref 256, zI (zg M 194 (zg M 197 (zw v1).toNat).toNat)] M (fun r7 M8 => (z_and (z_shr r7 (zg M 196 (zg M 197 (zw v1).toNat).toNat)) 1 = 1 → (Q (zg M 197 (zw v1).toNat) M8)) ∧ (¬ z_and (z_shr r7 (zg M 196 (zg M 197 (zw v1).toNat).toNat)) 1 = 1 → (wp E 3 cX3_firstHeldAtBirth (some .int) Q 67 [some (.ref 320), some (zI v1), some (zI (zg M 197 (zw v1).toNat)), some (zI (zg M 196 (zg M 197 (zw v1).toNat).toNat))] [] M8))))))))))))) ∧ (¬ zw v1 < zg M 192 5 → (Q (-2) M))) : wp E 3 cX3_firstHeldAtBirth (some .int) Q 6 [some (.ref 320), some (zI v1), none, none] [] M := by
  refine w_iload_n dX3_firstHeldAtBirth_6 rfl ?_
  refine w_aload_n dX3_firstHeldAtBirth_7 rfl ?_
  refine w_gfO (ci := 3) (k := 0) (q := 192) dX3_firstHeldAtBirth_8 f3_15 ob_320 rfl rfl ?_
  refine w_gfI (ci := 4) (k := 5) dX3_firstHeldAtBirth_11 f3_67 ob_192 rfl ?_
  refine w_icmp_ge (tgt := 83) dX3_firstHeldAtBirth_14 (by decide) rfl (zw_zg _ _ _) (fun q => ?_) (fun q => ?_)
  · have h := h.2 q
    refine w_bipush dX3_firstHeldAtBirth_83 (by decide) ?_
    exact w_ri rfl dX3_firstHeldAtBirth_85 zq_m2 h
  · have h := h.1 q
    refine w_aload_n dX3_firstHeldAtBirth_17 rfl ?_
    refine w_gfO (ci := 3) (k := 0) (q := 192) dX3_firstHeldAtBirth_18 f3_15 ob_320 rfl rfl ?_
    refine w_gfA (ci := 4) (k := 4) dX3_firstHeldAtBirth_21 f3_70 ob_192 rfl ?_
    refine w_iload_n dX3_firstHeldAtBirth_24 rfl ?_
    obtain ⟨c1, h⟩ := h
    obtain ⟨c2, h⟩ := h
    refine w_iald dX3_firstHeldAtBirth_25 rfl (a4_4 ob_192) c1 c2 ?_
    refine w_istore_n dX3_firstHeldAtBirth_26 (Nat.le_of_ble_eq_true rfl) rfl ?_
    refine w_aload_n dX3_firstHeldAtBirth_27 rfl ?_
    refine w_gfO (ci := 3) (k := 0) (q := 192) dX3_firstHeldAtBirth_28 f3_15 ob_320 rfl rfl ?_
    refine w_gfA (ci := 4) (k := 3) dX3_firstHeldAtBirth_31 f3_31 ob_192 rfl ?_
    refine w_iload_n dX3_firstHeldAtBirth_34 rfl ?_
    obtain ⟨c3, h⟩ := h
    obtain ⟨c4, h⟩ := h
    refine w_iald dX3_firstHeldAtBirth_35 (zw_zg _ _ _) (a4_3 ob_192) c3 c4 ?_
    refine w_istore_n dX3_firstHeldAtBirth_36 (Nat.le_of_ble_eq_true rfl) rfl ?_
    refine w_iload_n dX3_firstHeldAtBirth_37 rfl ?_
    refine w_if_lt (tgt := 67) dX3_firstHeldAtBirth_38 (by decide) (zw_zg _ _ _) (fun q => ?_) (fun q => ?_)
    · have h := h.1 q
      exact w_fgt (fgk (fgk (fgk (fgk (fgn))))) h
    · have h := h.2 q
      refine w_aload_n dX3_firstHeldAtBirth_41 rfl ?_
      refine w_gfO (ci := 3) (k := 1) (q := 256) dX3_firstHeldAtBirth_42 f3_19 ob_320 rfl rfl ?_
      refine w_aload_n dX3_firstHeldAtBirth_45 rfl ?_
      refine w_gfO (ci := 3) (k := 0) (q := 192) dX3_firstHeldAtBirth_46 f3_15 ob_320 rfl rfl ?_
      refine w_gfA (ci := 4) (k := 1) dX3_firstHeldAtBirth_49 f3_57 ob_192 rfl ?_
      refine w_iload_n dX3_firstHeldAtBirth_52 rfl ?_
      obtain ⟨c5, h⟩ := h
      obtain ⟨c6, h⟩ := h
      refine w_iald dX3_firstHeldAtBirth_53 (zw_zg _ _ _) (a4_1 ob_192) c5 c6 ?_
      refine w_invVi [_] dX3_firstHeldAtBirth_54 l3_44 kX4_heldIn rfl rfl (Nat.le_of_ble_eq_true rfl) (Or.inl rfl) ob_256 h (fun r7 M8 h => ?_)
      refine w_iload_n dX3_firstHeldAtBirth_57 rfl ?_
      refine w_ishr dX3_firstHeldAtBirth_58 ?_
      refine w_iconst dX3_firstHeldAtBirth_59 ?_
      refine w_iand dX3_firstHeldAtBirth_60 ?_
      refine w_iconst dX3_firstHeldAtBirth_61 ?_
      refine w_icmp_ne (tgt := 67) dX3_firstHeldAtBirth_62 (by decide) (zx_and _ _) zq_1 (fun q => ?_) (fun q => ?_)
      · have h := h.2 q
        exact w_fgt (fgk (fgk (fgk (fgk (fgn))))) h
      · have h := h.1 q
        refine w_iload_n dX3_firstHeldAtBirth_65 rfl ?_
        exact w_ri rfl dX3_firstHeldAtBirth_66 (zw_zg _ _ _) h
theorem v_X3_firstHeldAtBirth_67 {E : zE} {Q : Int → zM → Prop} {M : zM} (v1 : Int) (v2 : Int) (v3 : Int)  (h : (0 ≤ zw v2) ∧ ((zw v2 < 12) ∧ (∀ M3 : zM, M3 = zs M 260 (zw v2).toNat v3 → (wp E 3 cX3_firstHeldAtBirth (some .int) Q 6 [some (.ref 320), some (zI (v1 + 1)), none, none] [] M3)))) : wp E 3 cX3_firstHeldAtBirth (some .int) Q 67 [some (.ref 320), some (zI v1), some (zI v2), some (zI v3)] [] M := by
  refine w_aload_n dX3_firstHeldAtBirth_67 rfl ?_
  refine w_gfO (ci := 3) (k := 1) (q := 256) dX3_firstHeldAtBirth_68 f3_19 ob_320 rfl rfl ?_
  refine w_gfA (ci := 4) (k := 3) dX3_firstHeldAtBirth_71 f3_31 ob_256 rfl ?_
  refine w_iload_n dX3_firstHeldAtBirth_74 rfl ?_
  refine w_iload_n dX3_firstHeldAtBirth_75 rfl ?_
  obtain ⟨c1, h⟩ := h
  obtain ⟨c2, h⟩ := h
  have h := h _ rfl
  refine w_iast dX3_firstHeldAtBirth_76 rfl (a4_3 ob_256) c1 c2 ?_
  refine w_iinc dX3_firstHeldAtBirth_77 rfl rfl ?_
  refine w_goto (tgt := 6) dX3_firstHeldAtBirth_80 (by decide) ?_
  exact w_fgt (fgk (fgk (fgd (fgd (fgn))))) h
theorem e_X3_nameAll {d : Nat} {Q : Int → zM → Prop} {M : zM} (v1 : Int) (h : wp (Ev d) 3 cX3_nameAll (none) Q 0 [some (.ref 320), some (zI v1), none, none, none] [] M) : Ev (d + 1) mX3_nameAll [.ref 320, zI v1] M Q := ⟨kX3_nameAll, Nat.le_of_ble_eq_true rfl, h⟩
theorem v_X3_nameAll_0 {E : zE} {Q : Int → zM → Prop} {M : zM} (v1 : Int)  (h : E mX3_forgetNames [.ref 320] M (fun r1 M2 => wp E 3 cX3_nameAll (none) Q 6 [some (.ref 320), some (zI v1), some (zI 0), none, none] [] M2)) : wp E 3 cX3_nameAll (none) Q 0 [some (.ref 320), some (zI v1), none, none, none] [] M := by
  refine w_aload_n dX3_nameAll_0 rfl ?_
  refine w_invVv [] dX3_nameAll_1 l3_28 kX3_forgetNames rfl rfl (Nat.le_of_ble_eq_true rfl) rfl ob_320 h (fun r1 M2 h => ?_)
  refine w_iconst dX3_nameAll_4 ?_
  refine w_istore_n dX3_nameAll_5 (Nat.le_of_ble_eq_true rfl) rfl ?_
  exact w_fgt (fgk (fgk (fgk (fgd (fgd (fgn)))))) h
theorem v_X3_nameAll_6 {E : zE} {Q : Int → zM → Prop} {M : zM} (v1 : Int) (v2 : Int)  (h : (zw v2 < zg M 256 5 → ((0 ≤ zw v2) ∧ ((zw v2 < 12) ∧ ((zw v1 = 1 → ((0 ≤ zg M 261 (zw v2).toNat) ∧ ((zg M 261 (zw v2).toNat < 12) ∧ (E mX3_noteHeldAheadOf [.ref 320, zI (zg M 258 (zg M 261 (zw v2).toNat).toNat)] M (fun r5 M6 => wp E 3 cX3_nameAll (none) Q 45 [some (.ref 320), some (zI v1), some (zI v2), some (zI (zg M 261 (zw v2).toNat)), none] [] M6))))) ∧ (¬ zw v1 = 1 → (wp E 3 cX3_nameAll (none) Q 45 [some (.ref 320), some (zI v1), some (zI v2), some (zI (zg M 261 (zw v2).toNat)), none] [] M)))))) ∧ (¬ zw v2 < zg M 256 5 → (Q 0 M))) : wp E 3 cX3_nameAll (none) Q 6 [some (.ref 320), some (zI v1), some (zI v2), none, none] [] M := by
  refine w_iload_n dX3_nameAll_6 rfl ?_
  refine w_aload_n dX3_nameAll_7 rfl ?_
  refine w_gfO (ci := 3) (k := 1) (q := 256) dX3_nameAll_8 f3_19 ob_320 rfl rfl ?_
  refine w_gfI (ci := 4) (k := 5) dX3_nameAll_11 f3_67 ob_256 rfl ?_
  refine w_icmp_ge (tgt := 81) dX3_nameAll_14 (by decide) rfl (zw_zg _ _ _) (fun q => ?_) (fun q => ?_)
  · have h := h.2 q
    exact w_rv rfl dX3_nameAll_81 h
  · have h := h.1 q
    refine w_aload_n dX3_nameAll_17 rfl ?_
    refine w_gfO (ci := 3) (k := 1) (q := 256) dX3_nameAll_18 f3_19 ob_320 rfl rfl ?_
    refine w_gfA (ci := 4) (k := 4) dX3_nameAll_21 f3_70 ob_256 rfl ?_
    refine w_iload_n dX3_nameAll_24 rfl ?_
    obtain ⟨c1, h⟩ := h
    obtain ⟨c2, h⟩ := h
    refine w_iald dX3_nameAll_25 rfl (a4_4 ob_256) c1 c2 ?_
    refine w_istore_n dX3_nameAll_26 (Nat.le_of_ble_eq_true rfl) rfl ?_
    refine w_iload_n dX3_nameAll_27 rfl ?_
    refine w_iconst dX3_nameAll_28 ?_
    refine w_icmp_ne (tgt := 45) dX3_nameAll_29 (by decide) rfl zq_1 (fun q => ?_) (fun q => ?_)
    · have h := h.2 q
      exact w_fgt (fgk (fgk (fgk (fgk (fgd (fgn)))))) h
    · have h := h.1 q
      refine w_aload_n dX3_nameAll_32 rfl ?_
      refine w_aload_n dX3_nameAll_33 rfl ?_
      refine w_gfO (ci := 3) (k := 1) (q := 256) dX3_nameAll_34 f3_19 ob_320 rfl rfl ?_
      refine w_gfA (ci := 4) (k := 1) dX3_nameAll_37 f3_57 ob_256 rfl ?_
      refine w_iload_n dX3_nameAll_40 rfl ?_
      obtain ⟨c3, h⟩ := h
      obtain ⟨c4, h⟩ := h
      refine w_iald dX3_nameAll_41 (zw_zg _ _ _) (a4_1 ob_256) c3 c4 ?_
      refine w_invVv [_] dX3_nameAll_42 l3_73 kX3_noteHeldAheadOf rfl rfl (Nat.le_of_ble_eq_true rfl) rfl ob_320 h (fun r5 M6 h => ?_)
      exact w_fgt (fgk (fgk (fgk (fgk (fgd (fgn)))))) h
theorem v_X3_nameAll_45 {E : zE} {Q : Int → zM → Prop} {M : zM} (v1 : Int) (v2 : Int) (v3 : Int)  (h : E mX3_choose [.ref 320, zI v3, zI v1] M (fun r1 M2 => (zw r1 = (-2) → ((0 ≤ zw v3) ∧ ((zw v3 < 12) ∧ (∀ M8 : zM, M8 = zs M2 260 (zw v3).toNat (-1) → (wp E 3 cX3_nameAll (none) Q 6 [some (.ref 320), some (zI v1), some (zI (v2 + 1)), none, none] [] M8))))) ∧ (¬ zw r1 = (-2) → ((0 ≤ zw v3) ∧ ((zw v3 < 12) ∧ (∀ M5 : zM, M5 = zs M2 260 (zw v3).toNat r1 → (wp E 3 cX3_nameAll (none) Q 6 [some (.ref 320), some (zI v1), some (zI (v2 + 1)), none, none] [] M5))))))) : wp E 3 cX3_nameAll (none) Q 45 [some (.ref 320), some (zI v1), some (zI v2), some (zI v3), none] [] M := by
  refine w_aload_n dX3_nameAll_45 rfl ?_
  refine w_iload_n dX3_nameAll_46 rfl ?_
  refine w_iload_n dX3_nameAll_47 rfl ?_
  refine w_invVi [_, _] dX3_nameAll_48 l3_77 kX3_choose rfl rfl (Nat.le_of_ble_eq_true rfl) (Or.inl rfl) ob_320 h (fun r1 M2 h => ?_)
  refine w_istore dX3_nameAll_51 (Nat.le_of_ble_eq_true rfl) rfl ?_
  refine w_aload_n dX3_nameAll_53 rfl ?_
  refine w_gfO (ci := 3) (k := 1) (q := 256) dX3_nameAll_54 f3_19 ob_320 rfl rfl ?_
  refine w_gfA (ci := 4) (k := 3) dX3_nameAll_57 f3_31 ob_256 rfl ?_
  refine w_iload_n dX3_nameAll_60 rfl ?_
  refine w_iload dX3_nameAll_61 rfl ?_
  refine w_bipush dX3_nameAll_63 (by decide) ?_
  refine w_icmp_ne (tgt := 72) dX3_nameAll_65 (by decide) rfl zq_m2 (fun q => ?_) (fun q => ?_)
  · have h := h.2 q
    refine w_iload dX3_nameAll_72 rfl ?_
    obtain ⟨c3, h⟩ := h
    obtain ⟨c4, h⟩ := h
    have h := h _ rfl
    refine w_iast dX3_nameAll_74 rfl (a4_3 ob_256) c3 c4 ?_
    refine w_iinc dX3_nameAll_75 rfl rfl ?_
    refine w_goto (tgt := 6) dX3_nameAll_78 (by decide) ?_
    exact w_fgt (fgk (fgk (fgk (fgd (fgd (fgn)))))) h
  · have h := h.1 q
    refine w_iconst dX3_nameAll_68 ?_
    refine w_goto (tgt := 74) dX3_nameAll_69 (by decide) ?_
    obtain ⟨c6, h⟩ := h
    obtain ⟨c7, h⟩ := h
    have h := h _ rfl
    refine w_iast dX3_nameAll_74 rfl (a4_3 ob_256) c6 c7 ?_
    refine w_iinc dX3_nameAll_75 rfl rfl ?_
    refine w_goto (tgt := 6) dX3_nameAll_78 (by decide) ?_
    exact w_fgt (fgk (fgk (fgk (fgd (fgd (fgn)))))) h
theorem e_X3_namesThatCame {d : Nat} {Q : Int → zM → Prop} {M : zM}  (h : wp (Ev d) 3 cX3_namesThatCame (some .int) Q 0 [some (.ref 320), none, none] [] M) : Ev (d + 1) mX3_namesThatCame [.ref 320] M Q := ⟨kX3_namesThatCame, Nat.le_of_ble_eq_true rfl, h⟩
theorem v_X3_namesThatCame_0 {E : zE} {Q : Int → zM → Prop} {M : zM}   (h : wp E 3 cX3_namesThatCame (some .int) Q 4 [some (.ref 320), some (zI 0), some (zI 0)] [] M) : wp E 3 cX3_namesThatCame (some .int) Q 0 [some (.ref 320), none, none] [] M := by
  refine w_iconst dX3_namesThatCame_0 ?_
  refine w_istore_n dX3_namesThatCame_1 (Nat.le_of_ble_eq_true rfl) rfl ?_
  refine w_iconst dX3_namesThatCame_2 ?_
  refine w_istore_n dX3_namesThatCame_3 (Nat.le_of_ble_eq_true rfl) rfl ?_
  exact w_fgt (fgk (fgk (fgk (fgn)))) h
theorem v_X3_namesThatCame_4 {E : zE} {Q : Int → zM → Prop} {M : zM} (v1 : Int) (v2 : Int)  (h : (zw v2 < zg M 256 5 → ((0 ≤ zw v2) ∧ ((zw v2 < 12) ∧ ((zg M 260 (zw v2).toNat < 0 → (wp E 3 cX3_namesThatCame (some .int) Q 4 [some (.ref 320), some (zI v1), some (zI (v2 + 1))] [] M)) ∧ (¬ zg M 260 (zw v2).toNat < 0 → ((0 ≤ zw v2) ∧ ((zw v2 < 12) ∧ (wp E 3 cX3_namesThatCame (some .int) Q 4 [some (.ref 320), some (zI (z_or v1 (z_shl 1 (zg M 260 (zw v2).toNat)))), some (zI (v2 + 1))] [] M)))))))) ∧ (¬ zw v2 < zg M 256 5 → (E mJ6_bitCount_0f7a4 [zI v1] M (fun r1 M2 => Q (zw r1) M2)))) : wp E 3 cX3_namesThatCame (some .int) Q 4 [some (.ref 320), some (zI v1), some (zI v2)] [] M := by
  refine w_iload_n dX3_namesThatCame_4 rfl ?_
  refine w_aload_n dX3_namesThatCame_5 rfl ?_
  refine w_gfO (ci := 3) (k := 1) (q := 256) dX3_namesThatCame_6 f3_19 ob_320 rfl rfl ?_
  refine w_gfI (ci := 4) (k := 5) dX3_namesThatCame_9 f3_67 ob_256 rfl ?_
  refine w_icmp_ge (tgt := 47) dX3_namesThatCame_12 (by decide) rfl (zw_zg _ _ _) (fun q => ?_) (fun q => ?_)
  · have h := h.2 q
    refine w_iload_n dX3_namesThatCame_47 rfl ?_
    refine w_invSi [_] dX3_namesThatCame_48 l3_80 kJ6_bitCount_0f7a4 rfl rfl (Nat.le_of_ble_eq_true rfl) (Or.inl rfl) h (fun r1 M2 h => ?_)
    exact w_ri rfl dX3_namesThatCame_51 rfl h
  · have h := h.1 q
    refine w_aload_n dX3_namesThatCame_15 rfl ?_
    refine w_gfO (ci := 3) (k := 1) (q := 256) dX3_namesThatCame_16 f3_19 ob_320 rfl rfl ?_
    refine w_gfA (ci := 4) (k := 3) dX3_namesThatCame_19 f3_31 ob_256 rfl ?_
    refine w_iload_n dX3_namesThatCame_22 rfl ?_
    obtain ⟨c3, h⟩ := h
    obtain ⟨c4, h⟩ := h
    refine w_iald dX3_namesThatCame_23 rfl (a4_3 ob_256) c3 c4 ?_
    refine w_if_lt (tgt := 41) dX3_namesThatCame_24 (by decide) (zw_zg _ _ _) (fun q => ?_) (fun q => ?_)
    · have h := h.1 q
      refine w_iinc dX3_namesThatCame_41 rfl rfl ?_
      refine w_goto (tgt := 4) dX3_namesThatCame_44 (by decide) ?_
      exact w_fgt (fgk (fgk (fgk (fgn)))) h
    · have h := h.2 q
      refine w_iload_n dX3_namesThatCame_27 rfl ?_
      refine w_iconst dX3_namesThatCame_28 ?_
      refine w_aload_n dX3_namesThatCame_29 rfl ?_
      refine w_gfO (ci := 3) (k := 1) (q := 256) dX3_namesThatCame_30 f3_19 ob_320 rfl rfl ?_
      refine w_gfA (ci := 4) (k := 3) dX3_namesThatCame_33 f3_31 ob_256 rfl ?_
      refine w_iload_n dX3_namesThatCame_36 rfl ?_
      obtain ⟨c5, h⟩ := h
      obtain ⟨c6, h⟩ := h
      refine w_iald dX3_namesThatCame_37 rfl (a4_3 ob_256) c5 c6 ?_
      refine w_ishl dX3_namesThatCame_38 ?_
      refine w_ior dX3_namesThatCame_39 ?_
      refine w_istore_n dX3_namesThatCame_40 (Nat.le_of_ble_eq_true rfl) rfl ?_
      refine w_iinc dX3_namesThatCame_41 rfl rfl ?_
      refine w_goto (tgt := 4) dX3_namesThatCame_44 (by decide) ?_
      exact w_fgt (fgk (fgk (fgk (fgn)))) h
theorem e_X3_sumOfWorths {d : Nat} {Q : Int → zM → Prop} {M : zM}  (h : wp (Ev d) 3 cX3_sumOfWorths (some .int) Q 0 [some (.ref 320), none, none] [] M) : Ev (d + 1) mX3_sumOfWorths [.ref 320] M Q := ⟨kX3_sumOfWorths, Nat.le_of_ble_eq_true rfl, h⟩
theorem v_X3_sumOfWorths_0 {E : zE} {Q : Int → zM → Prop} {M : zM}   (h : wp E 3 cX3_sumOfWorths (some .int) Q 4 [some (.ref 320), some (zI 0), some (zI 0)] [] M) : wp E 3 cX3_sumOfWorths (some .int) Q 0 [some (.ref 320), none, none] [] M := by
  refine w_iconst dX3_sumOfWorths_0 ?_
  refine w_istore_n dX3_sumOfWorths_1 (Nat.le_of_ble_eq_true rfl) rfl ?_
  refine w_iconst dX3_sumOfWorths_2 ?_
  refine w_istore_n dX3_sumOfWorths_3 (Nat.le_of_ble_eq_true rfl) rfl ?_
  exact w_fgt (fgk (fgk (fgk (fgn)))) h
theorem v_X3_sumOfWorths_4 {E : zE} {Q : Int → zM → Prop} {M : zM} (v1 : Int) (v2 : Int)  (h : (zw v2 < zg M 256 5 → ((0 ≤ zw v2) ∧ ((zw v2 < 12) ∧ ((zg M 260 (zw v2).toNat < 0 → (wp E 3 cX3_sumOfWorths (some .int) Q 4 [some (.ref 320), some (zI v1), some (zI (v2 + 1))] [] M)) ∧ (¬ zg M 260 (zw v2).toNat < 0 → ((0 ≤ zw v2) ∧ ((zw v2 < 12) ∧ ((0 ≤ zg M 260 (zw v2).toNat) ∧ ((zg M 260 (zw v2).toNat < 12) ∧ (wp E 3 cX3_sumOfWorths (some .int) Q 4 [some (.ref 320), some (zI (v1 + (zg M 269 (zg M 260 (zw v2).toNat).toNat))), some (zI (v2 + 1))] [] M)))))))))) ∧ (¬ zw v2 < zg M 256 5 → (Q (zw v1) M))) : wp E 3 cX3_sumOfWorths (some .int) Q 4 [some (.ref 320), some (zI v1), some (zI v2)] [] M := by
  refine w_iload_n dX3_sumOfWorths_4 rfl ?_
  refine w_aload_n dX3_sumOfWorths_5 rfl ?_
  refine w_gfO (ci := 3) (k := 1) (q := 256) dX3_sumOfWorths_6 f3_19 ob_320 rfl rfl ?_
  refine w_gfI (ci := 4) (k := 5) dX3_sumOfWorths_9 f3_67 ob_256 rfl ?_
  refine w_icmp_ge (tgt := 53) dX3_sumOfWorths_12 (by decide) rfl (zw_zg _ _ _) (fun q => ?_) (fun q => ?_)
  · have h := h.2 q
    refine w_iload_n dX3_sumOfWorths_53 rfl ?_
    exact w_ri rfl dX3_sumOfWorths_54 rfl h
  · have h := h.1 q
    refine w_aload_n dX3_sumOfWorths_15 rfl ?_
    refine w_gfO (ci := 3) (k := 1) (q := 256) dX3_sumOfWorths_16 f3_19 ob_320 rfl rfl ?_
    refine w_gfA (ci := 4) (k := 3) dX3_sumOfWorths_19 f3_31 ob_256 rfl ?_
    refine w_iload_n dX3_sumOfWorths_22 rfl ?_
    obtain ⟨c1, h⟩ := h
    obtain ⟨c2, h⟩ := h
    refine w_iald dX3_sumOfWorths_23 rfl (a4_3 ob_256) c1 c2 ?_
    refine w_if_lt (tgt := 47) dX3_sumOfWorths_24 (by decide) (zw_zg _ _ _) (fun q => ?_) (fun q => ?_)
    · have h := h.1 q
      refine w_iinc dX3_sumOfWorths_47 rfl rfl ?_
      refine w_goto (tgt := 4) dX3_sumOfWorths_50 (by decide) ?_
      exact w_fgt (fgk (fgk (fgk (fgn)))) h
    · have h := h.2 q
      refine w_iload_n dX3_sumOfWorths_27 rfl ?_
      refine w_aload_n dX3_sumOfWorths_28 rfl ?_
      refine w_gfO (ci := 3) (k := 1) (q := 256) dX3_sumOfWorths_29 f3_19 ob_320 rfl rfl ?_
      refine w_gfA (ci := 4) (k := 12) dX3_sumOfWorths_32 f3_54 ob_256 rfl ?_
      refine w_aload_n dX3_sumOfWorths_35 rfl ?_
      refine w_gfO (ci := 3) (k := 1) (q := 256) dX3_sumOfWorths_36 f3_19 ob_320 rfl rfl ?_
      refine w_gfA (ci := 4) (k := 3) dX3_sumOfWorths_39 f3_31 ob_256 rfl ?_
      refine w_iload_n dX3_sumOfWorths_42 rfl ?_
      obtain ⟨c3, h⟩ := h
      obtain ⟨c4, h⟩ := h
      refine w_iald dX3_sumOfWorths_43 rfl (a4_3 ob_256) c3 c4 ?_
      obtain ⟨c5, h⟩ := h
      obtain ⟨c6, h⟩ := h
      refine w_iald dX3_sumOfWorths_44 (zw_zg _ _ _) (a4_12 ob_256) c5 c6 ?_
      refine w_iadd dX3_sumOfWorths_45 ?_
      refine w_istore_n dX3_sumOfWorths_46 (Nat.le_of_ble_eq_true rfl) rfl ?_
      refine w_iinc dX3_sumOfWorths_47 rfl rfl ?_
      refine w_goto (tgt := 4) dX3_sumOfWorths_50 (by decide) ?_
      exact w_fgt (fgk (fgk (fgk (fgn)))) h
theorem e_X3_peopleWithout {d : Nat} {Q : Int → zM → Prop} {M : zM}  (h : wp (Ev d) 3 cX3_peopleWithout (some .int) Q 0 [some (.ref 320)] [] M) : Ev (d + 1) mX3_peopleWithout [.ref 320] M Q := ⟨kX3_peopleWithout, Nat.le_of_ble_eq_true rfl, h⟩
theorem v_X3_peopleWithout_0 {E : zE} {Q : Int → zM → Prop} {M : zM}   (h : E mX4_namedPeople [.ref 256] M (fun r1 M2 => Q (zw ((zg M 256 5) - r1)) M2)) : wp E 3 cX3_peopleWithout (some .int) Q 0 [some (.ref 320)] [] M := by
  refine w_aload_n dX3_peopleWithout_0 rfl ?_
  refine w_gfO (ci := 3) (k := 1) (q := 256) dX3_peopleWithout_1 f3_19 ob_320 rfl rfl ?_
  refine w_gfI (ci := 4) (k := 5) dX3_peopleWithout_4 f3_67 ob_256 rfl ?_
  refine w_aload_n dX3_peopleWithout_7 rfl ?_
  refine w_gfO (ci := 3) (k := 1) (q := 256) dX3_peopleWithout_8 f3_19 ob_320 rfl rfl ?_
  refine w_invVi [] dX3_peopleWithout_11 l3_85 kX4_namedPeople rfl rfl (Nat.le_of_ble_eq_true rfl) (Or.inl rfl) ob_256 h (fun r1 M2 h => ?_)
  refine w_isub dX3_peopleWithout_14 ?_
  exact w_ri rfl dX3_peopleWithout_15 rfl h
theorem e_X3_drawDeaths {d : Nat} {Q : Int → zM → Prop} {M : zM} (v1 : Int) (h : wp (Ev d) 3 cX3_drawDeaths (some .int) Q 0 [some (.ref 320), some (zI v1), none, none, none] [] M) : Ev (d + 1) mX3_drawDeaths [.ref 320, zI v1] M Q := ⟨kX3_drawDeaths, Nat.le_of_ble_eq_true rfl, h⟩
theorem v_X3_drawDeaths_0 {E : zE} {Q : Int → zM → Prop} {M : zM} (v1 : Int)  (h : wp E 3 cX3_drawDeaths (some .int) Q 4 [some (.ref 320), none, some (zI v1), some (zI 0), none] [] M) : wp E 3 cX3_drawDeaths (some .int) Q 0 [some (.ref 320), some (zI v1), none, none, none] [] M := by
  refine w_iload_n dX3_drawDeaths_0 rfl ?_
  refine w_istore_n dX3_drawDeaths_1 (Nat.le_of_ble_eq_true rfl) rfl ?_
  refine w_iconst dX3_drawDeaths_2 ?_
  refine w_istore_n dX3_drawDeaths_3 (Nat.le_of_ble_eq_true rfl) rfl ?_
  exact w_fgt (fgk (fgd (fgk (fgk (fgd (fgn)))))) h
theorem v_X3_drawDeaths_4 {E : zE} {Q : Int → zM → Prop} {M : zM} (v2 : Int) (v3 : Int)  (h : (zw v3 < zg M 256 5 → ((0 ≤ zw v3) ∧ ((zw v3 < 12) ∧ ((0 < zw (100 - (zg M 258 (zw v3).toNat)) → ((0 ≤ zw v3) ∧ ((zw v3 < 12) ∧ ((¬ zw (100 - (zg M 258 (zw v3).toNat)) = 0) ∧ ((0 ≤ zw v3) ∧ ((zw v3 < 12) ∧ (∀ M8 : zM, M8 = zs M 259 (zw v3).toNat (((zg M 258 (zw v3).toNat) + 1) + (z_rem (z_ushr ((v2 * 1103515245) + 12345) 8) (100 - (zg M 258 (zw v3).toNat)))) → (wp E 3 cX3_drawDeaths (some .int) Q 4 [some (.ref 320), none, some (zI ((v2 * 1103515245) + 12345)), some (zI (v3 + 1)), none] [] M8)))))))) ∧ (¬ 0 < zw (100 - (zg M 258 (zw v3).toNat)) → (wp E 3 cX3_drawDeaths (some .int) Q 4 [some (.ref 320), none, some (zI ((v2 * 1103515245) + 12345)), some (zI (v3 + 1)), none] [] M)))))) ∧ (¬ zw v3 < zg M 256 5 → (Q (zw v2) M))) : wp E 3 cX3_drawDeaths (some .int) Q 4 [some (.ref 320), none, some (zI v2), some (zI v3), none] [] M := by
  refine w_iload_n dX3_drawDeaths_4 rfl ?_
  refine w_aload_n dX3_drawDeaths_5 rfl ?_
  refine w_gfO (ci := 3) (k := 1) (q := 256) dX3_drawDeaths_6 f3_19 ob_320 rfl rfl ?_
  refine w_gfI (ci := 4) (k := 5) dX3_drawDeaths_9 f3_67 ob_256 rfl ?_
  refine w_icmp_ge (tgt := 77) dX3_drawDeaths_12 (by decide) rfl (zw_zg _ _ _) (fun q => ?_) (fun q => ?_)
  · have h := h.2 q
    refine w_iload_n dX3_drawDeaths_77 rfl ?_
    exact w_ri rfl dX3_drawDeaths_78 rfl h
  · have h := h.1 q
    refine w_iload_n dX3_drawDeaths_15 rfl ?_
    refine w_ldc (n := 1103515245) dX3_drawDeaths_16 o3_89 ?_
    refine w_imul dX3_drawDeaths_18 ?_
    refine w_sipush dX3_drawDeaths_19 (by decide) ?_
    refine w_iadd dX3_drawDeaths_22 ?_
    refine w_istore_n dX3_drawDeaths_23 (Nat.le_of_ble_eq_true rfl) rfl ?_
    refine w_bipush dX3_drawDeaths_24 (by decide) ?_
    refine w_aload_n dX3_drawDeaths_26 rfl ?_
    refine w_gfO (ci := 3) (k := 1) (q := 256) dX3_drawDeaths_27 f3_19 ob_320 rfl rfl ?_
    refine w_gfA (ci := 4) (k := 1) dX3_drawDeaths_30 f3_57 ob_256 rfl ?_
    refine w_iload_n dX3_drawDeaths_33 rfl ?_
    obtain ⟨c1, h⟩ := h
    obtain ⟨c2, h⟩ := h
    refine w_iald dX3_drawDeaths_34 rfl (a4_1 ob_256) c1 c2 ?_
    refine w_isub dX3_drawDeaths_35 ?_
    refine w_istore dX3_drawDeaths_36 (Nat.le_of_ble_eq_true rfl) rfl ?_
    refine w_iload dX3_drawDeaths_38 rfl ?_
    refine w_if_le (tgt := 71) dX3_drawDeaths_40 (by decide) rfl (fun q => ?_) (fun q => ?_)
    · have h := h.2 q
      refine w_iinc dX3_drawDeaths_71 rfl rfl ?_
      refine w_goto (tgt := 4) dX3_drawDeaths_74 (by decide) ?_
      exact w_fgt (fgk (fgd (fgk (fgk (fgd (fgn)))))) h
    · have h := h.1 q
      refine w_aload_n dX3_drawDeaths_43 rfl ?_
      refine w_gfO (ci := 3) (k := 1) (q := 256) dX3_drawDeaths_44 f3_19 ob_320 rfl rfl ?_
      refine w_gfA (ci := 4) (k := 2) dX3_drawDeaths_47 f3_90 ob_256 rfl ?_
      refine w_iload_n dX3_drawDeaths_50 rfl ?_
      refine w_aload_n dX3_drawDeaths_51 rfl ?_
      refine w_gfO (ci := 3) (k := 1) (q := 256) dX3_drawDeaths_52 f3_19 ob_320 rfl rfl ?_
      refine w_gfA (ci := 4) (k := 1) dX3_drawDeaths_55 f3_57 ob_256 rfl ?_
      refine w_iload_n dX3_drawDeaths_58 rfl ?_
      obtain ⟨c3, h⟩ := h
      obtain ⟨c4, h⟩ := h
      refine w_iald dX3_drawDeaths_59 rfl (a4_1 ob_256) c3 c4 ?_
      refine w_iconst dX3_drawDeaths_60 ?_
      refine w_iadd dX3_drawDeaths_61 ?_
      refine w_iload_n dX3_drawDeaths_62 rfl ?_
      refine w_bipush dX3_drawDeaths_63 (by decide) ?_
      refine w_iushr dX3_drawDeaths_65 ?_
      refine w_iload dX3_drawDeaths_66 rfl ?_
      obtain ⟨c5, h⟩ := h
      refine w_irem dX3_drawDeaths_68 c5 ?_
      refine w_iadd dX3_drawDeaths_69 ?_
      obtain ⟨c6, h⟩ := h
      obtain ⟨c7, h⟩ := h
      have h := h _ rfl
      refine w_iast dX3_drawDeaths_70 rfl (a4_2 ob_256) c6 c7 ?_
      refine w_iinc dX3_drawDeaths_71 rfl rfl ?_
      refine w_goto (tgt := 4) dX3_drawDeaths_74 (by decide) ?_
      exact w_fgt (fgk (fgd (fgk (fgk (fgd (fgn)))))) h
theorem e_X4_copyAllButNames {d : Nat} {Q : Int → zM → Prop} {M : zM} (o : Nat) (o1 : Nat) (h : wp (Ev d) 4 cX4_copyAllButNames (none) Q 0 [some (.ref o), some (.ref o1)] [] M) : Ev (d + 1) mX4_copyAllButNames [.ref o, .ref o1] M Q := ⟨kX4_copyAllButNames, Nat.le_of_ble_eq_true rfl, h⟩
theorem v_X4_copyAllButNames_0 {E : zE} {Q : Int → zM → Prop} {M : zM} (o : Nat) (o1 : Nat) (h_o : zob o 4) (h_o1 : zob o1 4) (h : ∀ M1 : zM, M1 = zci M (o1 + 2) (o + 2) 0 0 12 → (∀ M2 : zM, M2 = zci M1 (o1 + 3) (o + 3) 0 0 12 → (∀ M3 : zM, M3 = zci M2 (o1 + 5) (o + 5) 0 0 12 → (∀ M4 : zM, M4 = zs M3 o 5 (zg M3 o1 5) → (∀ M5 : zM, M5 = zci M4 (o1 + 7) (o + 7) 0 0 16 → (∀ M6 : zM, M6 = zci M5 (o1 + 8) (o + 8) 0 0 16 → (∀ M7 : zM, M7 = zci M6 (o1 + 9) (o + 9) 0 0 16 → (∀ M8 : zM, M8 = zci M7 (o1 + 10) (o + 10) 0 0 16 → (∀ M9 : zM, M9 = zs M8 o 10 (zg M8 o1 10) → (∀ M10 : zM, M10 = zs M9 o 11 (zg M9 o1 11) → (∀ M11 : zM, M11 = zci M10 (o1 + 13) (o + 13) 0 0 12 → (∀ M12 : zM, M12 = zci M11 (o1 + 14) (o + 14) 0 0 12 → (Q 0 M12))))))))))))) : wp E 4 cX4_copyAllButNames (none) Q 0 [some (.ref o), some (.ref o1)] [] M := by
  refine w_aload_n dX4_copyAllButNames_0 rfl ?_
  refine w_gfA (ci := 4) (k := 1) dX4_copyAllButNames_1 f4_9 h_o1 rfl ?_
  refine w_iconst dX4_copyAllButNames_4 ?_
  refine w_aload_n dX4_copyAllButNames_5 rfl ?_
  refine w_gfA (ci := 4) (k := 1) dX4_copyAllButNames_6 f4_9 h_o rfl ?_
  refine w_iconst dX4_copyAllButNames_9 ?_
  refine w_bipush dX4_copyAllButNames_10 (by decide) ?_
  have h := h _ rfl
  refine w_cpyi dX4_copyAllButNames_12 (a4_1 h_o1) (a4_1 h_o) l4_55 zq_0 zq_0 zq_12 (by decide) (by decide) (by decide) (by decide) (by decide) (Nat.le_of_ble_eq_true rfl) ?_
  refine w_aload_n dX4_copyAllButNames_15 rfl ?_
  refine w_gfA (ci := 4) (k := 2) dX4_copyAllButNames_16 f4_15 h_o1 rfl ?_
  refine w_iconst dX4_copyAllButNames_19 ?_
  refine w_aload_n dX4_copyAllButNames_20 rfl ?_
  refine w_gfA (ci := 4) (k := 2) dX4_copyAllButNames_21 f4_15 h_o rfl ?_
  refine w_iconst dX4_copyAllButNames_24 ?_
  refine w_bipush dX4_copyAllButNames_25 (by decide) ?_
  have h := h _ rfl
  refine w_cpyi dX4_copyAllButNames_27 (a4_2 h_o1) (a4_2 h_o) l4_55 zq_0 zq_0 zq_12 (by decide) (by decide) (by decide) (by decide) (by decide) (Nat.le_of_ble_eq_true rfl) ?_
  refine w_aload_n dX4_copyAllButNames_30 rfl ?_
  refine w_gfA (ci := 4) (k := 4) dX4_copyAllButNames_31 f4_21 h_o1 rfl ?_
  refine w_iconst dX4_copyAllButNames_34 ?_
  refine w_aload_n dX4_copyAllButNames_35 rfl ?_
  refine w_gfA (ci := 4) (k := 4) dX4_copyAllButNames_36 f4_21 h_o rfl ?_
  refine w_iconst dX4_copyAllButNames_39 ?_
  refine w_bipush dX4_copyAllButNames_40 (by decide) ?_
  have h := h _ rfl
  refine w_cpyi dX4_copyAllButNames_42 (a4_4 h_o1) (a4_4 h_o) l4_55 zq_0 zq_0 zq_12 (by decide) (by decide) (by decide) (by decide) (by decide) (Nat.le_of_ble_eq_true rfl) ?_
  refine w_aload_n dX4_copyAllButNames_45 rfl ?_
  refine w_aload_n dX4_copyAllButNames_46 rfl ?_
  refine w_gfI (ci := 4) (k := 5) dX4_copyAllButNames_47 f4_61 h_o1 rfl ?_
  have h := h _ rfl
  refine w_pfI (ci := 4) (k := 5) dX4_copyAllButNames_50 f4_61 h_o rfl rfl rfl ?_
  refine w_aload_n dX4_copyAllButNames_53 rfl ?_
  refine w_gfA (ci := 4) (k := 6) dX4_copyAllButNames_54 f4_24 h_o1 rfl ?_
  refine w_iconst dX4_copyAllButNames_57 ?_
  refine w_aload_n dX4_copyAllButNames_58 rfl ?_
  refine w_gfA (ci := 4) (k := 6) dX4_copyAllButNames_59 f4_24 h_o rfl ?_
  refine w_iconst dX4_copyAllButNames_62 ?_
  refine w_bipush dX4_copyAllButNames_63 (by decide) ?_
  have h := h _ rfl
  refine w_cpyi dX4_copyAllButNames_65 (a4_6 h_o1) (a4_6 h_o) l4_55 zq_0 zq_0 zq_16 (by decide) (by decide) (by decide) (by decide) (by decide) (Nat.le_of_ble_eq_true rfl) ?_
  refine w_aload_n dX4_copyAllButNames_68 rfl ?_
  refine w_gfA (ci := 4) (k := 7) dX4_copyAllButNames_69 f4_27 h_o1 rfl ?_
  refine w_iconst dX4_copyAllButNames_72 ?_
  refine w_aload_n dX4_copyAllButNames_73 rfl ?_
  refine w_gfA (ci := 4) (k := 7) dX4_copyAllButNames_74 f4_27 h_o rfl ?_
  refine w_iconst dX4_copyAllButNames_77 ?_
  refine w_bipush dX4_copyAllButNames_78 (by decide) ?_
  have h := h _ rfl
  refine w_cpyi dX4_copyAllButNames_80 (a4_7 h_o1) (a4_7 h_o) l4_55 zq_0 zq_0 zq_16 (by decide) (by decide) (by decide) (by decide) (by decide) (Nat.le_of_ble_eq_true rfl) ?_
  refine w_aload_n dX4_copyAllButNames_83 rfl ?_
  refine w_gfA (ci := 4) (k := 8) dX4_copyAllButNames_84 f4_30 h_o1 rfl ?_
  refine w_iconst dX4_copyAllButNames_87 ?_
  refine w_aload_n dX4_copyAllButNames_88 rfl ?_
  refine w_gfA (ci := 4) (k := 8) dX4_copyAllButNames_89 f4_30 h_o rfl ?_
  refine w_iconst dX4_copyAllButNames_92 ?_
  refine w_bipush dX4_copyAllButNames_93 (by decide) ?_
  have h := h _ rfl
  refine w_cpyi dX4_copyAllButNames_95 (a4_8 h_o1) (a4_8 h_o) l4_55 zq_0 zq_0 zq_16 (by decide) (by decide) (by decide) (by decide) (by decide) (Nat.le_of_ble_eq_true rfl) ?_
  refine w_aload_n dX4_copyAllButNames_98 rfl ?_
  refine w_gfA (ci := 4) (k := 9) dX4_copyAllButNames_99 f4_33 h_o1 rfl ?_
  refine w_iconst dX4_copyAllButNames_102 ?_
  refine w_aload_n dX4_copyAllButNames_103 rfl ?_
  refine w_gfA (ci := 4) (k := 9) dX4_copyAllButNames_104 f4_33 h_o rfl ?_
  refine w_iconst dX4_copyAllButNames_107 ?_
  refine w_bipush dX4_copyAllButNames_108 (by decide) ?_
  have h := h _ rfl
  refine w_cpyi dX4_copyAllButNames_110 (a4_9 h_o1) (a4_9 h_o) l4_55 zq_0 zq_0 zq_16 (by decide) (by decide) (by decide) (by decide) (by decide) (Nat.le_of_ble_eq_true rfl) ?_
  refine w_aload_n dX4_copyAllButNames_113 rfl ?_
  refine w_aload_n dX4_copyAllButNames_114 rfl ?_
  refine w_gfI (ci := 4) (k := 10) dX4_copyAllButNames_115 f4_65 h_o1 rfl ?_
  have h := h _ rfl
  refine w_pfI (ci := 4) (k := 10) dX4_copyAllButNames_118 f4_65 h_o rfl rfl rfl ?_
  refine w_aload_n dX4_copyAllButNames_121 rfl ?_
  refine w_aload_n dX4_copyAllButNames_122 rfl ?_
  refine w_gfI (ci := 4) (k := 11) dX4_copyAllButNames_123 f4_68 h_o1 rfl ?_
  have h := h _ rfl
  refine w_pfI (ci := 4) (k := 11) dX4_copyAllButNames_126 f4_68 h_o rfl rfl rfl ?_
  refine w_aload_n dX4_copyAllButNames_129 rfl ?_
  refine w_gfA (ci := 4) (k := 12) dX4_copyAllButNames_130 f4_36 h_o1 rfl ?_
  refine w_iconst dX4_copyAllButNames_133 ?_
  refine w_aload_n dX4_copyAllButNames_134 rfl ?_
  refine w_gfA (ci := 4) (k := 12) dX4_copyAllButNames_135 f4_36 h_o rfl ?_
  refine w_iconst dX4_copyAllButNames_138 ?_
  refine w_bipush dX4_copyAllButNames_139 (by decide) ?_
  have h := h _ rfl
  refine w_cpyi dX4_copyAllButNames_141 (a4_12 h_o1) (a4_12 h_o) l4_55 zq_0 zq_0 zq_12 (by decide) (by decide) (by decide) (by decide) (by decide) (Nat.le_of_ble_eq_true rfl) ?_
  refine w_aload_n dX4_copyAllButNames_144 rfl ?_
  refine w_gfA (ci := 4) (k := 13) dX4_copyAllButNames_145 f4_39 h_o1 rfl ?_
  refine w_iconst dX4_copyAllButNames_148 ?_
  refine w_aload_n dX4_copyAllButNames_149 rfl ?_
  refine w_gfA (ci := 4) (k := 13) dX4_copyAllButNames_150 f4_39 h_o rfl ?_
  refine w_iconst dX4_copyAllButNames_153 ?_
  refine w_bipush dX4_copyAllButNames_154 (by decide) ?_
  have h := h _ rfl
  refine w_cpyi dX4_copyAllButNames_156 (a4_13 h_o1) (a4_13 h_o) l4_55 zq_0 zq_0 zq_12 (by decide) (by decide) (by decide) (by decide) (by decide) (Nat.le_of_ble_eq_true rfl) ?_
  exact w_rv rfl dX4_copyAllButNames_159 h
theorem e_X4_hasPerson {d : Nat} {Q : Int → zM → Prop} {M : zM} (o : Nat) (v1 : Int) (h : wp (Ev d) 4 cX4_hasPerson (some .boolean) Q 0 [some (.ref o), some (zI v1)] [] M) : Ev (d + 1) mX4_hasPerson [.ref o, zI v1] M Q := ⟨kX4_hasPerson, Nat.le_of_ble_eq_true rfl, h⟩
theorem v_X4_hasPerson_0 {E : zE} {Q : Int → zM → Prop} {M : zM} (o : Nat) (v1 : Int) (h_o : zob o 4) (h : (zw v1 < 0 → (Q 0 M)) ∧ (¬ zw v1 < 0 → ((zw v1 < zg M o 5 → (Q 1 M)) ∧ (¬ zw v1 < zg M o 5 → (Q 0 M))))) : wp E 4 cX4_hasPerson (some .boolean) Q 0 [some (.ref o), some (zI v1)] [] M := by
  refine w_iload_n dX4_hasPerson_0 rfl ?_
  refine w_if_lt (tgt := 16) dX4_hasPerson_1 (by decide) rfl (fun q => ?_) (fun q => ?_)
  · have h := h.1 q
    refine w_iconst dX4_hasPerson_16 ?_
    exact w_rz rfl dX4_hasPerson_17 zq_0 (by decide) h
  · have h := h.2 q
    refine w_iload_n dX4_hasPerson_4 rfl ?_
    refine w_aload_n dX4_hasPerson_5 rfl ?_
    refine w_gfI (ci := 4) (k := 5) dX4_hasPerson_6 f4_61 h_o rfl ?_
    refine w_icmp_ge (tgt := 16) dX4_hasPerson_9 (by decide) rfl (zw_zg _ _ _) (fun q => ?_) (fun q => ?_)
    · have h := h.2 q
      refine w_iconst dX4_hasPerson_16 ?_
      exact w_rz rfl dX4_hasPerson_17 zq_0 (by decide) h
    · have h := h.1 q
      refine w_iconst dX4_hasPerson_12 ?_
      refine w_goto (tgt := 17) dX4_hasPerson_13 (by decide) ?_
      exact w_rz rfl dX4_hasPerson_17 zq_1 (by decide) h
theorem e_X4_hasMeeting {d : Nat} {Q : Int → zM → Prop} {M : zM} (o : Nat) (v1 : Int) (h : wp (Ev d) 4 cX4_hasMeeting (some .boolean) Q 0 [some (.ref o), some (zI v1)] [] M) : Ev (d + 1) mX4_hasMeeting [.ref o, zI v1] M Q := ⟨kX4_hasMeeting, Nat.le_of_ble_eq_true rfl, h⟩
theorem v_X4_hasMeeting_0 {E : zE} {Q : Int → zM → Prop} {M : zM} (o : Nat) (v1 : Int) (h_o : zob o 4) (h : (zw v1 < 0 → (Q 0 M)) ∧ (¬ zw v1 < 0 → ((zw v1 < zg M o 10 → (Q 1 M)) ∧ (¬ zw v1 < zg M o 10 → (Q 0 M))))) : wp E 4 cX4_hasMeeting (some .boolean) Q 0 [some (.ref o), some (zI v1)] [] M := by
  refine w_iload_n dX4_hasMeeting_0 rfl ?_
  refine w_if_lt (tgt := 16) dX4_hasMeeting_1 (by decide) rfl (fun q => ?_) (fun q => ?_)
  · have h := h.1 q
    refine w_iconst dX4_hasMeeting_16 ?_
    exact w_rz rfl dX4_hasMeeting_17 zq_0 (by decide) h
  · have h := h.2 q
    refine w_iload_n dX4_hasMeeting_4 rfl ?_
    refine w_aload_n dX4_hasMeeting_5 rfl ?_
    refine w_gfI (ci := 4) (k := 10) dX4_hasMeeting_6 f4_65 h_o rfl ?_
    refine w_icmp_ge (tgt := 16) dX4_hasMeeting_9 (by decide) rfl (zw_zg _ _ _) (fun q => ?_) (fun q => ?_)
    · have h := h.2 q
      refine w_iconst dX4_hasMeeting_16 ?_
      exact w_rz rfl dX4_hasMeeting_17 zq_0 (by decide) h
    · have h := h.1 q
      refine w_iconst dX4_hasMeeting_12 ?_
      refine w_goto (tgt := 17) dX4_hasMeeting_13 (by decide) ?_
      exact w_rz rfl dX4_hasMeeting_17 zq_1 (by decide) h
theorem e_X4_come {d : Nat} {Q : Int → zM → Prop} {M : zM} (o : Nat) (v1 : Int) (v2 : Int) (v3 : Int) (h : wp (Ev d) 4 cX4_come (some .int) Q 0 [some (.ref o), some (zI v1), some (zI v2), some (zI v3), none, none] [] M) : Ev (d + 1) mX4_come [.ref o, zI v1, zI v2, zI v3] M Q := ⟨kX4_come, Nat.le_of_ble_eq_true rfl, h⟩
theorem v_X4_come_0 {E : zE} {Q : Int → zM → Prop} {M : zM} (o : Nat) (v1 : Int) (v2 : Int) (v3 : Int) (h_o : zob o 4) (h : (zg M o 5 < 12 → (wp E 4 cX4_come (some .int) Q 26 [some (.ref o), some (zI v1), some (zI v2), some (zI v3), some (zI (zg M o 5)), some (zI ((zg M o 5) - 1))] [] M)) ∧ (¬ zg M o 5 < 12 → (Q (-3) M))) : wp E 4 cX4_come (some .int) Q 0 [some (.ref o), some (zI v1), some (zI v2), some (zI v3), none, none] [] M := by
  refine w_aload_n dX4_come_0 rfl ?_
  refine w_gfI (ci := 4) (k := 5) dX4_come_1 f4_61 h_o rfl ?_
  refine w_bipush dX4_come_4 (by decide) ?_
  refine w_icmp_lt (tgt := 12) dX4_come_6 (by decide) (zw_zg _ _ _) zq_12 (fun q => ?_) (fun q => ?_)
  · have h := h.1 q
    refine w_aload_n dX4_come_12 rfl ?_
    refine w_gfI (ci := 4) (k := 5) dX4_come_13 f4_61 h_o rfl ?_
    refine w_istore dX4_come_16 (Nat.le_of_ble_eq_true rfl) rfl ?_
    refine w_aload_n dX4_come_18 rfl ?_
    refine w_gfI (ci := 4) (k := 5) dX4_come_19 f4_61 h_o rfl ?_
    refine w_iconst dX4_come_22 ?_
    refine w_isub dX4_come_23 ?_
    refine w_istore dX4_come_24 (Nat.le_of_ble_eq_true rfl) rfl ?_
    exact w_fgt (fgk (fgk (fgk (fgk (fgk (fgk (fgn))))))) h
  · have h := h.2 q
    refine w_bipush dX4_come_9 (by decide) ?_
    exact w_ri rfl dX4_come_11 zq_m3 h
theorem v_X4_come_26 {E : zE} {Q : Int → zM → Prop} {M : zM} (o : Nat) (v1 : Int) (v2 : Int) (v3 : Int) (v4 : Int) (v5 : Int) (h_o : zob o 4) (h : (zw v5 < 0 → (wp E 4 cX4_come (some .int) Q 73 [some (.ref o), some (zI v1), some (zI v2), some (zI v3), some (zI v4), none] [] M)) ∧ (¬ zw v5 < 0 → ((0 ≤ zw v5) ∧ ((zw v5 < 12) ∧ ((0 ≤ zg M (o + 5) (zw v5).toNat) ∧ ((zg M (o + 5) (zw v5).toNat < 12) ∧ ((zw v1 < zg M (o + 2) (zg M (o + 5) (zw v5).toNat).toNat → ((0 ≤ zw v5) ∧ ((zw v5 < 12) ∧ ((0 ≤ zw (v5 + 1)) ∧ ((zw (v5 + 1) < 12) ∧ (∀ M9 : zM, M9 = zs M (o + 5) (zw (v5 + 1)).toNat (zg M (o + 5) (zw v5).toNat) → (wp E 4 cX4_come (some .int) Q 26 [some (.ref o), some (zI v1), some (zI v2), some (zI v3), some (zI v5), some (zI (v5 + (-1)))] [] M9))))))) ∧ (¬ zw v1 < zg M (o + 2) (zg M (o + 5) (zw v5).toNat).toNat → (wp E 4 cX4_come (some .int) Q 73 [some (.ref o), some (zI v1), some (zI v2), some (zI v3), some (zI v4), none] [] M))))))))) : wp E 4 cX4_come (some .int) Q 26 [some (.ref o), some (zI v1), some (zI v2), some (zI v3), some (zI v4), some (zI v5)] [] M := by
  refine w_iload dX4_come_26 rfl ?_
  refine w_if_lt (tgt := 73) dX4_come_28 (by decide) rfl (fun q => ?_) (fun q => ?_)
  · have h := h.1 q
    exact w_fgt (fgk (fgk (fgk (fgk (fgk (fgd (fgn))))))) h
  · have h := h.2 q
    refine w_aload_n dX4_come_31 rfl ?_
    refine w_gfA (ci := 4) (k := 1) dX4_come_32 f4_9 h_o rfl ?_
    refine w_aload_n dX4_come_35 rfl ?_
    refine w_gfA (ci := 4) (k := 4) dX4_come_36 f4_21 h_o rfl ?_
    refine w_iload dX4_come_39 rfl ?_
    obtain ⟨c1, h⟩ := h
    obtain ⟨c2, h⟩ := h
    refine w_iald dX4_come_41 rfl (a4_4 h_o) c1 c2 ?_
    obtain ⟨c3, h⟩ := h
    obtain ⟨c4, h⟩ := h
    refine w_iald dX4_come_42 (zw_zg _ _ _) (a4_1 h_o) c3 c4 ?_
    refine w_iload_n dX4_come_43 rfl ?_
    refine w_icmp_le (tgt := 73) dX4_come_44 (by decide) (zw_zg _ _ _) rfl (fun q => ?_) (fun q => ?_)
    · have h := h.2 q
      exact w_fgt (fgk (fgk (fgk (fgk (fgk (fgd (fgn))))))) h
    · have h := h.1 q
      refine w_aload_n dX4_come_47 rfl ?_
      refine w_gfA (ci := 4) (k := 4) dX4_come_48 f4_21 h_o rfl ?_
      refine w_iload dX4_come_51 rfl ?_
      refine w_iconst dX4_come_53 ?_
      refine w_iadd dX4_come_54 ?_
      refine w_aload_n dX4_come_55 rfl ?_
      refine w_gfA (ci := 4) (k := 4) dX4_come_56 f4_21 h_o rfl ?_
      refine w_iload dX4_come_59 rfl ?_
      obtain ⟨c5, h⟩ := h
      obtain ⟨c6, h⟩ := h
      refine w_iald dX4_come_61 rfl (a4_4 h_o) c5 c6 ?_
      obtain ⟨c7, h⟩ := h
      obtain ⟨c8, h⟩ := h
      have h := h _ rfl
      refine w_iast dX4_come_62 rfl (a4_4 h_o) c7 c8 ?_
      refine w_iload dX4_come_63 rfl ?_
      refine w_istore dX4_come_65 (Nat.le_of_ble_eq_true rfl) rfl ?_
      refine w_iinc dX4_come_67 rfl rfl ?_
      refine w_goto (tgt := 26) dX4_come_70 (by decide) ?_
      exact w_fgt (fgk (fgk (fgk (fgk (fgk (fgk (fgn))))))) h
theorem v_X4_come_73 {E : zE} {Q : Int → zM → Prop} {M : zM} (o : Nat) (v1 : Int) (v2 : Int) (v3 : Int) (v4 : Int) (h_o : zob o 4) (h : (0 ≤ zw v4) ∧ ((zw v4 < 12) ∧ (∀ M3 : zM, M3 = zs M (o + 5) (zw v4).toNat (zg M o 5) → ((0 ≤ zg M3 o 5) ∧ ((zg M3 o 5 < 12) ∧ (∀ M6 : zM, M6 = zs M3 (o + 2) (zg M3 o 5).toNat v1 → ((0 ≤ zg M6 o 5) ∧ ((zg M6 o 5 < 12) ∧ (∀ M9 : zM, M9 = zs M6 (o + 3) (zg M6 o 5).toNat v2 → ((0 ≤ zg M9 o 5) ∧ ((zg M9 o 5 < 12) ∧ (∀ M12 : zM, M12 = zs M9 (o + 4) (zg M9 o 5).toNat v3 → (∀ M13 : zM, M13 = zs M12 o 5 ((zg M12 o 5) + 1) → (Q (zg M12 o 5) M13)))))))))))))) : wp E 4 cX4_come (some .int) Q 73 [some (.ref o), some (zI v1), some (zI v2), some (zI v3), some (zI v4), none] [] M := by
  refine w_aload_n dX4_come_73 rfl ?_
  refine w_gfA (ci := 4) (k := 4) dX4_come_74 f4_21 h_o rfl ?_
  refine w_iload dX4_come_77 rfl ?_
  refine w_aload_n dX4_come_79 rfl ?_
  refine w_gfI (ci := 4) (k := 5) dX4_come_80 f4_61 h_o rfl ?_
  obtain ⟨c1, h⟩ := h
  obtain ⟨c2, h⟩ := h
  have h := h _ rfl
  refine w_iast dX4_come_83 rfl (a4_4 h_o) c1 c2 ?_
  refine w_aload_n dX4_come_84 rfl ?_
  refine w_gfA (ci := 4) (k := 1) dX4_come_85 f4_9 h_o rfl ?_
  refine w_aload_n dX4_come_88 rfl ?_
  refine w_gfI (ci := 4) (k := 5) dX4_come_89 f4_61 h_o rfl ?_
  refine w_iload_n dX4_come_92 rfl ?_
  obtain ⟨c4, h⟩ := h
  obtain ⟨c5, h⟩ := h
  have h := h _ rfl
  refine w_iast dX4_come_93 (zw_zg _ _ _) (a4_1 h_o) c4 c5 ?_
  refine w_aload_n dX4_come_94 rfl ?_
  refine w_gfA (ci := 4) (k := 2) dX4_come_95 f4_15 h_o rfl ?_
  refine w_aload_n dX4_come_98 rfl ?_
  refine w_gfI (ci := 4) (k := 5) dX4_come_99 f4_61 h_o rfl ?_
  refine w_iload_n dX4_come_102 rfl ?_
  obtain ⟨c7, h⟩ := h
  obtain ⟨c8, h⟩ := h
  have h := h _ rfl
  refine w_iast dX4_come_103 (zw_zg _ _ _) (a4_2 h_o) c7 c8 ?_
  refine w_aload_n dX4_come_104 rfl ?_
  refine w_gfA (ci := 4) (k := 3) dX4_come_105 f4_18 h_o rfl ?_
  refine w_aload_n dX4_come_108 rfl ?_
  refine w_gfI (ci := 4) (k := 5) dX4_come_109 f4_61 h_o rfl ?_
  refine w_iload_n dX4_come_112 rfl ?_
  obtain ⟨c10, h⟩ := h
  obtain ⟨c11, h⟩ := h
  have h := h _ rfl
  refine w_iast dX4_come_113 (zw_zg _ _ _) (a4_3 h_o) c10 c11 ?_
  refine w_aload_n dX4_come_114 rfl ?_
  refine w_dup dX4_come_115 rfl ?_
  refine w_gfI (ci := 4) (k := 5) dX4_come_116 f4_61 h_o rfl ?_
  refine w_dup_x1 dX4_come_119 rfl rfl ?_
  refine w_iconst dX4_come_120 ?_
  refine w_iadd dX4_come_121 ?_
  have h := h _ rfl
  refine w_pfI (ci := 4) (k := 5) dX4_come_122 f4_61 h_o rfl rfl rfl ?_
  exact w_ri rfl dX4_come_125 (zw_zg _ _ _) h
theorem e_X4_placeOf {d : Nat} {Q : Int → zM → Prop} {M : zM} (o : Nat) (v1 : Int) (h : wp (Ev d) 4 cX4_placeOf (some .int) Q 0 [some (.ref o), some (zI v1), none] [] M) : Ev (d + 1) mX4_placeOf [.ref o, zI v1] M Q := ⟨kX4_placeOf, Nat.le_of_ble_eq_true rfl, h⟩
theorem v_X4_placeOf_0 {E : zE} {Q : Int → zM → Prop} {M : zM} (o : Nat) (v1 : Int) (h_o : zob o 4) (h : wp E 4 cX4_placeOf (some .int) Q 2 [some (.ref o), some (zI v1), some (zI 0)] [] M) : wp E 4 cX4_placeOf (some .int) Q 0 [some (.ref o), some (zI v1), none] [] M := by
  refine w_iconst dX4_placeOf_0 ?_
  refine w_istore_n dX4_placeOf_1 (Nat.le_of_ble_eq_true rfl) rfl ?_
  exact w_fgt (fgk (fgk (fgk (fgn)))) h
theorem v_X4_placeOf_2 {E : zE} {Q : Int → zM → Prop} {M : zM} (o : Nat) (v1 : Int) (v2 : Int) (h_o : zob o 4) (h : (zw v2 < zg M o 5 → ((0 ≤ zw v2) ∧ ((zw v2 < 12) ∧ ((zg M (o + 5) (zw v2).toNat = zw v1 → (Q (zw v2) M)) ∧ (¬ zg M (o + 5) (zw v2).toNat = zw v1 → (wp E 4 cX4_placeOf (some .int) Q 2 [some (.ref o), some (zI v1), some (zI (v2 + 1))] [] M)))))) ∧ (¬ zw v2 < zg M o 5 → (Q (zg M o 5) M))) : wp E 4 cX4_placeOf (some .int) Q 2 [some (.ref o), some (zI v1), some (zI v2)] [] M := by
  refine w_iload_n dX4_placeOf_2 rfl ?_
  refine w_aload_n dX4_placeOf_3 rfl ?_
  refine w_gfI (ci := 4) (k := 5) dX4_placeOf_4 f4_61 h_o rfl ?_
  refine w_icmp_ge (tgt := 28) dX4_placeOf_7 (by decide) rfl (zw_zg _ _ _) (fun q => ?_) (fun q => ?_)
  · have h := h.2 q
    refine w_aload_n dX4_placeOf_28 rfl ?_
    refine w_gfI (ci := 4) (k := 5) dX4_placeOf_29 f4_61 h_o rfl ?_
    exact w_ri rfl dX4_placeOf_32 (zw_zg _ _ _) h
  · have h := h.1 q
    refine w_aload_n dX4_placeOf_10 rfl ?_
    refine w_gfA (ci := 4) (k := 4) dX4_placeOf_11 f4_21 h_o rfl ?_
    refine w_iload_n dX4_placeOf_14 rfl ?_
    obtain ⟨c1, h⟩ := h
    obtain ⟨c2, h⟩ := h
    refine w_iald dX4_placeOf_15 rfl (a4_4 h_o) c1 c2 ?_
    refine w_iload_n dX4_placeOf_16 rfl ?_
    refine w_icmp_ne (tgt := 22) dX4_placeOf_17 (by decide) (zw_zg _ _ _) rfl (fun q => ?_) (fun q => ?_)
    · have h := h.2 q
      refine w_iinc dX4_placeOf_22 rfl rfl ?_
      refine w_goto (tgt := 2) dX4_placeOf_25 (by decide) ?_
      exact w_fgt (fgk (fgk (fgk (fgn)))) h
    · have h := h.1 q
      refine w_iload_n dX4_placeOf_20 rfl ?_
      exact w_ri rfl dX4_placeOf_21 rfl h
theorem e_X4_lives {d : Nat} {Q : Int → zM → Prop} {M : zM} (o : Nat) (v1 : Int) (v2 : Int) (h : wp (Ev d) 4 cX4_lives (some .boolean) Q 0 [some (.ref o), some (zI v1), some (zI v2)] [] M) : Ev (d + 1) mX4_lives [.ref o, zI v1, zI v2] M Q := ⟨kX4_lives, Nat.le_of_ble_eq_true rfl, h⟩
theorem v_X4_lives_0 {E : zE} {Q : Int → zM → Prop} {M : zM} (o : Nat) (v1 : Int) (v2 : Int) (h_o : zob o 4) (h : (0 ≤ zw v1) ∧ ((zw v1 < 12) ∧ ((zw v2 < zg M (o + 2) (zw v1).toNat → (Q 0 M)) ∧ (¬ zw v2 < zg M (o + 2) (zw v1).toNat → ((0 ≤ zw v1) ∧ ((zw v1 < 12) ∧ ((zw v2 < zg M (o + 3) (zw v1).toNat → (Q 1 M)) ∧ (¬ zw v2 < zg M (o + 3) (zw v1).toNat → (Q 0 M))))))))) : wp E 4 cX4_lives (some .boolean) Q 0 [some (.ref o), some (zI v1), some (zI v2)] [] M := by
  refine w_aload_n dX4_lives_0 rfl ?_
  refine w_gfA (ci := 4) (k := 1) dX4_lives_1 f4_9 h_o rfl ?_
  refine w_iload_n dX4_lives_4 rfl ?_
  obtain ⟨c1, h⟩ := h
  obtain ⟨c2, h⟩ := h
  refine w_iald dX4_lives_5 rfl (a4_1 h_o) c1 c2 ?_
  refine w_iload_n dX4_lives_6 rfl ?_
  refine w_icmp_gt (tgt := 24) dX4_lives_7 (by decide) (zw_zg _ _ _) rfl (fun q => ?_) (fun q => ?_)
  · have h := h.1 q
    refine w_iconst dX4_lives_24 ?_
    exact w_rz rfl dX4_lives_25 zq_0 (by decide) h
  · have h := h.2 q
    refine w_iload_n dX4_lives_10 rfl ?_
    refine w_aload_n dX4_lives_11 rfl ?_
    refine w_gfA (ci := 4) (k := 2) dX4_lives_12 f4_15 h_o rfl ?_
    refine w_iload_n dX4_lives_15 rfl ?_
    obtain ⟨c3, h⟩ := h
    obtain ⟨c4, h⟩ := h
    refine w_iald dX4_lives_16 rfl (a4_2 h_o) c3 c4 ?_
    refine w_icmp_ge (tgt := 24) dX4_lives_17 (by decide) rfl (zw_zg _ _ _) (fun q => ?_) (fun q => ?_)
    · have h := h.2 q
      refine w_iconst dX4_lives_24 ?_
      exact w_rz rfl dX4_lives_25 zq_0 (by decide) h
    · have h := h.1 q
      refine w_iconst dX4_lives_20 ?_
      refine w_goto (tgt := 25) dX4_lives_21 (by decide) ?_
      exact w_rz rfl dX4_lives_25 zq_1 (by decide) h
theorem e_X4_livingIn {d : Nat} {Q : Int → zM → Prop} {M : zM} (o : Nat) (v1 : Int) (h : wp (Ev d) 4 cX4_livingIn (some .int) Q 0 [some (.ref o), some (zI v1), none, none] [] M) : Ev (d + 1) mX4_livingIn [.ref o, zI v1] M Q := ⟨kX4_livingIn, Nat.le_of_ble_eq_true rfl, h⟩
theorem v_X4_livingIn_0 {E : zE} {Q : Int → zM → Prop} {M : zM} (o : Nat) (v1 : Int) (h_o : zob o 4) (h : wp E 4 cX4_livingIn (some .int) Q 4 [some (.ref o), some (zI v1), some (zI 0), some (zI 0)] [] M) : wp E 4 cX4_livingIn (some .int) Q 0 [some (.ref o), some (zI v1), none, none] [] M := by
  refine w_iconst dX4_livingIn_0 ?_
  refine w_istore_n dX4_livingIn_1 (Nat.le_of_ble_eq_true rfl) rfl ?_
  refine w_iconst dX4_livingIn_2 ?_
  refine w_istore_n dX4_livingIn_3 (Nat.le_of_ble_eq_true rfl) rfl ?_
  exact w_fgt (fgk (fgk (fgk (fgk (fgn))))) h
theorem v_X4_livingIn_4 {E : zE} {Q : Int → zM → Prop} {M : zM} (o : Nat) (v1 : Int) (v2 : Int) (v3 : Int) (h_o : zob o 4) (h : (zw v3 < zg M o 5 → (E mX4_lives [.ref o, zI v3, zI v1] M (fun r1 M2 => (zw r1 = 0 → (wp E 4 cX4_livingIn (some .int) Q 4 [some (.ref o), some (zI v1), some (zI v2), some (zI (v3 + 1))] [] M2)) ∧ (¬ zw r1 = 0 → (wp E 4 cX4_livingIn (some .int) Q 4 [some (.ref o), some (zI v1), some (zI (z_or v2 (z_shl 1 v3))), some (zI (v3 + 1))] [] M2))))) ∧ (¬ zw v3 < zg M o 5 → (Q (zw v2) M))) : wp E 4 cX4_livingIn (some .int) Q 4 [some (.ref o), some (zI v1), some (zI v2), some (zI v3)] [] M := by
  refine w_iload_n dX4_livingIn_4 rfl ?_
  refine w_aload_n dX4_livingIn_5 rfl ?_
  refine w_gfI (ci := 4) (k := 5) dX4_livingIn_6 f4_61 h_o rfl ?_
  refine w_icmp_ge (tgt := 33) dX4_livingIn_9 (by decide) rfl (zw_zg _ _ _) (fun q => ?_) (fun q => ?_)
  · have h := h.2 q
    refine w_iload_n dX4_livingIn_33 rfl ?_
    exact w_ri rfl dX4_livingIn_34 rfl h
  · have h := h.1 q
    refine w_aload_n dX4_livingIn_12 rfl ?_
    refine w_iload_n dX4_livingIn_13 rfl ?_
    refine w_iload_n dX4_livingIn_14 rfl ?_
    refine w_invVi [_, _] dX4_livingIn_15 l4_71 kX4_lives rfl rfl (Nat.le_of_ble_eq_true rfl) (Or.inr rfl) h_o h (fun r1 M2 h => ?_)
    refine w_if_eq (tgt := 27) dX4_livingIn_18 (by decide) rfl (fun q => ?_) (fun q => ?_)
    · have h := h.1 q
      refine w_iinc dX4_livingIn_27 rfl rfl ?_
      refine w_goto (tgt := 4) dX4_livingIn_30 (by decide) ?_
      exact w_fgt (fgk (fgk (fgk (fgk (fgn))))) h
    · have h := h.2 q
      refine w_iload_n dX4_livingIn_21 rfl ?_
      refine w_iconst dX4_livingIn_22 ?_
      refine w_iload_n dX4_livingIn_23 rfl ?_
      refine w_ishl dX4_livingIn_24 ?_
      refine w_ior dX4_livingIn_25 ?_
      refine w_istore_n dX4_livingIn_26 (Nat.le_of_ble_eq_true rfl) rfl ?_
      refine w_iinc dX4_livingIn_27 rfl rfl ?_
      refine w_goto (tgt := 4) dX4_livingIn_30 (by decide) ?_
      exact w_fgt (fgk (fgk (fgk (fgk (fgn))))) h
theorem e_X4_mayMeet {d : Nat} {Q : Int → zM → Prop} {M : zM} (o : Nat) (v1 : Int) (v2 : Int) (v3 : Int) (h : wp (Ev d) 4 cX4_mayMeet (some .boolean) Q 0 [some (.ref o), some (zI v1), some (zI v2), some (zI v3)] [] M) : Ev (d + 1) mX4_mayMeet [.ref o, zI v1, zI v2, zI v3] M Q := ⟨kX4_mayMeet, Nat.le_of_ble_eq_true rfl, h⟩
theorem v_X4_mayMeet_0 {E : zE} {Q : Int → zM → Prop} {M : zM} (o : Nat) (v1 : Int) (v2 : Int) (v3 : Int) (h_o : zob o 4) (h : E mX4_hasPerson [.ref o, zI v1] M (fun r1 M2 => (zw r1 = 0 → (Q 0 M2)) ∧ (¬ zw r1 = 0 → (E mX4_hasPerson [.ref o, zI v2] M2 (fun r3 M4 => (zw r3 = 0 → (Q 0 M4)) ∧ (¬ zw r3 = 0 → ((zw v1 = zw v2 → (Q 0 M4)) ∧ (¬ zw v1 = zw v2 → (E mX4_lives [.ref o, zI v1, zI v3] M4 (fun r5 M6 => (zw r5 = 0 → (Q 0 M6)) ∧ (¬ zw r5 = 0 → (E mX4_lives [.ref o, zI v2, zI v3] M6 (fun r7 M8 => (zw r7 = 0 → (Q 0 M8)) ∧ (¬ zw r7 = 0 → (Q 1 M8))))))))))))))) : wp E 4 cX4_mayMeet (some .boolean) Q 0 [some (.ref o), some (zI v1), some (zI v2), some (zI v3)] [] M := by
  refine w_aload_n dX4_mayMeet_0 rfl ?_
  refine w_iload_n dX4_mayMeet_1 rfl ?_
  refine w_invVi [_] dX4_mayMeet_2 l4_75 kX4_hasPerson rfl rfl (Nat.le_of_ble_eq_true rfl) (Or.inr rfl) h_o h (fun r1 M2 h => ?_)
  refine w_if_eq (tgt := 43) dX4_mayMeet_5 (by decide) rfl (fun q => ?_) (fun q => ?_)
  · have h := h.1 q
    refine w_iconst dX4_mayMeet_43 ?_
    exact w_rz rfl dX4_mayMeet_44 zq_0 (by decide) h
  · have h := h.2 q
    refine w_aload_n dX4_mayMeet_8 rfl ?_
    refine w_iload_n dX4_mayMeet_9 rfl ?_
    refine w_invVi [_] dX4_mayMeet_10 l4_75 kX4_hasPerson rfl rfl (Nat.le_of_ble_eq_true rfl) (Or.inr rfl) h_o h (fun r3 M4 h => ?_)
    refine w_if_eq (tgt := 43) dX4_mayMeet_13 (by decide) rfl (fun q => ?_) (fun q => ?_)
    · have h := h.1 q
      refine w_iconst dX4_mayMeet_43 ?_
      exact w_rz rfl dX4_mayMeet_44 zq_0 (by decide) h
    · have h := h.2 q
      refine w_iload_n dX4_mayMeet_16 rfl ?_
      refine w_iload_n dX4_mayMeet_17 rfl ?_
      refine w_icmp_eq (tgt := 43) dX4_mayMeet_18 (by decide) rfl rfl (fun q => ?_) (fun q => ?_)
      · have h := h.1 q
        refine w_iconst dX4_mayMeet_43 ?_
        exact w_rz rfl dX4_mayMeet_44 zq_0 (by decide) h
      · have h := h.2 q
        refine w_aload_n dX4_mayMeet_21 rfl ?_
        refine w_iload_n dX4_mayMeet_22 rfl ?_
        refine w_iload_n dX4_mayMeet_23 rfl ?_
        refine w_invVi [_, _] dX4_mayMeet_24 l4_71 kX4_lives rfl rfl (Nat.le_of_ble_eq_true rfl) (Or.inr rfl) h_o h (fun r5 M6 h => ?_)
        refine w_if_eq (tgt := 43) dX4_mayMeet_27 (by decide) rfl (fun q => ?_) (fun q => ?_)
        · have h := h.1 q
          refine w_iconst dX4_mayMeet_43 ?_
          exact w_rz rfl dX4_mayMeet_44 zq_0 (by decide) h
        · have h := h.2 q
          refine w_aload_n dX4_mayMeet_30 rfl ?_
          refine w_iload_n dX4_mayMeet_31 rfl ?_
          refine w_iload_n dX4_mayMeet_32 rfl ?_
          refine w_invVi [_, _] dX4_mayMeet_33 l4_71 kX4_lives rfl rfl (Nat.le_of_ble_eq_true rfl) (Or.inr rfl) h_o h (fun r7 M8 h => ?_)
          refine w_if_eq (tgt := 43) dX4_mayMeet_36 (by decide) rfl (fun q => ?_) (fun q => ?_)
          · have h := h.1 q
            refine w_iconst dX4_mayMeet_43 ?_
            exact w_rz rfl dX4_mayMeet_44 zq_0 (by decide) h
          · have h := h.2 q
            refine w_iconst dX4_mayMeet_39 ?_
            refine w_goto (tgt := 44) dX4_mayMeet_40 (by decide) ?_
            exact w_rz rfl dX4_mayMeet_44 zq_1 (by decide) h
theorem e_X4_addMeeting {d : Nat} {Q : Int → zM → Prop} {M : zM} (o : Nat) (v1 : Int) (v2 : Int) (v3 : Int) (h : wp (Ev d) 4 cX4_addMeeting (some .int) Q 0 [some (.ref o), some (zI v1), some (zI v2), some (zI v3), none, none] [] M) : Ev (d + 1) mX4_addMeeting [.ref o, zI v1, zI v2, zI v3] M Q := ⟨kX4_addMeeting, Nat.le_of_ble_eq_true rfl, h⟩
theorem v_X4_addMeeting_0 {E : zE} {Q : Int → zM → Prop} {M : zM} (o : Nat) (v1 : Int) (v2 : Int) (v3 : Int) (h_o : zob o 4) (h : (zg M o 10 < 16 → (wp E 4 cX4_addMeeting (some .int) Q 26 [some (.ref o), some (zI v1), some (zI v2), some (zI v3), some (zI (zg M o 10)), some (zI ((zg M o 10) - 1))] [] M)) ∧ (¬ zg M o 10 < 16 → (Q (-3) M))) : wp E 4 cX4_addMeeting (some .int) Q 0 [some (.ref o), some (zI v1), some (zI v2), some (zI v3), none, none] [] M := by
  refine w_aload_n dX4_addMeeting_0 rfl ?_
  refine w_gfI (ci := 4) (k := 10) dX4_addMeeting_1 f4_65 h_o rfl ?_
  refine w_bipush dX4_addMeeting_4 (by decide) ?_
  refine w_icmp_lt (tgt := 12) dX4_addMeeting_6 (by decide) (zw_zg _ _ _) zq_16 (fun q => ?_) (fun q => ?_)
  · have h := h.1 q
    refine w_aload_n dX4_addMeeting_12 rfl ?_
    refine w_gfI (ci := 4) (k := 10) dX4_addMeeting_13 f4_65 h_o rfl ?_
    refine w_istore dX4_addMeeting_16 (Nat.le_of_ble_eq_true rfl) rfl ?_
    refine w_aload_n dX4_addMeeting_18 rfl ?_
    refine w_gfI (ci := 4) (k := 10) dX4_addMeeting_19 f4_65 h_o rfl ?_
    refine w_iconst dX4_addMeeting_22 ?_
    refine w_isub dX4_addMeeting_23 ?_
    refine w_istore dX4_addMeeting_24 (Nat.le_of_ble_eq_true rfl) rfl ?_
    exact w_fgt (fgk (fgk (fgk (fgk (fgk (fgk (fgn))))))) h
  · have h := h.2 q
    refine w_bipush dX4_addMeeting_9 (by decide) ?_
    exact w_ri rfl dX4_addMeeting_11 zq_m3 h
theorem v_X4_addMeeting_26 {E : zE} {Q : Int → zM → Prop} {M : zM} (o : Nat) (v1 : Int) (v2 : Int) (v3 : Int) (v4 : Int) (v5 : Int) (h_o : zob o 4) (h : (zw v5 < 0 → (wp E 4 cX4_addMeeting (some .int) Q 73 [some (.ref o), some (zI v1), some (zI v2), some (zI v3), some (zI v4), none] [] M)) ∧ (¬ zw v5 < 0 → ((0 ≤ zw v5) ∧ ((zw v5 < 16) ∧ ((0 ≤ zg M (o + 10) (zw v5).toNat) ∧ ((zg M (o + 10) (zw v5).toNat < 16) ∧ ((zw v3 < zg M (o + 9) (zg M (o + 10) (zw v5).toNat).toNat → ((0 ≤ zw v5) ∧ ((zw v5 < 16) ∧ ((0 ≤ zw (v5 + 1)) ∧ ((zw (v5 + 1) < 16) ∧ (∀ M9 : zM, M9 = zs M (o + 10) (zw (v5 + 1)).toNat (zg M (o + 10) (zw v5).toNat) → (wp E 4 cX4_addMeeting (some .int) Q 26 [some (.ref o), some (zI v1), some (zI v2), some (zI v3), some (zI v5), some (zI (v5 + (-1)))] [] M9))))))) ∧ (¬ zw v3 < zg M (o + 9) (zg M (o + 10) (zw v5).toNat).toNat → (wp E 4 cX4_addMeeting (some .int) Q 73 [some (.ref o), some (zI v1), some (zI v2), some (zI v3), some (zI v4), none] [] M))))))))) : wp E 4 cX4_addMeeting (some .int) Q 26 [some (.ref o), some (zI v1), some (zI v2), some (zI v3), some (zI v4), some (zI v5)] [] M := by
  refine w_iload dX4_addMeeting_26 rfl ?_
  refine w_if_lt (tgt := 73) dX4_addMeeting_28 (by decide) rfl (fun q => ?_) (fun q => ?_)
  · have h := h.1 q
    exact w_fgt (fgk (fgk (fgk (fgk (fgk (fgd (fgn))))))) h
  · have h := h.2 q
    refine w_aload_n dX4_addMeeting_31 rfl ?_
    refine w_gfA (ci := 4) (k := 8) dX4_addMeeting_32 f4_30 h_o rfl ?_
    refine w_aload_n dX4_addMeeting_35 rfl ?_
    refine w_gfA (ci := 4) (k := 9) dX4_addMeeting_36 f4_33 h_o rfl ?_
    refine w_iload dX4_addMeeting_39 rfl ?_
    obtain ⟨c1, h⟩ := h
    obtain ⟨c2, h⟩ := h
    refine w_iald dX4_addMeeting_41 rfl (a4_9 h_o) c1 c2 ?_
    obtain ⟨c3, h⟩ := h
    obtain ⟨c4, h⟩ := h
    refine w_iald dX4_addMeeting_42 (zw_zg _ _ _) (a4_8 h_o) c3 c4 ?_
    refine w_iload_n dX4_addMeeting_43 rfl ?_
    refine w_icmp_le (tgt := 73) dX4_addMeeting_44 (by decide) (zw_zg _ _ _) rfl (fun q => ?_) (fun q => ?_)
    · have h := h.2 q
      exact w_fgt (fgk (fgk (fgk (fgk (fgk (fgd (fgn))))))) h
    · have h := h.1 q
      refine w_aload_n dX4_addMeeting_47 rfl ?_
      refine w_gfA (ci := 4) (k := 9) dX4_addMeeting_48 f4_33 h_o rfl ?_
      refine w_iload dX4_addMeeting_51 rfl ?_
      refine w_iconst dX4_addMeeting_53 ?_
      refine w_iadd dX4_addMeeting_54 ?_
      refine w_aload_n dX4_addMeeting_55 rfl ?_
      refine w_gfA (ci := 4) (k := 9) dX4_addMeeting_56 f4_33 h_o rfl ?_
      refine w_iload dX4_addMeeting_59 rfl ?_
      obtain ⟨c5, h⟩ := h
      obtain ⟨c6, h⟩ := h
      refine w_iald dX4_addMeeting_61 rfl (a4_9 h_o) c5 c6 ?_
      obtain ⟨c7, h⟩ := h
      obtain ⟨c8, h⟩ := h
      have h := h _ rfl
      refine w_iast dX4_addMeeting_62 rfl (a4_9 h_o) c7 c8 ?_
      refine w_iload dX4_addMeeting_63 rfl ?_
      refine w_istore dX4_addMeeting_65 (Nat.le_of_ble_eq_true rfl) rfl ?_
      refine w_iinc dX4_addMeeting_67 rfl rfl ?_
      refine w_goto (tgt := 26) dX4_addMeeting_70 (by decide) ?_
      exact w_fgt (fgk (fgk (fgk (fgk (fgk (fgk (fgn))))))) h
theorem v_X4_addMeeting_73 {E : zE} {Q : Int → zM → Prop} {M : zM} (o : Nat) (v1 : Int) (v2 : Int) (v3 : Int) (v4 : Int) (h_o : zob o 4) (h : (0 ≤ zw v4) ∧ ((zw v4 < 16) ∧ (∀ M3 : zM, M3 = zs M (o + 10) (zw v4).toNat (zg M o 10) → ((0 ≤ zg M3 o 10) ∧ ((zg M3 o 10 < 16) ∧ (∀ M6 : zM, M6 = zs M3 (o + 7) (zg M3 o 10).toNat v1 → ((0 ≤ zg M6 o 10) ∧ ((zg M6 o 10 < 16) ∧ (∀ M9 : zM, M9 = zs M6 (o + 8) (zg M6 o 10).toNat v2 → ((0 ≤ zg M9 o 10) ∧ ((zg M9 o 10 < 16) ∧ (∀ M12 : zM, M12 = zs M9 (o + 9) (zg M9 o 10).toNat v3 → (∀ M13 : zM, M13 = zs M12 o 10 ((zg M12 o 10) + 1) → (Q (zg M12 o 10) M13)))))))))))))) : wp E 4 cX4_addMeeting (some .int) Q 73 [some (.ref o), some (zI v1), some (zI v2), some (zI v3), some (zI v4), none] [] M := by
  refine w_aload_n dX4_addMeeting_73 rfl ?_
  refine w_gfA (ci := 4) (k := 9) dX4_addMeeting_74 f4_33 h_o rfl ?_
  refine w_iload dX4_addMeeting_77 rfl ?_
  refine w_aload_n dX4_addMeeting_79 rfl ?_
  refine w_gfI (ci := 4) (k := 10) dX4_addMeeting_80 f4_65 h_o rfl ?_
  obtain ⟨c1, h⟩ := h
  obtain ⟨c2, h⟩ := h
  have h := h _ rfl
  refine w_iast dX4_addMeeting_83 rfl (a4_9 h_o) c1 c2 ?_
  refine w_aload_n dX4_addMeeting_84 rfl ?_
  refine w_gfA (ci := 4) (k := 6) dX4_addMeeting_85 f4_24 h_o rfl ?_
  refine w_aload_n dX4_addMeeting_88 rfl ?_
  refine w_gfI (ci := 4) (k := 10) dX4_addMeeting_89 f4_65 h_o rfl ?_
  refine w_iload_n dX4_addMeeting_92 rfl ?_
  obtain ⟨c4, h⟩ := h
  obtain ⟨c5, h⟩ := h
  have h := h _ rfl
  refine w_iast dX4_addMeeting_93 (zw_zg _ _ _) (a4_6 h_o) c4 c5 ?_
  refine w_aload_n dX4_addMeeting_94 rfl ?_
  refine w_gfA (ci := 4) (k := 7) dX4_addMeeting_95 f4_27 h_o rfl ?_
  refine w_aload_n dX4_addMeeting_98 rfl ?_
  refine w_gfI (ci := 4) (k := 10) dX4_addMeeting_99 f4_65 h_o rfl ?_
  refine w_iload_n dX4_addMeeting_102 rfl ?_
  obtain ⟨c7, h⟩ := h
  obtain ⟨c8, h⟩ := h
  have h := h _ rfl
  refine w_iast dX4_addMeeting_103 (zw_zg _ _ _) (a4_7 h_o) c7 c8 ?_
  refine w_aload_n dX4_addMeeting_104 rfl ?_
  refine w_gfA (ci := 4) (k := 8) dX4_addMeeting_105 f4_30 h_o rfl ?_
  refine w_aload_n dX4_addMeeting_108 rfl ?_
  refine w_gfI (ci := 4) (k := 10) dX4_addMeeting_109 f4_65 h_o rfl ?_
  refine w_iload_n dX4_addMeeting_112 rfl ?_
  obtain ⟨c10, h⟩ := h
  obtain ⟨c11, h⟩ := h
  have h := h _ rfl
  refine w_iast dX4_addMeeting_113 (zw_zg _ _ _) (a4_8 h_o) c10 c11 ?_
  refine w_aload_n dX4_addMeeting_114 rfl ?_
  refine w_dup dX4_addMeeting_115 rfl ?_
  refine w_gfI (ci := 4) (k := 10) dX4_addMeeting_116 f4_65 h_o rfl ?_
  refine w_dup_x1 dX4_addMeeting_119 rfl rfl ?_
  refine w_iconst dX4_addMeeting_120 ?_
  refine w_iadd dX4_addMeeting_121 ?_
  have h := h _ rfl
  refine w_pfI (ci := 4) (k := 10) dX4_addMeeting_122 f4_65 h_o rfl rfl rfl ?_
  exact w_ri rfl dX4_addMeeting_125 (zw_zg _ _ _) h
theorem e_X4_counts {d : Nat} {Q : Int → zM → Prop} {M : zM} (o : Nat) (v1 : Int) (h : wp (Ev d) 4 cX4_counts (some .boolean) Q 0 [some (.ref o), some (zI v1)] [] M) : Ev (d + 1) mX4_counts [.ref o, zI v1] M Q := ⟨kX4_counts, Nat.le_of_ble_eq_true rfl, h⟩
theorem v_X4_counts_0 {E : zE} {Q : Int → zM → Prop} {M : zM} (o : Nat) (v1 : Int) (h_o : zob o 4) (h : (0 ≤ zw v1) ∧ ((zw v1 < 16) ∧ ((0 ≤ zw v1) ∧ ((zw v1 < 16) ∧ (E mX4_lives [.ref o, zI (zg M (o + 7) (zw v1).toNat), zI (zg M (o + 9) (zw v1).toNat)] M (fun r5 M6 => (zw r5 = 0 → (Q 0 M6)) ∧ (¬ zw r5 = 0 → ((0 ≤ zw v1) ∧ ((zw v1 < 16) ∧ ((0 ≤ zw v1) ∧ ((zw v1 < 16) ∧ (E mX4_lives [.ref o, zI (zg M6 (o + 8) (zw v1).toNat), zI (zg M6 (o + 9) (zw v1).toNat)] M6 (fun r11 M12 => (zw r11 = 0 → (Q 0 M12)) ∧ (¬ zw r11 = 0 → (Q 1 M12))))))))))))))) : wp E 4 cX4_counts (some .boolean) Q 0 [some (.ref o), some (zI v1)] [] M := by
  refine w_aload_n dX4_counts_0 rfl ?_
  refine w_aload_n dX4_counts_1 rfl ?_
  refine w_gfA (ci := 4) (k := 6) dX4_counts_2 f4_24 h_o rfl ?_
  refine w_iload_n dX4_counts_5 rfl ?_
  obtain ⟨c1, h⟩ := h
  obtain ⟨c2, h⟩ := h
  refine w_iald dX4_counts_6 rfl (a4_6 h_o) c1 c2 ?_
  refine w_aload_n dX4_counts_7 rfl ?_
  refine w_gfA (ci := 4) (k := 8) dX4_counts_8 f4_30 h_o rfl ?_
  refine w_iload_n dX4_counts_11 rfl ?_
  obtain ⟨c3, h⟩ := h
  obtain ⟨c4, h⟩ := h
  refine w_iald dX4_counts_12 rfl (a4_8 h_o) c3 c4 ?_
  refine w_invVi [_, _] dX4_counts_13 l4_71 kX4_lives rfl rfl (Nat.le_of_ble_eq_true rfl) (Or.inr rfl) h_o h (fun r5 M6 h => ?_)
  refine w_if_eq (tgt := 42) dX4_counts_16 (by decide) rfl (fun q => ?_) (fun q => ?_)
  · have h := h.1 q
    refine w_iconst dX4_counts_42 ?_
    exact w_rz rfl dX4_counts_43 zq_0 (by decide) h
  · have h := h.2 q
    refine w_aload_n dX4_counts_19 rfl ?_
    refine w_aload_n dX4_counts_20 rfl ?_
    refine w_gfA (ci := 4) (k := 7) dX4_counts_21 f4_27 h_o rfl ?_
    refine w_iload_n dX4_counts_24 rfl ?_
    obtain ⟨c7, h⟩ := h
    obtain ⟨c8, h⟩ := h
    refine w_iald dX4_counts_25 rfl (a4_7 h_o) c7 c8 ?_
    refine w_aload_n dX4_counts_26 rfl ?_
    refine w_gfA (ci := 4) (k := 8) dX4_counts_27 f4_30 h_o rfl ?_
    refine w_iload_n dX4_counts_30 rfl ?_
    obtain ⟨c9, h⟩ := h
    obtain ⟨c10, h⟩ := h
    refine w_iald dX4_counts_31 rfl (a4_8 h_o) c9 c10 ?_
    refine w_invVi [_, _] dX4_counts_32 l4_71 kX4_lives rfl rfl (Nat.le_of_ble_eq_true rfl) (Or.inr rfl) h_o h (fun r11 M12 h => ?_)
    refine w_if_eq (tgt := 42) dX4_counts_35 (by decide) rfl (fun q => ?_) (fun q => ?_)
    · have h := h.1 q
      refine w_iconst dX4_counts_42 ?_
      exact w_rz rfl dX4_counts_43 zq_0 (by decide) h
    · have h := h.2 q
      refine w_iconst dX4_counts_38 ?_
      refine w_goto (tgt := 43) dX4_counts_39 (by decide) ?_
      exact w_rz rfl dX4_counts_43 zq_1 (by decide) h
theorem e_X4_countsBy {d : Nat} {Q : Int → zM → Prop} {M : zM} (o : Nat) (v1 : Int) (v2 : Int) (h : wp (Ev d) 4 cX4_countsBy (some .boolean) Q 0 [some (.ref o), some (zI v1), some (zI v2)] [] M) : Ev (d + 1) mX4_countsBy [.ref o, zI v1, zI v2] M Q := ⟨kX4_countsBy, Nat.le_of_ble_eq_true rfl, h⟩
theorem v_X4_countsBy_0 {E : zE} {Q : Int → zM → Prop} {M : zM} (o : Nat) (v1 : Int) (v2 : Int) (h_o : zob o 4) (h : (0 ≤ zw v1) ∧ ((zw v1 < 16) ∧ ((zw v2 < zg M (o + 9) (zw v1).toNat → (Q 0 M)) ∧ (¬ zw v2 < zg M (o + 9) (zw v1).toNat → (E mX4_counts [.ref o, zI v1] M (fun r3 M4 => (zw r3 = 0 → (Q 0 M4)) ∧ (¬ zw r3 = 0 → (Q 1 M4)))))))) : wp E 4 cX4_countsBy (some .boolean) Q 0 [some (.ref o), some (zI v1), some (zI v2)] [] M := by
  refine w_aload_n dX4_countsBy_0 rfl ?_
  refine w_gfA (ci := 4) (k := 8) dX4_countsBy_1 f4_30 h_o rfl ?_
  refine w_iload_n dX4_countsBy_4 rfl ?_
  obtain ⟨c1, h⟩ := h
  obtain ⟨c2, h⟩ := h
  refine w_iald dX4_countsBy_5 rfl (a4_8 h_o) c1 c2 ?_
  refine w_iload_n dX4_countsBy_6 rfl ?_
  refine w_icmp_gt (tgt := 22) dX4_countsBy_7 (by decide) (zw_zg _ _ _) rfl (fun q => ?_) (fun q => ?_)
  · have h := h.1 q
    refine w_iconst dX4_countsBy_22 ?_
    exact w_rz rfl dX4_countsBy_23 zq_0 (by decide) h
  · have h := h.2 q
    refine w_aload_n dX4_countsBy_10 rfl ?_
    refine w_iload_n dX4_countsBy_11 rfl ?_
    refine w_invVi [_] dX4_countsBy_12 l4_79 kX4_counts rfl rfl (Nat.le_of_ble_eq_true rfl) (Or.inr rfl) h_o h (fun r3 M4 h => ?_)
    refine w_if_eq (tgt := 22) dX4_countsBy_15 (by decide) rfl (fun q => ?_) (fun q => ?_)
    · have h := h.1 q
      refine w_iconst dX4_countsBy_22 ?_
      exact w_rz rfl dX4_countsBy_23 zq_0 (by decide) h
    · have h := h.2 q
      refine w_iconst dX4_countsBy_18 ?_
      refine w_goto (tgt := 23) dX4_countsBy_19 (by decide) ?_
      exact w_rz rfl dX4_countsBy_23 zq_1 (by decide) h
theorem e_X4_learnUpTo {d : Nat} {Q : Int → zM → Prop} {M : zM} (o : Nat) (v1 : Int) (h : wp (Ev d) 4 cX4_learnUpTo (none) Q 0 [some (.ref o), some (zI v1), none] [] M) : Ev (d + 1) mX4_learnUpTo [.ref o, zI v1] M Q := ⟨kX4_learnUpTo, Nat.le_of_ble_eq_true rfl, h⟩
theorem v_X4_learnUpTo_0 {E : zE} {Q : Int → zM → Prop} {M : zM} (o : Nat) (v1 : Int) (h_o : zob o 4) (h : E mX4_knowOneself [.ref o] M (fun r1 M2 => wp E 4 cX4_learnUpTo (none) Q 6 [some (.ref o), some (zI v1), some (zI 0)] [] M2)) : wp E 4 cX4_learnUpTo (none) Q 0 [some (.ref o), some (zI v1), none] [] M := by
  refine w_aload_n dX4_learnUpTo_0 rfl ?_
  refine w_invVv [] dX4_learnUpTo_1 l4_82 kX4_knowOneself rfl rfl (Nat.le_of_ble_eq_true rfl) rfl h_o h (fun r1 M2 h => ?_)
  refine w_iconst dX4_learnUpTo_4 ?_
  refine w_istore_n dX4_learnUpTo_5 (Nat.le_of_ble_eq_true rfl) rfl ?_
  exact w_fgt (fgk (fgk (fgk (fgn)))) h
theorem v_X4_learnUpTo_6 {E : zE} {Q : Int → zM → Prop} {M : zM} (o : Nat) (v1 : Int) (v2 : Int) (h_o : zob o 4) (h : (zw v2 < zg M o 10 → ((0 ≤ zw v2) ∧ ((zw v2 < 16) ∧ (E mX4_countsBy [.ref o, zI (zg M (o + 10) (zw v2).toNat), zI v1] M (fun r3 M4 => (zw r3 = 0 → (wp E 4 cX4_learnUpTo (none) Q 6 [some (.ref o), some (zI v1), some (zI (v2 + 1))] [] M4)) ∧ (¬ zw r3 = 0 → ((0 ≤ zw v2) ∧ ((zw v2 < 16) ∧ (E mX4_greet [.ref o, zI (zg M4 (o + 10) (zw v2).toNat)] M4 (fun r7 M8 => wp E 4 cX4_learnUpTo (none) Q 6 [some (.ref o), some (zI v1), some (zI (v2 + 1))] [] M8)))))))))) ∧ (¬ zw v2 < zg M o 10 → (Q 0 M))) : wp E 4 cX4_learnUpTo (none) Q 6 [some (.ref o), some (zI v1), some (zI v2)] [] M := by
  refine w_iload_n dX4_learnUpTo_6 rfl ?_
  refine w_aload_n dX4_learnUpTo_7 rfl ?_
  refine w_gfI (ci := 4) (k := 10) dX4_learnUpTo_8 f4_65 h_o rfl ?_
  refine w_icmp_ge (tgt := 44) dX4_learnUpTo_11 (by decide) rfl (zw_zg _ _ _) (fun q => ?_) (fun q => ?_)
  · have h := h.2 q
    exact w_rv rfl dX4_learnUpTo_44 h
  · have h := h.1 q
    refine w_aload_n dX4_learnUpTo_14 rfl ?_
    refine w_aload_n dX4_learnUpTo_15 rfl ?_
    refine w_gfA (ci := 4) (k := 9) dX4_learnUpTo_16 f4_33 h_o rfl ?_
    refine w_iload_n dX4_learnUpTo_19 rfl ?_
    obtain ⟨c1, h⟩ := h
    obtain ⟨c2, h⟩ := h
    refine w_iald dX4_learnUpTo_20 rfl (a4_9 h_o) c1 c2 ?_
    refine w_iload_n dX4_learnUpTo_21 rfl ?_
    refine w_invVi [_, _] dX4_learnUpTo_22 l4_85 kX4_countsBy rfl rfl (Nat.le_of_ble_eq_true rfl) (Or.inr rfl) h_o h (fun r3 M4 h => ?_)
    refine w_if_eq (tgt := 38) dX4_learnUpTo_25 (by decide) rfl (fun q => ?_) (fun q => ?_)
    · have h := h.1 q
      refine w_iinc dX4_learnUpTo_38 rfl rfl ?_
      refine w_goto (tgt := 6) dX4_learnUpTo_41 (by decide) ?_
      exact w_fgt (fgk (fgk (fgk (fgn)))) h
    · have h := h.2 q
      refine w_aload_n dX4_learnUpTo_28 rfl ?_
      refine w_aload_n dX4_learnUpTo_29 rfl ?_
      refine w_gfA (ci := 4) (k := 9) dX4_learnUpTo_30 f4_33 h_o rfl ?_
      refine w_iload_n dX4_learnUpTo_33 rfl ?_
      obtain ⟨c5, h⟩ := h
      obtain ⟨c6, h⟩ := h
      refine w_iald dX4_learnUpTo_34 rfl (a4_9 h_o) c5 c6 ?_
      refine w_invVv [_] dX4_learnUpTo_35 l4_88 kX4_greet rfl rfl (Nat.le_of_ble_eq_true rfl) rfl h_o h (fun r7 M8 h => ?_)
      refine w_iinc dX4_learnUpTo_38 rfl rfl ?_
      refine w_goto (tgt := 6) dX4_learnUpTo_41 (by decide) ?_
      exact w_fgt (fgk (fgk (fgk (fgn)))) h
theorem e_X4_knowOneself {d : Nat} {Q : Int → zM → Prop} {M : zM} (o : Nat) (h : wp (Ev d) 4 cX4_knowOneself (none) Q 0 [some (.ref o), none] [] M) : Ev (d + 1) mX4_knowOneself [.ref o] M Q := ⟨kX4_knowOneself, Nat.le_of_ble_eq_true rfl, h⟩
theorem v_X4_knowOneself_0 {E : zE} {Q : Int → zM → Prop} {M : zM} (o : Nat) (h_o : zob o 4) (h : wp E 4 cX4_knowOneself (none) Q 2 [some (.ref o), some (zI 0)] [] M) : wp E 4 cX4_knowOneself (none) Q 0 [some (.ref o), none] [] M := by
  refine w_iconst dX4_knowOneself_0 ?_
  refine w_istore_n dX4_knowOneself_1 (Nat.le_of_ble_eq_true rfl) rfl ?_
  exact w_fgt (fgk (fgk (fgn))) h
theorem v_X4_knowOneself_2 {E : zE} {Q : Int → zM → Prop} {M : zM} (o : Nat) (v1 : Int) (h_o : zob o 4) (h : (zw v1 < zg M o 5 → ((0 ≤ zw v1) ∧ ((zw v1 < 12) ∧ (∀ M3 : zM, M3 = zs M (o + 15) (zw v1).toNat (z_shl 1 v1) → (wp E 4 cX4_knowOneself (none) Q 2 [some (.ref o), some (zI (v1 + 1))] [] M3))))) ∧ (¬ zw v1 < zg M o 5 → (Q 0 M))) : wp E 4 cX4_knowOneself (none) Q 2 [some (.ref o), some (zI v1)] [] M := by
  refine w_iload_n dX4_knowOneself_2 rfl ?_
  refine w_aload_n dX4_knowOneself_3 rfl ?_
  refine w_gfI (ci := 4) (k := 5) dX4_knowOneself_4 f4_61 h_o rfl ?_
  refine w_icmp_ge (tgt := 25) dX4_knowOneself_7 (by decide) rfl (zw_zg _ _ _) (fun q => ?_) (fun q => ?_)
  · have h := h.2 q
    exact w_rv rfl dX4_knowOneself_25 h
  · have h := h.1 q
    refine w_aload_n dX4_knowOneself_10 rfl ?_
    refine w_gfA (ci := 4) (k := 14) dX4_knowOneself_11 f4_42 h_o rfl ?_
    refine w_iload_n dX4_knowOneself_14 rfl ?_
    refine w_iconst dX4_knowOneself_15 ?_
    refine w_iload_n dX4_knowOneself_16 rfl ?_
    refine w_ishl dX4_knowOneself_17 ?_
    obtain ⟨c1, h⟩ := h
    obtain ⟨c2, h⟩ := h
    have h := h _ rfl
    refine w_iast dX4_knowOneself_18 rfl (a4_14 h_o) c1 c2 ?_
    refine w_iinc dX4_knowOneself_19 rfl rfl ?_
    refine w_goto (tgt := 2) dX4_knowOneself_22 (by decide) ?_
    exact w_fgt (fgk (fgk (fgn))) h
theorem e_X4_greet {d : Nat} {Q : Int → zM → Prop} {M : zM} (o : Nat) (v1 : Int) (h : wp (Ev d) 4 cX4_greet (none) Q 0 [some (.ref o), some (zI v1), none, none, none, none] [] M) : Ev (d + 1) mX4_greet [.ref o, zI v1] M Q := ⟨kX4_greet, Nat.le_of_ble_eq_true rfl, h⟩
theorem v_X4_greet_0 {E : zE} {Q : Int → zM → Prop} {M : zM} (o : Nat) (v1 : Int) (h_o : zob o 4) (h : (0 ≤ zw v1) ∧ ((zw v1 < 16) ∧ ((0 ≤ zw v1) ∧ ((zw v1 < 16) ∧ ((0 ≤ zg M (o + 7) (zw v1).toNat) ∧ ((zg M (o + 7) (zw v1).toNat < 12) ∧ ((0 ≤ zg M (o + 8) (zw v1).toNat) ∧ ((zg M (o + 8) (zw v1).toNat < 12) ∧ ((zg M o 11 = 1 → (wp E 4 cX4_greet (none) Q 53 [some (.ref o), none, some (zI (zg M (o + 7) (zw v1).toNat)), some (zI (zg M (o + 8) (zw v1).toNat)), some (zI (zg M (o + 15) (zg M (o + 7) (zw v1).toNat).toNat)), some (zI (zg M (o + 15) (zg M (o + 8) (zw v1).toNat).toNat))] [zI (zg M (o + 15) (zg M (o + 8) (zw v1).toNat).toNat), zI (zg M (o + 15) (zg M (o + 7) (zw v1).toNat).toNat), zI (zg M (o + 7) (zw v1).toNat), .ref (o + 15)] M)) ∧ (¬ zg M o 11 = 1 → (wp E 4 cX4_greet (none) Q 53 [some (.ref o), none, some (zI (zg M (o + 7) (zw v1).toNat)), some (zI (zg M (o + 8) (zw v1).toNat)), some (zI (zg M (o + 15) (zg M (o + 7) (zw v1).toNat).toNat)), some (zI (zg M (o + 15) (zg M (o + 8) (zw v1).toNat).toNat))] [zI (z_shl 1 (zg M (o + 8) (zw v1).toNat)), zI (zg M (o + 15) (zg M (o + 7) (zw v1).toNat).toNat), zI (zg M (o + 7) (zw v1).toNat), .ref (o + 15)] M))))))))))) : wp E 4 cX4_greet (none) Q 0 [some (.ref o), some (zI v1), none, none, none, none] [] M := by
  refine w_aload_n dX4_greet_0 rfl ?_
  refine w_gfA (ci := 4) (k := 6) dX4_greet_1 f4_24 h_o rfl ?_
  refine w_iload_n dX4_greet_4 rfl ?_
  obtain ⟨c1, h⟩ := h
  obtain ⟨c2, h⟩ := h
  refine w_iald dX4_greet_5 rfl (a4_6 h_o) c1 c2 ?_
  refine w_istore_n dX4_greet_6 (Nat.le_of_ble_eq_true rfl) rfl ?_
  refine w_aload_n dX4_greet_7 rfl ?_
  refine w_gfA (ci := 4) (k := 7) dX4_greet_8 f4_27 h_o rfl ?_
  refine w_iload_n dX4_greet_11 rfl ?_
  obtain ⟨c3, h⟩ := h
  obtain ⟨c4, h⟩ := h
  refine w_iald dX4_greet_12 rfl (a4_7 h_o) c3 c4 ?_
  refine w_istore_n dX4_greet_13 (Nat.le_of_ble_eq_true rfl) rfl ?_
  refine w_aload_n dX4_greet_14 rfl ?_
  refine w_gfA (ci := 4) (k := 14) dX4_greet_15 f4_42 h_o rfl ?_
  refine w_iload_n dX4_greet_18 rfl ?_
  obtain ⟨c5, h⟩ := h
  obtain ⟨c6, h⟩ := h
  refine w_iald dX4_greet_19 (zw_zg _ _ _) (a4_14 h_o) c5 c6 ?_
  refine w_istore dX4_greet_20 (Nat.le_of_ble_eq_true rfl) rfl ?_
  refine w_aload_n dX4_greet_22 rfl ?_
  refine w_gfA (ci := 4) (k := 14) dX4_greet_23 f4_42 h_o rfl ?_
  refine w_iload_n dX4_greet_26 rfl ?_
  obtain ⟨c7, h⟩ := h
  obtain ⟨c8, h⟩ := h
  refine w_iald dX4_greet_27 (zw_zg _ _ _) (a4_14 h_o) c7 c8 ?_
  refine w_istore dX4_greet_28 (Nat.le_of_ble_eq_true rfl) rfl ?_
  refine w_aload_n dX4_greet_30 rfl ?_
  refine w_gfA (ci := 4) (k := 14) dX4_greet_31 f4_42 h_o rfl ?_
  refine w_iload_n dX4_greet_34 rfl ?_
  refine w_iload dX4_greet_35 rfl ?_
  refine w_aload_n dX4_greet_37 rfl ?_
  refine w_gfI (ci := 4) (k := 11) dX4_greet_38 f4_68 h_o rfl ?_
  refine w_iconst dX4_greet_41 ?_
  refine w_icmp_ne (tgt := 50) dX4_greet_42 (by decide) (zw_zg _ _ _) zq_1 (fun q => ?_) (fun q => ?_)
  · have h := h.2 q
    refine w_iconst dX4_greet_50 ?_
    refine w_iload_n dX4_greet_51 rfl ?_
    refine w_ishl dX4_greet_52 ?_
    exact w_fgt (fgk (fgd (fgk (fgk (fgk (fgk (fgn))))))) h
  · have h := h.1 q
    refine w_iload dX4_greet_45 rfl ?_
    refine w_goto (tgt := 53) dX4_greet_47 (by decide) ?_
    exact w_fgt (fgk (fgd (fgk (fgk (fgk (fgk (fgn))))))) h
theorem v_X4_greet_53 {E : zE} {Q : Int → zM → Prop} {M : zM} (o : Nat) (v2 : Int) (v3 : Int) (v4 : Int) (v5 : Int) (s0 : Int) (s1 : Int) (s2 : Int) (h_o : zob o 4) (h : (0 ≤ zw s2) ∧ ((zw s2 < 12) ∧ (∀ M3 : zM, M3 = zs M (o + 15) (zw s2).toNat (z_or s1 s0) → ((zg M3 o 11 = 1 → ((0 ≤ zw v3) ∧ ((zw v3 < 12) ∧ (∀ M9 : zM, M9 = zs M3 (o + 15) (zw v3).toNat (z_or v5 v4) → (Q 0 M9))))) ∧ (¬ zg M3 o 11 = 1 → ((0 ≤ zw v3) ∧ ((zw v3 < 12) ∧ (∀ M6 : zM, M6 = zs M3 (o + 15) (zw v3).toNat (z_or v5 (z_shl 1 v2)) → (Q 0 M6))))))))) : wp E 4 cX4_greet (none) Q 53 [some (.ref o), none, some (zI v2), some (zI v3), some (zI v4), some (zI v5)] [zI s0, zI s1, zI s2, .ref (o + 15)] M := by
  refine w_ior dX4_greet_53 ?_
  obtain ⟨c1, h⟩ := h
  obtain ⟨c2, h⟩ := h
  have h := h _ rfl
  refine w_iast dX4_greet_54 rfl (a4_14 h_o) c1 c2 ?_
  refine w_aload_n dX4_greet_55 rfl ?_
  refine w_gfA (ci := 4) (k := 14) dX4_greet_56 f4_42 h_o rfl ?_
  refine w_iload_n dX4_greet_59 rfl ?_
  refine w_iload dX4_greet_60 rfl ?_
  refine w_aload_n dX4_greet_62 rfl ?_
  refine w_gfI (ci := 4) (k := 11) dX4_greet_63 f4_68 h_o rfl ?_
  refine w_iconst dX4_greet_66 ?_
  refine w_icmp_ne (tgt := 75) dX4_greet_67 (by decide) (zw_zg _ _ _) zq_1 (fun q => ?_) (fun q => ?_)
  · have h := h.2 q
    refine w_iconst dX4_greet_75 ?_
    refine w_iload_n dX4_greet_76 rfl ?_
    refine w_ishl dX4_greet_77 ?_
    refine w_ior dX4_greet_78 ?_
    obtain ⟨c4, h⟩ := h
    obtain ⟨c5, h⟩ := h
    have h := h _ rfl
    refine w_iast dX4_greet_79 rfl (a4_14 h_o) c4 c5 ?_
    exact w_rv rfl dX4_greet_80 h
  · have h := h.1 q
    refine w_iload dX4_greet_70 rfl ?_
    refine w_goto (tgt := 78) dX4_greet_72 (by decide) ?_
    refine w_ior dX4_greet_78 ?_
    obtain ⟨c7, h⟩ := h
    obtain ⟨c8, h⟩ := h
    have h := h _ rfl
    refine w_iast dX4_greet_79 rfl (a4_14 h_o) c7 c8 ?_
    exact w_rv rfl dX4_greet_80 h
theorem e_X4_bearersOf {d : Nat} {Q : Int → zM → Prop} {M : zM} (o : Nat) (v1 : Int) (h : wp (Ev d) 4 cX4_bearersOf (some .int) Q 0 [some (.ref o), some (zI v1), none, none] [] M) : Ev (d + 1) mX4_bearersOf [.ref o, zI v1] M Q := ⟨kX4_bearersOf, Nat.le_of_ble_eq_true rfl, h⟩
theorem v_X4_bearersOf_0 {E : zE} {Q : Int → zM → Prop} {M : zM} (o : Nat) (v1 : Int) (h_o : zob o 4) (h : wp E 4 cX4_bearersOf (some .int) Q 4 [some (.ref o), some (zI v1), some (zI 0), some (zI 0)] [] M) : wp E 4 cX4_bearersOf (some .int) Q 0 [some (.ref o), some (zI v1), none, none] [] M := by
  refine w_iconst dX4_bearersOf_0 ?_
  refine w_istore_n dX4_bearersOf_1 (Nat.le_of_ble_eq_true rfl) rfl ?_
  refine w_iconst dX4_bearersOf_2 ?_
  refine w_istore_n dX4_bearersOf_3 (Nat.le_of_ble_eq_true rfl) rfl ?_
  exact w_fgt (fgk (fgk (fgk (fgk (fgn))))) h
theorem v_X4_bearersOf_4 {E : zE} {Q : Int → zM → Prop} {M : zM} (o : Nat) (v1 : Int) (v2 : Int) (v3 : Int) (h_o : zob o 4) (h : (zw v3 < zg M o 5 → ((0 ≤ zw v3) ∧ ((zw v3 < 12) ∧ ((zg M (o + 4) (zw v3).toNat = zw v1 → (wp E 4 cX4_bearersOf (some .int) Q 4 [some (.ref o), some (zI v1), some (zI (z_or v2 (z_shl 1 v3))), some (zI (v3 + 1))] [] M)) ∧ (¬ zg M (o + 4) (zw v3).toNat = zw v1 → (wp E 4 cX4_bearersOf (some .int) Q 4 [some (.ref o), some (zI v1), some (zI v2), some (zI (v3 + 1))] [] M)))))) ∧ (¬ zw v3 < zg M o 5 → (Q (zw v2) M))) : wp E 4 cX4_bearersOf (some .int) Q 4 [some (.ref o), some (zI v1), some (zI v2), some (zI v3)] [] M := by
  refine w_iload_n dX4_bearersOf_4 rfl ?_
  refine w_aload_n dX4_bearersOf_5 rfl ?_
  refine w_gfI (ci := 4) (k := 5) dX4_bearersOf_6 f4_61 h_o rfl ?_
  refine w_icmp_ge (tgt := 34) dX4_bearersOf_9 (by decide) rfl (zw_zg _ _ _) (fun q => ?_) (fun q => ?_)
  · have h := h.2 q
    refine w_iload_n dX4_bearersOf_34 rfl ?_
    exact w_ri rfl dX4_bearersOf_35 rfl h
  · have h := h.1 q
    refine w_aload_n dX4_bearersOf_12 rfl ?_
    refine w_gfA (ci := 4) (k := 3) dX4_bearersOf_13 f4_18 h_o rfl ?_
    refine w_iload_n dX4_bearersOf_16 rfl ?_
    obtain ⟨c1, h⟩ := h
    obtain ⟨c2, h⟩ := h
    refine w_iald dX4_bearersOf_17 rfl (a4_3 h_o) c1 c2 ?_
    refine w_iload_n dX4_bearersOf_18 rfl ?_
    refine w_icmp_ne (tgt := 28) dX4_bearersOf_19 (by decide) (zw_zg _ _ _) rfl (fun q => ?_) (fun q => ?_)
    · have h := h.2 q
      refine w_iinc dX4_bearersOf_28 rfl rfl ?_
      refine w_goto (tgt := 4) dX4_bearersOf_31 (by decide) ?_
      exact w_fgt (fgk (fgk (fgk (fgk (fgn))))) h
    · have h := h.1 q
      refine w_iload_n dX4_bearersOf_22 rfl ?_
      refine w_iconst dX4_bearersOf_23 ?_
      refine w_iload_n dX4_bearersOf_24 rfl ?_
      refine w_ishl dX4_bearersOf_25 ?_
      refine w_ior dX4_bearersOf_26 ?_
      refine w_istore_n dX4_bearersOf_27 (Nat.le_of_ble_eq_true rfl) rfl ?_
      refine w_iinc dX4_bearersOf_28 rfl rfl ?_
      refine w_goto (tgt := 4) dX4_bearersOf_31 (by decide) ?_
      exact w_fgt (fgk (fgk (fgk (fgk (fgn))))) h
theorem e_X4_namedPeople {d : Nat} {Q : Int → zM → Prop} {M : zM} (o : Nat) (h : wp (Ev d) 4 cX4_namedPeople (some .int) Q 0 [some (.ref o), none, none] [] M) : Ev (d + 1) mX4_namedPeople [.ref o] M Q := ⟨kX4_namedPeople, Nat.le_of_ble_eq_true rfl, h⟩
theorem v_X4_namedPeople_0 {E : zE} {Q : Int → zM → Prop} {M : zM} (o : Nat) (h_o : zob o 4) (h : wp E 4 cX4_namedPeople (some .int) Q 4 [some (.ref o), some (zI 0), some (zI 0)] [] M) : wp E 4 cX4_namedPeople (some .int) Q 0 [some (.ref o), none, none] [] M := by
  refine w_iconst dX4_namedPeople_0 ?_
  refine w_istore_n dX4_namedPeople_1 (Nat.le_of_ble_eq_true rfl) rfl ?_
  refine w_iconst dX4_namedPeople_2 ?_
  refine w_istore_n dX4_namedPeople_3 (Nat.le_of_ble_eq_true rfl) rfl ?_
  exact w_fgt (fgk (fgk (fgk (fgn)))) h
theorem v_X4_namedPeople_4 {E : zE} {Q : Int → zM → Prop} {M : zM} (o : Nat) (v1 : Int) (v2 : Int) (h_o : zob o 4) (h : (zw v2 < zg M o 5 → ((0 ≤ zw v2) ∧ ((zw v2 < 12) ∧ ((zg M (o + 4) (zw v2).toNat = (-1) → (wp E 4 cX4_namedPeople (some .int) Q 4 [some (.ref o), some (zI v1), some (zI (v2 + 1))] [] M)) ∧ (¬ zg M (o + 4) (zw v2).toNat = (-1) → (wp E 4 cX4_namedPeople (some .int) Q 4 [some (.ref o), some (zI (v1 + 1)), some (zI (v2 + 1))] [] M)))))) ∧ (¬ zw v2 < zg M o 5 → (Q (zw v1) M))) : wp E 4 cX4_namedPeople (some .int) Q 4 [some (.ref o), some (zI v1), some (zI v2)] [] M := by
  refine w_iload_n dX4_namedPeople_4 rfl ?_
  refine w_aload_n dX4_namedPeople_5 rfl ?_
  refine w_gfI (ci := 4) (k := 5) dX4_namedPeople_6 f4_61 h_o rfl ?_
  refine w_icmp_ge (tgt := 31) dX4_namedPeople_9 (by decide) rfl (zw_zg _ _ _) (fun q => ?_) (fun q => ?_)
  · have h := h.2 q
    refine w_iload_n dX4_namedPeople_31 rfl ?_
    exact w_ri rfl dX4_namedPeople_32 rfl h
  · have h := h.1 q
    refine w_aload_n dX4_namedPeople_12 rfl ?_
    refine w_gfA (ci := 4) (k := 3) dX4_namedPeople_13 f4_18 h_o rfl ?_
    refine w_iload_n dX4_namedPeople_16 rfl ?_
    obtain ⟨c1, h⟩ := h
    obtain ⟨c2, h⟩ := h
    refine w_iald dX4_namedPeople_17 rfl (a4_3 h_o) c1 c2 ?_
    refine w_iconst dX4_namedPeople_18 ?_
    refine w_icmp_eq (tgt := 25) dX4_namedPeople_19 (by decide) (zw_zg _ _ _) zq_m1 (fun q => ?_) (fun q => ?_)
    · have h := h.1 q
      refine w_iinc dX4_namedPeople_25 rfl rfl ?_
      refine w_goto (tgt := 4) dX4_namedPeople_28 (by decide) ?_
      exact w_fgt (fgk (fgk (fgk (fgn)))) h
    · have h := h.2 q
      refine w_iinc dX4_namedPeople_22 rfl rfl ?_
      refine w_iinc dX4_namedPeople_25 rfl rfl ?_
      refine w_goto (tgt := 4) dX4_namedPeople_28 (by decide) ?_
      exact w_fgt (fgk (fgk (fgk (fgn)))) h
theorem e_X4_isBearer {d : Nat} {Q : Int → zM → Prop} {M : zM} (o : Nat) (v1 : Int) (v2 : Int) (v3 : Int) (h : wp (Ev d) 4 cX4_isBearer (some .boolean) Q 0 [some (.ref o), some (zI v1), some (zI v2), some (zI v3)] [] M) : Ev (d + 1) mX4_isBearer [.ref o, zI v1, zI v2, zI v3] M Q := ⟨kX4_isBearer, Nat.le_of_ble_eq_true rfl, h⟩
theorem v_X4_isBearer_0 {E : zE} {Q : Int → zM → Prop} {M : zM} (o : Nat) (v1 : Int) (v2 : Int) (v3 : Int) (h_o : zob o 4) (h : (0 ≤ zw v1) ∧ ((zw v1 < 12) ∧ ((zg M (o + 4) (zw v1).toNat = zw v2 → ((0 ≤ zw v1) ∧ ((zw v1 < 12) ∧ ((zw v3 < zg M (o + 2) (zw v1).toNat → (Q 0 M)) ∧ (¬ zw v3 < zg M (o + 2) (zw v1).toNat → (Q 1 M)))))) ∧ (¬ zg M (o + 4) (zw v1).toNat = zw v2 → (Q 0 M))))) : wp E 4 cX4_isBearer (some .boolean) Q 0 [some (.ref o), some (zI v1), some (zI v2), some (zI v3)] [] M := by
  refine w_aload_n dX4_isBearer_0 rfl ?_
  refine w_gfA (ci := 4) (k := 3) dX4_isBearer_1 f4_18 h_o rfl ?_
  refine w_iload_n dX4_isBearer_4 rfl ?_
  obtain ⟨c1, h⟩ := h
  obtain ⟨c2, h⟩ := h
  refine w_iald dX4_isBearer_5 rfl (a4_3 h_o) c1 c2 ?_
  refine w_iload_n dX4_isBearer_6 rfl ?_
  refine w_icmp_ne (tgt := 24) dX4_isBearer_7 (by decide) (zw_zg _ _ _) rfl (fun q => ?_) (fun q => ?_)
  · have h := h.2 q
    refine w_iconst dX4_isBearer_24 ?_
    exact w_rz rfl dX4_isBearer_25 zq_0 (by decide) h
  · have h := h.1 q
    refine w_aload_n dX4_isBearer_10 rfl ?_
    refine w_gfA (ci := 4) (k := 1) dX4_isBearer_11 f4_9 h_o rfl ?_
    refine w_iload_n dX4_isBearer_14 rfl ?_
    obtain ⟨c3, h⟩ := h
    obtain ⟨c4, h⟩ := h
    refine w_iald dX4_isBearer_15 rfl (a4_1 h_o) c3 c4 ?_
    refine w_iload_n dX4_isBearer_16 rfl ?_
    refine w_icmp_gt (tgt := 24) dX4_isBearer_17 (by decide) (zw_zg _ _ _) rfl (fun q => ?_) (fun q => ?_)
    · have h := h.1 q
      refine w_iconst dX4_isBearer_24 ?_
      exact w_rz rfl dX4_isBearer_25 zq_0 (by decide) h
    · have h := h.2 q
      refine w_iconst dX4_isBearer_20 ?_
      refine w_goto (tgt := 25) dX4_isBearer_21 (by decide) ?_
      exact w_rz rfl dX4_isBearer_25 zq_1 (by decide) h
theorem e_X4_isFamed {d : Nat} {Q : Int → zM → Prop} {M : zM} (o : Nat) (v1 : Int) (v2 : Int) (h : wp (Ev d) 4 cX4_isFamed (some .boolean) Q 0 [some (.ref o), some (zI v1), some (zI v2), none] [] M) : Ev (d + 1) mX4_isFamed [.ref o, zI v1, zI v2] M Q := ⟨kX4_isFamed, Nat.le_of_ble_eq_true rfl, h⟩
theorem v_X4_isFamed_0 {E : zE} {Q : Int → zM → Prop} {M : zM} (o : Nat) (v1 : Int) (v2 : Int) (h_o : zob o 4) (h : wp E 4 cX4_isFamed (some .boolean) Q 2 [some (.ref o), some (zI v1), some (zI v2), some (zI 0)] [] M) : wp E 4 cX4_isFamed (some .boolean) Q 0 [some (.ref o), some (zI v1), some (zI v2), none] [] M := by
  refine w_iconst dX4_isFamed_0 ?_
  refine w_istore_n dX4_isFamed_1 (Nat.le_of_ble_eq_true rfl) rfl ?_
  exact w_fgt (fgk (fgk (fgk (fgk (fgn))))) h
theorem v_X4_isFamed_2 {E : zE} {Q : Int → zM → Prop} {M : zM} (o : Nat) (v1 : Int) (v2 : Int) (v3 : Int) (h_o : zob o 4) (h : (zw v3 < zg M o 5 → ((0 ≤ zw v1) ∧ ((zw v1 < 12) ∧ ((zg M (o + 14) (zw v1).toNat = 1 → (E mX4_isBearer [.ref o, zI v3, zI v1, zI v2] M (fun r3 M4 => (zw r3 = 0 → (wp E 4 cX4_isFamed (some .boolean) Q 2 [some (.ref o), some (zI v1), some (zI v2), some (zI (v3 + 1))] [] M4)) ∧ (¬ zw r3 = 0 → (Q 1 M4))))) ∧ (¬ zg M (o + 14) (zw v1).toNat = 1 → (Q 0 M)))))) ∧ (¬ zw v3 < zg M o 5 → (Q 0 M))) : wp E 4 cX4_isFamed (some .boolean) Q 2 [some (.ref o), some (zI v1), some (zI v2), some (zI v3)] [] M := by
  refine w_iload_n dX4_isFamed_2 rfl ?_
  refine w_aload_n dX4_isFamed_3 rfl ?_
  refine w_gfI (ci := 4) (k := 5) dX4_isFamed_4 f4_61 h_o rfl ?_
  refine w_icmp_ge (tgt := 38) dX4_isFamed_7 (by decide) rfl (zw_zg _ _ _) (fun q => ?_) (fun q => ?_)
  · have h := h.2 q
    refine w_iconst dX4_isFamed_38 ?_
    exact w_rz rfl dX4_isFamed_39 zq_0 (by decide) h
  · have h := h.1 q
    refine w_aload_n dX4_isFamed_10 rfl ?_
    refine w_gfA (ci := 4) (k := 13) dX4_isFamed_11 f4_39 h_o rfl ?_
    refine w_iload_n dX4_isFamed_14 rfl ?_
    obtain ⟨c1, h⟩ := h
    obtain ⟨c2, h⟩ := h
    refine w_iald dX4_isFamed_15 rfl (a4_13 h_o) c1 c2 ?_
    refine w_iconst dX4_isFamed_16 ?_
    refine w_icmp_ne (tgt := 38) dX4_isFamed_17 (by decide) (zw_zg _ _ _) zq_1 (fun q => ?_) (fun q => ?_)
    · have h := h.2 q
      refine w_iconst dX4_isFamed_38 ?_
      exact w_rz rfl dX4_isFamed_39 zq_0 (by decide) h
    · have h := h.1 q
      refine w_aload_n dX4_isFamed_20 rfl ?_
      refine w_iload_n dX4_isFamed_21 rfl ?_
      refine w_iload_n dX4_isFamed_22 rfl ?_
      refine w_iload_n dX4_isFamed_23 rfl ?_
      refine w_invVi [_, _, _] dX4_isFamed_24 l4_92 kX4_isBearer rfl rfl (Nat.le_of_ble_eq_true rfl) (Or.inr rfl) h_o h (fun r3 M4 h => ?_)
      refine w_if_eq (tgt := 32) dX4_isFamed_27 (by decide) rfl (fun q => ?_) (fun q => ?_)
      · have h := h.1 q
        refine w_iinc dX4_isFamed_32 rfl rfl ?_
        refine w_goto (tgt := 2) dX4_isFamed_35 (by decide) ?_
        exact w_fgt (fgk (fgk (fgk (fgk (fgn))))) h
      · have h := h.2 q
        refine w_iconst dX4_isFamed_30 ?_
        exact w_rz rfl dX4_isFamed_31 zq_1 (by decide) h
theorem e_X4_livesKnowing {d : Nat} {Q : Int → zM → Prop} {M : zM} (o : Nat) (v1 : Int) (v2 : Int) (v3 : Int) (h : wp (Ev d) 4 cX4_livesKnowing (some .boolean) Q 0 [some (.ref o), some (zI v1), some (zI v2), some (zI v3)] [] M) : Ev (d + 1) mX4_livesKnowing [.ref o, zI v1, zI v2, zI v3] M Q := ⟨kX4_livesKnowing, Nat.le_of_ble_eq_true rfl, h⟩
theorem v_X4_livesKnowing_0 {E : zE} {Q : Int → zM → Prop} {M : zM} (o : Nat) (v1 : Int) (v2 : Int) (v3 : Int) (h_o : zob o 4) (h : (0 ≤ zw v1) ∧ ((zw v1 < 12) ∧ ((z_and (z_shr (zg M (o + 15) (zw v1).toNat) v2) 1 = 1 → (E mX4_lives [.ref o, zI v1, zI v3] M (fun r3 M4 => (zw r3 = 0 → (Q 0 M4)) ∧ (¬ zw r3 = 0 → (Q 1 M4))))) ∧ (¬ z_and (z_shr (zg M (o + 15) (zw v1).toNat) v2) 1 = 1 → (Q 0 M))))) : wp E 4 cX4_livesKnowing (some .boolean) Q 0 [some (.ref o), some (zI v1), some (zI v2), some (zI v3)] [] M := by
  refine w_aload_n dX4_livesKnowing_0 rfl ?_
  refine w_gfA (ci := 4) (k := 14) dX4_livesKnowing_1 f4_42 h_o rfl ?_
  refine w_iload_n dX4_livesKnowing_4 rfl ?_
  obtain ⟨c1, h⟩ := h
  obtain ⟨c2, h⟩ := h
  refine w_iald dX4_livesKnowing_5 rfl (a4_14 h_o) c1 c2 ?_
  refine w_iload_n dX4_livesKnowing_6 rfl ?_
  refine w_ishr dX4_livesKnowing_7 ?_
  refine w_iconst dX4_livesKnowing_8 ?_
  refine w_iand dX4_livesKnowing_9 ?_
  refine w_iconst dX4_livesKnowing_10 ?_
  refine w_icmp_ne (tgt := 27) dX4_livesKnowing_11 (by decide) (zx_and _ _) zq_1 (fun q => ?_) (fun q => ?_)
  · have h := h.2 q
    refine w_iconst dX4_livesKnowing_27 ?_
    exact w_rz rfl dX4_livesKnowing_28 zq_0 (by decide) h
  · have h := h.1 q
    refine w_aload_n dX4_livesKnowing_14 rfl ?_
    refine w_iload_n dX4_livesKnowing_15 rfl ?_
    refine w_iload_n dX4_livesKnowing_16 rfl ?_
    refine w_invVi [_, _] dX4_livesKnowing_17 l4_71 kX4_lives rfl rfl (Nat.le_of_ble_eq_true rfl) (Or.inr rfl) h_o h (fun r3 M4 h => ?_)
    refine w_if_eq (tgt := 27) dX4_livesKnowing_20 (by decide) rfl (fun q => ?_) (fun q => ?_)
    · have h := h.1 q
      refine w_iconst dX4_livesKnowing_27 ?_
      exact w_rz rfl dX4_livesKnowing_28 zq_0 (by decide) h
    · have h := h.2 q
      refine w_iconst dX4_livesKnowing_23 ?_
      refine w_goto (tgt := 28) dX4_livesKnowing_24 (by decide) ?_
      exact w_rz rfl dX4_livesKnowing_28 zq_1 (by decide) h
theorem e_X4_wouldHold {d : Nat} {Q : Int → zM → Prop} {M : zM} (o : Nat) (v1 : Int) (v2 : Int) (v3 : Int) (h : wp (Ev d) 4 cX4_wouldHold (some .boolean) Q 0 [some (.ref o), some (zI v1), some (zI v2), some (zI v3), none, none, none] [] M) : Ev (d + 1) mX4_wouldHold [.ref o, zI v1, zI v2, zI v3] M Q := ⟨kX4_wouldHold, Nat.le_of_ble_eq_true rfl, h⟩
theorem v_X4_wouldHold_0 {E : zE} {Q : Int → zM → Prop} {M : zM} (o : Nat) (v1 : Int) (v2 : Int) (v3 : Int) (h_o : zob o 4) (h : (0 ≤ zw v2) ∧ ((zw v2 < 12) ∧ ((zg M (o + 4) (zw v2).toNat < 0 → (Q 0 M)) ∧ (¬ zg M (o + 4) (zw v2).toNat < 0 → ((0 ≤ zw v2) ∧ ((zw v2 < 12) ∧ ((zw v1 = zw v2 → (wp E 4 cX4_wouldHold (some .boolean) Q 39 [some (.ref o), some (zI v1), none, some (zI v3), some (zI (zg M (o + 4) (zw v2).toNat)), some (zI (if zw 0 < zw (v3 - (zg M (o + 3) (zw v2).toNat)) then v3 - (zg M (o + 3) (zw v2).toNat) else 0)), none] [zI 1] M)) ∧ (¬ zw v1 = zw v2 → (wp E 4 cX4_wouldHold (some .boolean) Q 39 [some (.ref o), some (zI v1), none, some (zI v3), some (zI (zg M (o + 4) (zw v2).toNat)), some (zI (if zw 0 < zw (v3 - (zg M (o + 3) (zw v2).toNat)) then v3 - (zg M (o + 3) (zw v2).toNat) else 0)), none] [zI 0] M))))))))) : wp E 4 cX4_wouldHold (some .boolean) Q 0 [some (.ref o), some (zI v1), some (zI v2), some (zI v3), none, none, none] [] M := by
  refine w_aload_n dX4_wouldHold_0 rfl ?_
  refine w_gfA (ci := 4) (k := 3) dX4_wouldHold_1 f4_18 h_o rfl ?_
  refine w_iload_n dX4_wouldHold_4 rfl ?_
  obtain ⟨c1, h⟩ := h
  obtain ⟨c2, h⟩ := h
  refine w_iald dX4_wouldHold_5 rfl (a4_3 h_o) c1 c2 ?_
  refine w_istore dX4_wouldHold_6 (Nat.le_of_ble_eq_true rfl) rfl ?_
  refine w_iload dX4_wouldHold_8 rfl ?_
  refine w_if_ge (tgt := 15) dX4_wouldHold_10 (by decide) (zw_zg _ _ _) (fun q => ?_) (fun q => ?_)
  · have h := h.2 q
    refine w_iconst dX4_wouldHold_15 ?_
    refine w_iload_n dX4_wouldHold_16 rfl ?_
    refine w_aload_n dX4_wouldHold_17 rfl ?_
    refine w_gfA (ci := 4) (k := 2) dX4_wouldHold_18 f4_15 h_o rfl ?_
    refine w_iload_n dX4_wouldHold_21 rfl ?_
    obtain ⟨c3, h⟩ := h
    obtain ⟨c4, h⟩ := h
    refine w_iald dX4_wouldHold_22 rfl (a4_2 h_o) c3 c4 ?_
    refine w_isub dX4_wouldHold_23 ?_
    refine w_mmax dX4_wouldHold_24 l4_96 (Nat.le_of_ble_eq_true rfl) ?_
    refine w_istore dX4_wouldHold_27 (Nat.le_of_ble_eq_true rfl) rfl ?_
    refine w_iload_n dX4_wouldHold_29 rfl ?_
    refine w_iload_n dX4_wouldHold_30 rfl ?_
    refine w_icmp_ne (tgt := 38) dX4_wouldHold_31 (by decide) rfl rfl (fun q => ?_) (fun q => ?_)
    · have h := h.2 q
      refine w_iconst dX4_wouldHold_38 ?_
      exact w_fgt (fgk (fgk (fgd (fgk (fgk (fgk (fgd (fgn)))))))) h
    · have h := h.1 q
      refine w_iconst dX4_wouldHold_34 ?_
      refine w_goto (tgt := 39) dX4_wouldHold_35 (by decide) ?_
      exact w_fgt (fgk (fgk (fgd (fgk (fgk (fgk (fgd (fgn)))))))) h
  · have h := h.1 q
    refine w_iconst dX4_wouldHold_13 ?_
    exact w_rz rfl dX4_wouldHold_14 zq_0 (by decide) h
theorem v_X4_wouldHold_39 {E : zE} {Q : Int → zM → Prop} {M : zM} (o : Nat) (v1 : Int) (v3 : Int) (v4 : Int) (v5 : Int) (s0 : Int) (h_o : zob o 4) (h : (0 ≤ zw v1) ∧ ((zw v1 < 12) ∧ ((0 ≤ zw v4) ∧ ((zw v4 < 12) ∧ ((0 ≤ zw v4) ∧ ((zw v4 < 12) ∧ (E mX2_tell [.ref 128, zI (v3 - (zg M (o + 2) (zw v1).toNat)), zI v5, zI (zg M (o + 14) (zw v4).toNat), zI (zg M (o + 13) (zw v4).toNat), zI s0, zI v4] M (fun r7 M8 => E mX2_reckon [.ref 128] M8 (fun r9 M10 => (zw r9 = 0 → (Q 0 M10)) ∧ (¬ zw r9 = 0 → (Q 1 M10))))))))))) : wp E 4 cX4_wouldHold (some .boolean) Q 39 [some (.ref o), some (zI v1), none, some (zI v3), some (zI v4), some (zI v5), none] [zI s0] M := by
  refine w_istore dX4_wouldHold_39 (Nat.le_of_ble_eq_true rfl) rfl ?_
  refine w_aload_n dX4_wouldHold_41 rfl ?_
  refine w_gfO (ci := 4) (k := 0) (q := 128) dX4_wouldHold_42 f4_45 h_o rfl rfl ?_
  refine w_iload_n dX4_wouldHold_45 rfl ?_
  refine w_aload_n dX4_wouldHold_46 rfl ?_
  refine w_gfA (ci := 4) (k := 1) dX4_wouldHold_47 f4_9 h_o rfl ?_
  refine w_iload_n dX4_wouldHold_50 rfl ?_
  obtain ⟨c1, h⟩ := h
  obtain ⟨c2, h⟩ := h
  refine w_iald dX4_wouldHold_51 rfl (a4_1 h_o) c1 c2 ?_
  refine w_isub dX4_wouldHold_52 ?_
  refine w_iload dX4_wouldHold_53 rfl ?_
  refine w_aload_n dX4_wouldHold_55 rfl ?_
  refine w_gfA (ci := 4) (k := 13) dX4_wouldHold_56 f4_39 h_o rfl ?_
  refine w_iload dX4_wouldHold_59 rfl ?_
  obtain ⟨c3, h⟩ := h
  obtain ⟨c4, h⟩ := h
  refine w_iald dX4_wouldHold_61 rfl (a4_13 h_o) c3 c4 ?_
  refine w_aload_n dX4_wouldHold_62 rfl ?_
  refine w_gfA (ci := 4) (k := 12) dX4_wouldHold_63 f4_36 h_o rfl ?_
  refine w_iload dX4_wouldHold_66 rfl ?_
  obtain ⟨c5, h⟩ := h
  obtain ⟨c6, h⟩ := h
  refine w_iald dX4_wouldHold_68 rfl (a4_12 h_o) c5 c6 ?_
  refine w_iload dX4_wouldHold_69 rfl ?_
  refine w_iload dX4_wouldHold_71 rfl ?_
  refine w_invVv [_, _, _, _, _, _] dX4_wouldHold_73 l4_102 kX2_tell rfl rfl (Nat.le_of_ble_eq_true rfl) rfl ob_128 h (fun r7 M8 h => ?_)
  refine w_aload_n dX4_wouldHold_76 rfl ?_
  refine w_gfO (ci := 4) (k := 0) (q := 128) dX4_wouldHold_77 f4_45 h_o rfl rfl ?_
  refine w_invVi [] dX4_wouldHold_80 l4_108 kX2_reckon rfl rfl (Nat.le_of_ble_eq_true rfl) (Or.inl rfl) ob_128 h (fun r9 M10 h => ?_)
  refine w_if_eq (tgt := 90) dX4_wouldHold_83 (by decide) rfl (fun q => ?_) (fun q => ?_)
  · have h := h.1 q
    refine w_iconst dX4_wouldHold_90 ?_
    exact w_rz rfl dX4_wouldHold_91 zq_0 (by decide) h
  · have h := h.2 q
    refine w_iconst dX4_wouldHold_86 ?_
    refine w_goto (tgt := 91) dX4_wouldHold_87 (by decide) ?_
    exact w_rz rfl dX4_wouldHold_91 zq_1 (by decide) h
theorem e_X4_holdersOf {d : Nat} {Q : Int → zM → Prop} {M : zM} (o : Nat) (v1 : Int) (v2 : Int) (h : wp (Ev d) 4 cX4_holdersOf (some .int) Q 0 [some (.ref o), some (zI v1), some (zI v2), none, none, none] [] M) : Ev (d + 1) mX4_holdersOf [.ref o, zI v1, zI v2] M Q := ⟨kX4_holdersOf, Nat.le_of_ble_eq_true rfl, h⟩
theorem v_X4_holdersOf_0 {E : zE} {Q : Int → zM → Prop} {M : zM} (o : Nat) (v1 : Int) (v2 : Int) (h_o : zob o 4) (h : E mX4_learnUpTo [.ref o, zI v2] M (fun r1 M2 => wp E 4 cX4_holdersOf (some .int) Q 10 [some (.ref o), some (zI v1), some (zI v2), some (zI 0), some (zI 0), none] [] M2)) : wp E 4 cX4_holdersOf (some .int) Q 0 [some (.ref o), some (zI v1), some (zI v2), none, none, none] [] M := by
  refine w_aload_n dX4_holdersOf_0 rfl ?_
  refine w_iload_n dX4_holdersOf_1 rfl ?_
  refine w_invVv [_] dX4_holdersOf_2 l4_112 kX4_learnUpTo rfl rfl (Nat.le_of_ble_eq_true rfl) rfl h_o h (fun r1 M2 h => ?_)
  refine w_iconst dX4_holdersOf_5 ?_
  refine w_istore_n dX4_holdersOf_6 (Nat.le_of_ble_eq_true rfl) rfl ?_
  refine w_iconst dX4_holdersOf_7 ?_
  refine w_istore dX4_holdersOf_8 (Nat.le_of_ble_eq_true rfl) rfl ?_
  exact w_fgt (fgk (fgk (fgk (fgk (fgk (fgd (fgn))))))) h
theorem v_X4_holdersOf_10 {E : zE} {Q : Int → zM → Prop} {M : zM} (o : Nat) (v1 : Int) (v2 : Int) (v3 : Int) (v4 : Int) (h_o : zob o 4) (h : (zw v4 < zg M o 5 → (E mX4_isBearer [.ref o, zI v4, zI v1, zI v2] M (fun r1 M2 => (zw r1 = 0 → (wp E 4 cX4_holdersOf (some .int) Q 10 [some (.ref o), some (zI v1), some (zI v2), some (zI v3), some (zI (v4 + 1)), none] [] M2)) ∧ (¬ zw r1 = 0 → (wp E 4 cX4_holdersOf (some .int) Q 36 [some (.ref o), some (zI v1), some (zI v2), some (zI v3), some (zI v4), some (zI 0)] [] M2))))) ∧ (¬ zw v4 < zg M o 5 → (Q (zw v3) M))) : wp E 4 cX4_holdersOf (some .int) Q 10 [some (.ref o), some (zI v1), some (zI v2), some (zI v3), some (zI v4), none] [] M := by
  refine w_iload dX4_holdersOf_10 rfl ?_
  refine w_aload_n dX4_holdersOf_12 rfl ?_
  refine w_gfI (ci := 4) (k := 5) dX4_holdersOf_13 f4_61 h_o rfl ?_
  refine w_icmp_ge (tgt := 97) dX4_holdersOf_16 (by decide) rfl (zw_zg _ _ _) (fun q => ?_) (fun q => ?_)
  · have h := h.2 q
    refine w_iload_n dX4_holdersOf_97 rfl ?_
    exact w_ri rfl dX4_holdersOf_98 rfl h
  · have h := h.1 q
    refine w_aload_n dX4_holdersOf_19 rfl ?_
    refine w_iload dX4_holdersOf_20 rfl ?_
    refine w_iload_n dX4_holdersOf_22 rfl ?_
    refine w_iload_n dX4_holdersOf_23 rfl ?_
    refine w_invVi [_, _, _] dX4_holdersOf_24 l4_92 kX4_isBearer rfl rfl (Nat.le_of_ble_eq_true rfl) (Or.inr rfl) h_o h (fun r1 M2 h => ?_)
    refine w_if_ne (tgt := 33) dX4_holdersOf_27 (by decide) rfl (fun q => ?_) (fun q => ?_)
    · have h := h.2 q
      refine w_iconst dX4_holdersOf_33 ?_
      refine w_istore dX4_holdersOf_34 (Nat.le_of_ble_eq_true rfl) rfl ?_
      exact w_fgt (fgk (fgk (fgk (fgk (fgk (fgk (fgn))))))) h
    · have h := h.1 q
      refine w_goto (tgt := 91) dX4_holdersOf_30 (by decide) ?_
      refine w_iinc dX4_holdersOf_91 rfl rfl ?_
      refine w_goto (tgt := 10) dX4_holdersOf_94 (by decide) ?_
      exact w_fgt (fgk (fgk (fgk (fgk (fgk (fgd (fgn))))))) h
theorem v_X4_holdersOf_36 {E : zE} {Q : Int → zM → Prop} {M : zM} (o : Nat) (v1 : Int) (v2 : Int) (v3 : Int) (v4 : Int) (v5 : Int) (h_o : zob o 4) (h : (zw v5 < zg M o 5 → ((z_and (z_shr v3 v5) 1 = 0 → (E mX4_livesKnowing [.ref o, zI v5, zI v4, zI v2] M (fun r1 M2 => (zw r1 = 0 → (wp E 4 cX4_holdersOf (some .int) Q 36 [some (.ref o), some (zI v1), some (zI v2), some (zI v3), some (zI v4), some (zI (v5 + 1))] [] M2)) ∧ (¬ zw r1 = 0 → (E mX4_wouldHold [.ref o, zI v5, zI v4, zI v2] M2 (fun r3 M4 => (zw r3 = 0 → (wp E 4 cX4_holdersOf (some .int) Q 36 [some (.ref o), some (zI v1), some (zI v2), some (zI v3), some (zI v4), some (zI (v5 + 1))] [] M4)) ∧ (¬ zw r3 = 0 → (wp E 4 cX4_holdersOf (some .int) Q 36 [some (.ref o), some (zI v1), some (zI v2), some (zI (z_or v3 (z_shl 1 v5))), some (zI v4), some (zI (v5 + 1))] [] M4)))))))) ∧ (¬ z_and (z_shr v3 v5) 1 = 0 → (wp E 4 cX4_holdersOf (some .int) Q 36 [some (.ref o), some (zI v1), some (zI v2), some (zI v3), some (zI v4), some (zI (v5 + 1))] [] M)))) ∧ (¬ zw v5 < zg M o 5 → (wp E 4 cX4_holdersOf (some .int) Q 10 [some (.ref o), some (zI v1), some (zI v2), some (zI v3), some (zI (v4 + 1)), none] [] M))) : wp E 4 cX4_holdersOf (some .int) Q 36 [some (.ref o), some (zI v1), some (zI v2), some (zI v3), some (zI v4), some (zI v5)] [] M := by
  refine w_iload dX4_holdersOf_36 rfl ?_
  refine w_aload_n dX4_holdersOf_38 rfl ?_
  refine w_gfI (ci := 4) (k := 5) dX4_holdersOf_39 f4_61 h_o rfl ?_
  refine w_icmp_ge (tgt := 91) dX4_holdersOf_42 (by decide) rfl (zw_zg _ _ _) (fun q => ?_) (fun q => ?_)
  · have h := h.2 q
    refine w_iinc dX4_holdersOf_91 rfl rfl ?_
    refine w_goto (tgt := 10) dX4_holdersOf_94 (by decide) ?_
    exact w_fgt (fgk (fgk (fgk (fgk (fgk (fgd (fgn))))))) h
  · have h := h.1 q
    refine w_iload_n dX4_holdersOf_45 rfl ?_
    refine w_iload dX4_holdersOf_46 rfl ?_
    refine w_ishr dX4_holdersOf_48 ?_
    refine w_iconst dX4_holdersOf_49 ?_
    refine w_iand dX4_holdersOf_50 ?_
    refine w_if_ne (tgt := 85) dX4_holdersOf_51 (by decide) (zx_and _ _) (fun q => ?_) (fun q => ?_)
    · have h := h.2 q
      refine w_iinc dX4_holdersOf_85 rfl rfl ?_
      refine w_goto (tgt := 36) dX4_holdersOf_88 (by decide) ?_
      exact w_fgt (fgk (fgk (fgk (fgk (fgk (fgk (fgn))))))) h
    · have h := h.1 q
      refine w_aload_n dX4_holdersOf_54 rfl ?_
      refine w_iload dX4_holdersOf_55 rfl ?_
      refine w_iload dX4_holdersOf_57 rfl ?_
      refine w_iload_n dX4_holdersOf_59 rfl ?_
      refine w_invVi [_, _, _] dX4_holdersOf_60 l4_115 kX4_livesKnowing rfl rfl (Nat.le_of_ble_eq_true rfl) (Or.inr rfl) h_o h (fun r1 M2 h => ?_)
      refine w_if_eq (tgt := 85) dX4_holdersOf_63 (by decide) rfl (fun q => ?_) (fun q => ?_)
      · have h := h.1 q
        refine w_iinc dX4_holdersOf_85 rfl rfl ?_
        refine w_goto (tgt := 36) dX4_holdersOf_88 (by decide) ?_
        exact w_fgt (fgk (fgk (fgk (fgk (fgk (fgk (fgn))))))) h
      · have h := h.2 q
        refine w_aload_n dX4_holdersOf_66 rfl ?_
        refine w_iload dX4_holdersOf_67 rfl ?_
        refine w_iload dX4_holdersOf_69 rfl ?_
        refine w_iload_n dX4_holdersOf_71 rfl ?_
        refine w_invVi [_, _, _] dX4_holdersOf_72 l4_118 kX4_wouldHold rfl rfl (Nat.le_of_ble_eq_true rfl) (Or.inr rfl) h_o h (fun r3 M4 h => ?_)
        refine w_if_eq (tgt := 85) dX4_holdersOf_75 (by decide) rfl (fun q => ?_) (fun q => ?_)
        · have h := h.1 q
          refine w_iinc dX4_holdersOf_85 rfl rfl ?_
          refine w_goto (tgt := 36) dX4_holdersOf_88 (by decide) ?_
          exact w_fgt (fgk (fgk (fgk (fgk (fgk (fgk (fgn))))))) h
        · have h := h.2 q
          refine w_iload_n dX4_holdersOf_78 rfl ?_
          refine w_iconst dX4_holdersOf_79 ?_
          refine w_iload dX4_holdersOf_80 rfl ?_
          refine w_ishl dX4_holdersOf_82 ?_
          refine w_ior dX4_holdersOf_83 ?_
          refine w_istore_n dX4_holdersOf_84 (Nat.le_of_ble_eq_true rfl) rfl ?_
          refine w_iinc dX4_holdersOf_85 rfl rfl ?_
          refine w_goto (tgt := 36) dX4_holdersOf_88 (by decide) ?_
          exact w_fgt (fgk (fgk (fgk (fgk (fgk (fgk (fgn))))))) h
theorem e_X4_heldIn {d : Nat} {Q : Int → zM → Prop} {M : zM} (o : Nat) (v1 : Int) (h : wp (Ev d) 4 cX4_heldIn (some .int) Q 0 [some (.ref o), some (zI v1), none, none, none, none, none] [] M) : Ev (d + 1) mX4_heldIn [.ref o, zI v1] M Q := ⟨kX4_heldIn, Nat.le_of_ble_eq_true rfl, h⟩
theorem v_X4_heldIn_0 {E : zE} {Q : Int → zM → Prop} {M : zM} (o : Nat) (v1 : Int) (h_o : zob o 4) (h : E mX4_learnUpTo [.ref o, zI v1] M (fun r1 M2 => wp E 4 cX4_heldIn (some .int) Q 9 [some (.ref o), some (zI v1), some (zI 0), some (zI 0), none, none, none] [] M2)) : wp E 4 cX4_heldIn (some .int) Q 0 [some (.ref o), some (zI v1), none, none, none, none, none] [] M := by
  refine w_aload_n dX4_heldIn_0 rfl ?_
  refine w_iload_n dX4_heldIn_1 rfl ?_
  refine w_invVv [_] dX4_heldIn_2 l4_112 kX4_learnUpTo rfl rfl (Nat.le_of_ble_eq_true rfl) rfl h_o h (fun r1 M2 h => ?_)
  refine w_iconst dX4_heldIn_5 ?_
  refine w_istore_n dX4_heldIn_6 (Nat.le_of_ble_eq_true rfl) rfl ?_
  refine w_iconst dX4_heldIn_7 ?_
  refine w_istore_n dX4_heldIn_8 (Nat.le_of_ble_eq_true rfl) rfl ?_
  exact w_fgt (fgk (fgk (fgk (fgk (fgd (fgd (fgd (fgn)))))))) h
theorem v_X4_heldIn_9 {E : zE} {Q : Int → zM → Prop} {M : zM} (o : Nat) (v1 : Int) (v2 : Int) (v3 : Int) (h_o : zob o 4) (h : (zw v3 < zg M o 5 → ((0 ≤ zw v3) ∧ ((zw v3 < 12) ∧ ((zg M (o + 4) (zw v3).toNat < 0 → (wp E 4 cX4_heldIn (some .int) Q 9 [some (.ref o), some (zI v1), some (zI v2), some (zI (v3 + 1)), none, none, none] [] M)) ∧ (¬ zg M (o + 4) (zw v3).toNat < 0 → ((0 ≤ zw v3) ∧ ((zw v3 < 12) ∧ ((zw v1 < zg M (o + 2) (zw v3).toNat → (wp E 4 cX4_heldIn (some .int) Q 9 [some (.ref o), some (zI v1), some (zI v2), some (zI (v3 + 1)), none, none, none] [] M)) ∧ (¬ zw v1 < zg M (o + 2) (zw v3).toNat → ((z_and (z_shr v2 (zg M (o + 4) (zw v3).toNat)) 1 = 1 → (wp E 4 cX4_heldIn (some .int) Q 9 [some (.ref o), some (zI v1), some (zI v2), some (zI (v3 + 1)), none, none, none] [] M)) ∧ (¬ z_and (z_shr v2 (zg M (o + 4) (zw v3).toNat)) 1 = 1 → ((0 ≤ zg M (o + 4) (zw v3).toNat) ∧ ((zg M (o + 4) (zw v3).toNat < 12) ∧ ((zg M (o + 14) (zg M (o + 4) (zw v3).toNat).toNat = 1 → (wp E 4 cX4_heldIn (some .int) Q 74 [some (.ref o), some (zI v1), some (zI v2), some (zI v3), some (zI (zg M (o + 4) (zw v3).toNat)), some (zI 1), some (zI 0)] [] M)) ∧ (¬ zg M (o + 14) (zg M (o + 4) (zw v3).toNat).toNat = 1 → (wp E 4 cX4_heldIn (some .int) Q 74 [some (.ref o), some (zI v1), some (zI v2), some (zI v3), some (zI (zg M (o + 4) (zw v3).toNat)), some (zI 0), some (zI 0)] [] M)))))))))))))))) ∧ (¬ zw v3 < zg M o 5 → (Q (zw v2) M))) : wp E 4 cX4_heldIn (some .int) Q 9 [some (.ref o), some (zI v1), some (zI v2), some (zI v3), none, none, none] [] M := by
  refine w_iload_n dX4_heldIn_9 rfl ?_
  refine w_aload_n dX4_heldIn_10 rfl ?_
  refine w_gfI (ci := 4) (k := 5) dX4_heldIn_11 f4_61 h_o rfl ?_
  refine w_icmp_ge (tgt := 145) dX4_heldIn_14 (by decide) rfl (zw_zg _ _ _) (fun q => ?_) (fun q => ?_)
  · have h := h.2 q
    refine w_iload_n dX4_heldIn_145 rfl ?_
    exact w_ri rfl dX4_heldIn_146 rfl h
  · have h := h.1 q
    refine w_aload_n dX4_heldIn_17 rfl ?_
    refine w_gfA (ci := 4) (k := 3) dX4_heldIn_18 f4_18 h_o rfl ?_
    refine w_iload_n dX4_heldIn_21 rfl ?_
    obtain ⟨c1, h⟩ := h
    obtain ⟨c2, h⟩ := h
    refine w_iald dX4_heldIn_22 rfl (a4_3 h_o) c1 c2 ?_
    refine w_istore dX4_heldIn_23 (Nat.le_of_ble_eq_true rfl) rfl ?_
    refine w_iload dX4_heldIn_25 rfl ?_
    refine w_if_lt (tgt := 139) dX4_heldIn_27 (by decide) (zw_zg _ _ _) (fun q => ?_) (fun q => ?_)
    · have h := h.1 q
      refine w_iinc dX4_heldIn_139 rfl rfl ?_
      refine w_goto (tgt := 9) dX4_heldIn_142 (by decide) ?_
      exact w_fgt (fgk (fgk (fgk (fgk (fgd (fgd (fgd (fgn)))))))) h
    · have h := h.2 q
      refine w_aload_n dX4_heldIn_30 rfl ?_
      refine w_gfA (ci := 4) (k := 1) dX4_heldIn_31 f4_9 h_o rfl ?_
      refine w_iload_n dX4_heldIn_34 rfl ?_
      obtain ⟨c3, h⟩ := h
      obtain ⟨c4, h⟩ := h
      refine w_iald dX4_heldIn_35 rfl (a4_1 h_o) c3 c4 ?_
      refine w_iload_n dX4_heldIn_36 rfl ?_
      refine w_icmp_gt (tgt := 139) dX4_heldIn_37 (by decide) (zw_zg _ _ _) rfl (fun q => ?_) (fun q => ?_)
      · have h := h.1 q
        refine w_iinc dX4_heldIn_139 rfl rfl ?_
        refine w_goto (tgt := 9) dX4_heldIn_142 (by decide) ?_
        exact w_fgt (fgk (fgk (fgk (fgk (fgd (fgd (fgd (fgn)))))))) h
      · have h := h.2 q
        refine w_iload_n dX4_heldIn_40 rfl ?_
        refine w_iload dX4_heldIn_41 rfl ?_
        refine w_ishr dX4_heldIn_43 ?_
        refine w_iconst dX4_heldIn_44 ?_
        refine w_iand dX4_heldIn_45 ?_
        refine w_iconst dX4_heldIn_46 ?_
        refine w_icmp_ne (tgt := 53) dX4_heldIn_47 (by decide) (zx_and _ _) zq_1 (fun q => ?_) (fun q => ?_)
        · have h := h.2 q
          refine w_aload_n dX4_heldIn_53 rfl ?_
          refine w_gfA (ci := 4) (k := 13) dX4_heldIn_54 f4_39 h_o rfl ?_
          refine w_iload dX4_heldIn_57 rfl ?_
          obtain ⟨c5, h⟩ := h
          obtain ⟨c6, h⟩ := h
          refine w_iald dX4_heldIn_59 (zw_zg _ _ _) (a4_13 h_o) c5 c6 ?_
          refine w_iconst dX4_heldIn_60 ?_
          refine w_icmp_ne (tgt := 68) dX4_heldIn_61 (by decide) (zw_zg _ _ _) zq_1 (fun q => ?_) (fun q => ?_)
          · have h := h.2 q
            refine w_iconst dX4_heldIn_68 ?_
            refine w_istore dX4_heldIn_69 (Nat.le_of_ble_eq_true rfl) rfl ?_
            refine w_iconst dX4_heldIn_71 ?_
            refine w_istore dX4_heldIn_72 (Nat.le_of_ble_eq_true rfl) rfl ?_
            exact w_fgt (fgk (fgk (fgk (fgk (fgk (fgk (fgk (fgn)))))))) h
          · have h := h.1 q
            refine w_iconst dX4_heldIn_64 ?_
            refine w_goto (tgt := 69) dX4_heldIn_65 (by decide) ?_
            refine w_istore dX4_heldIn_69 (Nat.le_of_ble_eq_true rfl) rfl ?_
            refine w_iconst dX4_heldIn_71 ?_
            refine w_istore dX4_heldIn_72 (Nat.le_of_ble_eq_true rfl) rfl ?_
            exact w_fgt (fgk (fgk (fgk (fgk (fgk (fgk (fgk (fgn)))))))) h
        · have h := h.1 q
          refine w_goto (tgt := 139) dX4_heldIn_50 (by decide) ?_
          refine w_iinc dX4_heldIn_139 rfl rfl ?_
          refine w_goto (tgt := 9) dX4_heldIn_142 (by decide) ?_
          exact w_fgt (fgk (fgk (fgk (fgk (fgd (fgd (fgd (fgn)))))))) h
theorem v_X4_heldIn_74 {E : zE} {Q : Int → zM → Prop} {M : zM} (o : Nat) (v1 : Int) (v2 : Int) (v3 : Int) (v4 : Int) (v5 : Int) (v6 : Int) (h_o : zob o 4) (h : (zw v6 < zg M o 5 → ((zw v5 = 0 → (E mX4_livesKnowing [.ref o, zI v6, zI v3, zI v1] M (fun r1 M2 => (zw r1 = 0 → (wp E 4 cX4_heldIn (some .int) Q 74 [some (.ref o), some (zI v1), some (zI v2), some (zI v3), some (zI v4), some (zI 0), some (zI (v6 + 1))] [] M2)) ∧ (¬ zw r1 = 0 → (E mX4_wouldHold [.ref o, zI v6, zI v3, zI v1] M2 (fun r3 M4 => (zw r3 = 0 → (wp E 4 cX4_heldIn (some .int) Q 74 [some (.ref o), some (zI v1), some (zI v2), some (zI v3), some (zI v4), some (zI 0), some (zI (v6 + 1))] [] M4)) ∧ (¬ zw r3 = 0 → (wp E 4 cX4_heldIn (some .int) Q 74 [some (.ref o), some (zI v1), some (zI v2), some (zI v3), some (zI v4), some (zI 1), some (zI (v6 + 1))] [] M4)))))))) ∧ (¬ zw v5 = 0 → (wp E 4 cX4_heldIn (some .int) Q 123 [some (.ref o), some (zI v1), some (zI v2), some (zI v3), some (zI v4), some (zI v5), none] [] M)))) ∧ (¬ zw v6 < zg M o 5 → (wp E 4 cX4_heldIn (some .int) Q 123 [some (.ref o), some (zI v1), some (zI v2), some (zI v3), some (zI v4), some (zI v5), none] [] M))) : wp E 4 cX4_heldIn (some .int) Q 74 [some (.ref o), some (zI v1), some (zI v2), some (zI v3), some (zI v4), some (zI v5), some (zI v6)] [] M := by
  refine w_iload dX4_heldIn_74 rfl ?_
  refine w_aload_n dX4_heldIn_76 rfl ?_
  refine w_gfI (ci := 4) (k := 5) dX4_heldIn_77 f4_61 h_o rfl ?_
  refine w_icmp_ge (tgt := 123) dX4_heldIn_80 (by decide) rfl (zw_zg _ _ _) (fun q => ?_) (fun q => ?_)
  · have h := h.2 q
    exact w_fgt (fgk (fgk (fgk (fgk (fgk (fgk (fgd (fgn)))))))) h
  · have h := h.1 q
    refine w_iload dX4_heldIn_83 rfl ?_
    refine w_if_ne (tgt := 123) dX4_heldIn_85 (by decide) rfl (fun q => ?_) (fun q => ?_)
    · have h := h.2 q
      exact w_fgt (fgk (fgk (fgk (fgk (fgk (fgk (fgd (fgn)))))))) h
    · have h := h.1 q
      refine w_aload_n dX4_heldIn_88 rfl ?_
      refine w_iload dX4_heldIn_89 rfl ?_
      refine w_iload_n dX4_heldIn_91 rfl ?_
      refine w_iload_n dX4_heldIn_92 rfl ?_
      refine w_invVi [_, _, _] dX4_heldIn_93 l4_115 kX4_livesKnowing rfl rfl (Nat.le_of_ble_eq_true rfl) (Or.inr rfl) h_o h (fun r1 M2 h => ?_)
      refine w_if_eq (tgt := 114) dX4_heldIn_96 (by decide) rfl (fun q => ?_) (fun q => ?_)
      · have h := h.1 q
        refine w_iconst dX4_heldIn_114 ?_
        refine w_istore dX4_heldIn_115 (Nat.le_of_ble_eq_true rfl) rfl ?_
        refine w_iinc dX4_heldIn_117 rfl rfl ?_
        refine w_goto (tgt := 74) dX4_heldIn_120 (by decide) ?_
        exact w_fgt (fgk (fgk (fgk (fgk (fgk (fgk (fgk (fgn)))))))) h
      · have h := h.2 q
        refine w_aload_n dX4_heldIn_99 rfl ?_
        refine w_iload dX4_heldIn_100 rfl ?_
        refine w_iload_n dX4_heldIn_102 rfl ?_
        refine w_iload_n dX4_heldIn_103 rfl ?_
        refine w_invVi [_, _, _] dX4_heldIn_104 l4_118 kX4_wouldHold rfl rfl (Nat.le_of_ble_eq_true rfl) (Or.inr rfl) h_o h (fun r3 M4 h => ?_)
        refine w_if_eq (tgt := 114) dX4_heldIn_107 (by decide) rfl (fun q => ?_) (fun q => ?_)
        · have h := h.1 q
          refine w_iconst dX4_heldIn_114 ?_
          refine w_istore dX4_heldIn_115 (Nat.le_of_ble_eq_true rfl) rfl ?_
          refine w_iinc dX4_heldIn_117 rfl rfl ?_
          refine w_goto (tgt := 74) dX4_heldIn_120 (by decide) ?_
          exact w_fgt (fgk (fgk (fgk (fgk (fgk (fgk (fgk (fgn)))))))) h
        · have h := h.2 q
          refine w_iconst dX4_heldIn_110 ?_
          refine w_goto (tgt := 115) dX4_heldIn_111 (by decide) ?_
          refine w_istore dX4_heldIn_115 (Nat.le_of_ble_eq_true rfl) rfl ?_
          refine w_iinc dX4_heldIn_117 rfl rfl ?_
          refine w_goto (tgt := 74) dX4_heldIn_120 (by decide) ?_
          exact w_fgt (fgk (fgk (fgk (fgk (fgk (fgk (fgk (fgn)))))))) h
theorem v_X4_heldIn_123 {E : zE} {Q : Int → zM → Prop} {M : zM} (o : Nat) (v1 : Int) (v2 : Int) (v3 : Int) (v4 : Int) (v5 : Int) (h_o : zob o 4) (h : (zw v5 = 0 → (wp E 4 cX4_heldIn (some .int) Q 9 [some (.ref o), some (zI v1), some (zI (z_or v2 0)), some (zI (v3 + 1)), none, none, none] [] M)) ∧ (¬ zw v5 = 0 → (wp E 4 cX4_heldIn (some .int) Q 9 [some (.ref o), some (zI v1), some (zI (z_or v2 (z_shl 1 v4))), some (zI (v3 + 1)), none, none, none] [] M))) : wp E 4 cX4_heldIn (some .int) Q 123 [some (.ref o), some (zI v1), some (zI v2), some (zI v3), some (zI v4), some (zI v5), none] [] M := by
  refine w_iload_n dX4_heldIn_123 rfl ?_
  refine w_iload dX4_heldIn_124 rfl ?_
  refine w_if_eq (tgt := 136) dX4_heldIn_126 (by decide) rfl (fun q => ?_) (fun q => ?_)
  · have h := h.1 q
    refine w_iconst dX4_heldIn_136 ?_
    refine w_ior dX4_heldIn_137 ?_
    refine w_istore_n dX4_heldIn_138 (Nat.le_of_ble_eq_true rfl) rfl ?_
    refine w_iinc dX4_heldIn_139 rfl rfl ?_
    refine w_goto (tgt := 9) dX4_heldIn_142 (by decide) ?_
    exact w_fgt (fgk (fgk (fgk (fgk (fgd (fgd (fgd (fgn)))))))) h
  · have h := h.2 q
    refine w_iconst dX4_heldIn_129 ?_
    refine w_iload dX4_heldIn_130 rfl ?_
    refine w_ishl dX4_heldIn_132 ?_
    refine w_goto (tgt := 137) dX4_heldIn_133 (by decide) ?_
    refine w_ior dX4_heldIn_137 ?_
    refine w_istore_n dX4_heldIn_138 (Nat.le_of_ble_eq_true rfl) rfl ?_
    refine w_iinc dX4_heldIn_139 rfl rfl ?_
    refine w_goto (tgt := 9) dX4_heldIn_142 (by decide) ?_
    exact w_fgt (fgk (fgk (fgk (fgk (fgd (fgd (fgd (fgn)))))))) h
theorem e_X5_fewest {d : Nat} {Q : Int → zM → Prop} {M : zM} (v1 : Int) (v2 : Int) (h : wp (Ev d) 5 cX5_fewest (some .int) Q 0 [some (.ref 384), some (zI v1), some (zI v2)] [] M) : Ev (d + 1) mX5_fewest [.ref 384, zI v1, zI v2] M Q := ⟨kX5_fewest, Nat.le_of_ble_eq_true rfl, h⟩
theorem v_X5_fewest_0 {E : zE} {Q : Int → zM → Prop} {M : zM} (v1 : Int) (v2 : Int)  (h : ∀ M1 : zM, M1 = zs M 384 3 v2 → (E mX4_isFamed [.ref 192, zI v1, zI (zg M1 384 3)] M1 (fun r2 M3 => (zw r2 = 0 → (E mX5_noteWhoHolds [.ref 384, zI v1] M3 (fun r4 M5 => (zw r4 = 0 → (Q (-2) M5)) ∧ (¬ zw r4 = 0 → (∀ M6 : zM, M6 = zs M5 384 4 0 → (∀ M7 : zM, M7 = zs M6 384 5 17 → (E mX5_seek [.ref 384, zI 0, zI 0, zI 0] M7 (fun r8 M9 => Q (zg M9 384 4) M9)))))))) ∧ (¬ zw r2 = 0 → (Q (-2) M3))))) : wp E 5 cX5_fewest (some .int) Q 0 [some (.ref 384), some (zI v1), some (zI v2)] [] M := by
  refine w_aload_n dX5_fewest_0 rfl ?_
  refine w_iload_n dX5_fewest_1 rfl ?_
  have h := h _ rfl
  refine w_pfI (ci := 5) (k := 3) dX5_fewest_2 f5_22 ob_384 rfl rfl rfl ?_
  refine w_aload_n dX5_fewest_5 rfl ?_
  refine w_gfO (ci := 5) (k := 0) (q := 192) dX5_fewest_6 f5_18 ob_384 rfl rfl ?_
  refine w_iload_n dX5_fewest_9 rfl ?_
  refine w_aload_n dX5_fewest_10 rfl ?_
  refine w_gfI (ci := 5) (k := 3) dX5_fewest_11 f5_22 ob_384 rfl ?_
  refine w_invVi [_, _] dX5_fewest_14 l5_26 kX4_isFamed rfl rfl (Nat.le_of_ble_eq_true rfl) (Or.inr rfl) ob_192 h (fun r2 M3 h => ?_)
  refine w_if_ne (tgt := 28) dX5_fewest_17 (by decide) rfl (fun q => ?_) (fun q => ?_)
  · have h := h.2 q
    refine w_bipush dX5_fewest_28 (by decide) ?_
    exact w_ri rfl dX5_fewest_30 zq_m2 h
  · have h := h.1 q
    refine w_aload_n dX5_fewest_20 rfl ?_
    refine w_iload_n dX5_fewest_21 rfl ?_
    refine w_invVi [_] dX5_fewest_22 l5_32 kX5_noteWhoHolds rfl rfl (Nat.le_of_ble_eq_true rfl) (Or.inr rfl) ob_384 h (fun r4 M5 h => ?_)
    refine w_if_ne (tgt := 31) dX5_fewest_25 (by decide) rfl (fun q => ?_) (fun q => ?_)
    · have h := h.2 q
      refine w_aload_n dX5_fewest_31 rfl ?_
      refine w_iconst dX5_fewest_32 ?_
      have h := h _ rfl
      refine w_pfI (ci := 5) (k := 4) dX5_fewest_33 f5_36 ob_384 rfl rfl rfl ?_
      refine w_aload_n dX5_fewest_36 rfl ?_
      refine w_bipush dX5_fewest_37 (by decide) ?_
      have h := h _ rfl
      refine w_pfI (ci := 5) (k := 5) dX5_fewest_39 f5_39 ob_384 rfl rfl rfl ?_
      refine w_aload_n dX5_fewest_42 rfl ?_
      refine w_iconst dX5_fewest_43 ?_
      refine w_iconst dX5_fewest_44 ?_
      refine w_iconst dX5_fewest_45 ?_
      refine w_invVv [_, _, _] dX5_fewest_46 l5_42 kX5_seek rfl rfl (Nat.le_of_ble_eq_true rfl) rfl ob_384 h (fun r8 M9 h => ?_)
      refine w_aload_n dX5_fewest_49 rfl ?_
      refine w_gfI (ci := 5) (k := 4) dX5_fewest_50 f5_36 ob_384 rfl ?_
      exact w_ri rfl dX5_fewest_53 (zw_zg _ _ _) h
    · have h := h.1 q
      refine w_bipush dX5_fewest_28 (by decide) ?_
      exact w_ri rfl dX5_fewest_30 zq_m2 h
theorem e_X5_noteWhoHolds {d : Nat} {Q : Int → zM → Prop} {M : zM} (v1 : Int) (h : wp (Ev d) 5 cX5_noteWhoHolds (some .boolean) Q 0 [some (.ref 384), some (zI v1), none, none] [] M) : Ev (d + 1) mX5_noteWhoHolds [.ref 384, zI v1] M Q := ⟨kX5_noteWhoHolds, Nat.le_of_ble_eq_true rfl, h⟩
theorem v_X5_noteWhoHolds_0 {E : zE} {Q : Int → zM → Prop} {M : zM} (v1 : Int)  (h : wp E 5 cX5_noteWhoHolds (some .boolean) Q 2 [some (.ref 384), some (zI v1), some (zI 0), none] [] M) : wp E 5 cX5_noteWhoHolds (some .boolean) Q 0 [some (.ref 384), some (zI v1), none, none] [] M := by
  refine w_iconst dX5_noteWhoHolds_0 ?_
  refine w_istore_n dX5_noteWhoHolds_1 (Nat.le_of_ble_eq_true rfl) rfl ?_
  exact w_fgt (fgk (fgk (fgk (fgd (fgn))))) h
theorem v_X5_noteWhoHolds_2 {E : zE} {Q : Int → zM → Prop} {M : zM} (v1 : Int) (v2 : Int)  (h : (zw v2 < zg M 192 5 → ((0 ≤ zw v2) ∧ ((zw v2 < 12) ∧ (∀ M3 : zM, M3 = zs M 386 (zw v2).toNat 0 → (wp E 5 cX5_noteWhoHolds (some .boolean) Q 22 [some (.ref 384), some (zI v1), some (zI v2), some (zI 0)] [] M3))))) ∧ (¬ zw v2 < zg M 192 5 → (Q 1 M))) : wp E 5 cX5_noteWhoHolds (some .boolean) Q 2 [some (.ref 384), some (zI v1), some (zI v2), none] [] M := by
  refine w_iload_n dX5_noteWhoHolds_2 rfl ?_
  refine w_aload_n dX5_noteWhoHolds_3 rfl ?_
  refine w_gfO (ci := 5) (k := 0) (q := 192) dX5_noteWhoHolds_4 f5_18 ob_384 rfl rfl ?_
  refine w_gfI (ci := 4) (k := 5) dX5_noteWhoHolds_7 f5_46 ob_192 rfl ?_
  refine w_icmp_ge (tgt := 120) dX5_noteWhoHolds_10 (by decide) rfl (zw_zg _ _ _) (fun q => ?_) (fun q => ?_)
  · have h := h.2 q
    refine w_iconst dX5_noteWhoHolds_120 ?_
    exact w_rz rfl dX5_noteWhoHolds_121 zq_1 (by decide) h
  · have h := h.1 q
    refine w_aload_n dX5_noteWhoHolds_13 rfl ?_
    refine w_gfA (ci := 5) (k := 1) dX5_noteWhoHolds_14 f5_9 ob_384 rfl ?_
    refine w_iload_n dX5_noteWhoHolds_17 rfl ?_
    refine w_iconst dX5_noteWhoHolds_18 ?_
    obtain ⟨c1, h⟩ := h
    obtain ⟨c2, h⟩ := h
    have h := h _ rfl
    refine w_iast dX5_noteWhoHolds_19 rfl (a5_1 ob_384) c1 c2 ?_
    refine w_iconst dX5_noteWhoHolds_20 ?_
    refine w_istore_n dX5_noteWhoHolds_21 (Nat.le_of_ble_eq_true rfl) rfl ?_
    exact w_fgt (fgk (fgk (fgk (fgk (fgn))))) h
theorem v_X5_noteWhoHolds_22 {E : zE} {Q : Int → zM → Prop} {M : zM} (v1 : Int) (v2 : Int) (v3 : Int)  (h : (zw v3 < zg M 192 5 → (E mX4_lives [.ref 192, zI v2, zI (zg M 384 3)] M (fun r1 M2 => (zw r1 = 0 → (wp E 5 cX5_noteWhoHolds (some .boolean) Q 98 [some (.ref 384), some (zI v1), some (zI v2), none] [] M2)) ∧ (¬ zw r1 = 0 → (E mX4_isBearer [.ref 192, zI v3, zI v1, zI (zg M2 384 3)] M2 (fun r3 M4 => (zw r3 = 0 → (wp E 5 cX5_noteWhoHolds (some .boolean) Q 22 [some (.ref 384), some (zI v1), some (zI v2), some (zI (v3 + 1))] [] M4)) ∧ (¬ zw r3 = 0 → (E mX4_wouldHold [.ref 192, zI v2, zI v3, zI (zg M4 384 3)] M4 (fun r5 M6 => (zw r5 = 0 → (wp E 5 cX5_noteWhoHolds (some .boolean) Q 22 [some (.ref 384), some (zI v1), some (zI v2), some (zI (v3 + 1))] [] M6)) ∧ (¬ zw r5 = 0 → ((0 ≤ zw v2) ∧ ((zw v2 < 12) ∧ ((0 ≤ zw v2) ∧ ((zw v2 < 12) ∧ (∀ M11 : zM, M11 = zs M6 386 (zw v2).toNat (z_or (zg M6 386 (zw v2).toNat) (z_shl 1 v3)) → (wp E 5 cX5_noteWhoHolds (some .boolean) Q 22 [some (.ref 384), some (zI v1), some (zI v2), some (zI (v3 + 1))] [] M11)))))))))))))))) ∧ (¬ zw v3 < zg M 192 5 → (wp E 5 cX5_noteWhoHolds (some .boolean) Q 98 [some (.ref 384), some (zI v1), some (zI v2), none] [] M))) : wp E 5 cX5_noteWhoHolds (some .boolean) Q 22 [some (.ref 384), some (zI v1), some (zI v2), some (zI v3)] [] M := by
  refine w_iload_n dX5_noteWhoHolds_22 rfl ?_
  refine w_aload_n dX5_noteWhoHolds_23 rfl ?_
  refine w_gfO (ci := 5) (k := 0) (q := 192) dX5_noteWhoHolds_24 f5_18 ob_384 rfl rfl ?_
  refine w_gfI (ci := 4) (k := 5) dX5_noteWhoHolds_27 f5_46 ob_192 rfl ?_
  refine w_icmp_ge (tgt := 98) dX5_noteWhoHolds_30 (by decide) rfl (zw_zg _ _ _) (fun q => ?_) (fun q => ?_)
  · have h := h.2 q
    exact w_fgt (fgk (fgk (fgk (fgd (fgn))))) h
  · have h := h.1 q
    refine w_aload_n dX5_noteWhoHolds_33 rfl ?_
    refine w_gfO (ci := 5) (k := 0) (q := 192) dX5_noteWhoHolds_34 f5_18 ob_384 rfl rfl ?_
    refine w_iload_n dX5_noteWhoHolds_37 rfl ?_
    refine w_aload_n dX5_noteWhoHolds_38 rfl ?_
    refine w_gfI (ci := 5) (k := 3) dX5_noteWhoHolds_39 f5_22 ob_384 rfl ?_
    refine w_invVi [_, _] dX5_noteWhoHolds_42 l5_49 kX4_lives rfl rfl (Nat.le_of_ble_eq_true rfl) (Or.inr rfl) ob_192 h (fun r1 M2 h => ?_)
    refine w_if_eq (tgt := 98) dX5_noteWhoHolds_45 (by decide) rfl (fun q => ?_) (fun q => ?_)
    · have h := h.1 q
      exact w_fgt (fgk (fgk (fgk (fgd (fgn))))) h
    · have h := h.2 q
      refine w_aload_n dX5_noteWhoHolds_48 rfl ?_
      refine w_gfO (ci := 5) (k := 0) (q := 192) dX5_noteWhoHolds_49 f5_18 ob_384 rfl rfl ?_
      refine w_iload_n dX5_noteWhoHolds_52 rfl ?_
      refine w_iload_n dX5_noteWhoHolds_53 rfl ?_
      refine w_aload_n dX5_noteWhoHolds_54 rfl ?_
      refine w_gfI (ci := 5) (k := 3) dX5_noteWhoHolds_55 f5_22 ob_384 rfl ?_
      refine w_invVi [_, _, _] dX5_noteWhoHolds_58 l5_52 kX4_isBearer rfl rfl (Nat.le_of_ble_eq_true rfl) (Or.inr rfl) ob_192 h (fun r3 M4 h => ?_)
      refine w_if_eq (tgt := 92) dX5_noteWhoHolds_61 (by decide) rfl (fun q => ?_) (fun q => ?_)
      · have h := h.1 q
        refine w_iinc dX5_noteWhoHolds_92 rfl rfl ?_
        refine w_goto (tgt := 22) dX5_noteWhoHolds_95 (by decide) ?_
        exact w_fgt (fgk (fgk (fgk (fgk (fgn))))) h
      · have h := h.2 q
        refine w_aload_n dX5_noteWhoHolds_64 rfl ?_
        refine w_gfO (ci := 5) (k := 0) (q := 192) dX5_noteWhoHolds_65 f5_18 ob_384 rfl rfl ?_
        refine w_iload_n dX5_noteWhoHolds_68 rfl ?_
        refine w_iload_n dX5_noteWhoHolds_69 rfl ?_
        refine w_aload_n dX5_noteWhoHolds_70 rfl ?_
        refine w_gfI (ci := 5) (k := 3) dX5_noteWhoHolds_71 f5_22 ob_384 rfl ?_
        refine w_invVi [_, _, _] dX5_noteWhoHolds_74 l5_56 kX4_wouldHold rfl rfl (Nat.le_of_ble_eq_true rfl) (Or.inr rfl) ob_192 h (fun r5 M6 h => ?_)
        refine w_if_eq (tgt := 92) dX5_noteWhoHolds_77 (by decide) rfl (fun q => ?_) (fun q => ?_)
        · have h := h.1 q
          refine w_iinc dX5_noteWhoHolds_92 rfl rfl ?_
          refine w_goto (tgt := 22) dX5_noteWhoHolds_95 (by decide) ?_
          exact w_fgt (fgk (fgk (fgk (fgk (fgn))))) h
        · have h := h.2 q
          refine w_aload_n dX5_noteWhoHolds_80 rfl ?_
          refine w_gfA (ci := 5) (k := 1) dX5_noteWhoHolds_81 f5_9 ob_384 rfl ?_
          refine w_iload_n dX5_noteWhoHolds_84 rfl ?_
          refine w_dup2 dX5_noteWhoHolds_85 rfl rfl ?_
          obtain ⟨c7, h⟩ := h
          obtain ⟨c8, h⟩ := h
          refine w_iald dX5_noteWhoHolds_86 rfl (a5_1 ob_384) c7 c8 ?_
          refine w_iconst dX5_noteWhoHolds_87 ?_
          refine w_iload_n dX5_noteWhoHolds_88 rfl ?_
          refine w_ishl dX5_noteWhoHolds_89 ?_
          refine w_ior dX5_noteWhoHolds_90 ?_
          obtain ⟨c9, h⟩ := h
          obtain ⟨c10, h⟩ := h
          have h := h _ rfl
          refine w_iast dX5_noteWhoHolds_91 rfl (a5_1 ob_384) c9 c10 ?_
          refine w_iinc dX5_noteWhoHolds_92 rfl rfl ?_
          refine w_goto (tgt := 22) dX5_noteWhoHolds_95 (by decide) ?_
          exact w_fgt (fgk (fgk (fgk (fgk (fgn))))) h
theorem v_X5_noteWhoHolds_98 {E : zE} {Q : Int → zM → Prop} {M : zM} (v1 : Int) (v2 : Int)  (h : (0 ≤ zw v2) ∧ ((zw v2 < 12) ∧ ((z_and (z_shr (zg M 386 (zw v2).toNat) v2) 1 = 1 → (Q 0 M)) ∧ (¬ z_and (z_shr (zg M 386 (zw v2).toNat) v2) 1 = 1 → (wp E 5 cX5_noteWhoHolds (some .boolean) Q 2 [some (.ref 384), some (zI v1), some (zI (v2 + 1)), none] [] M))))) : wp E 5 cX5_noteWhoHolds (some .boolean) Q 98 [some (.ref 384), some (zI v1), some (zI v2), none] [] M := by
  refine w_aload_n dX5_noteWhoHolds_98 rfl ?_
  refine w_gfA (ci := 5) (k := 1) dX5_noteWhoHolds_99 f5_9 ob_384 rfl ?_
  refine w_iload_n dX5_noteWhoHolds_102 rfl ?_
  obtain ⟨c1, h⟩ := h
  obtain ⟨c2, h⟩ := h
  refine w_iald dX5_noteWhoHolds_103 rfl (a5_1 ob_384) c1 c2 ?_
  refine w_iload_n dX5_noteWhoHolds_104 rfl ?_
  refine w_ishr dX5_noteWhoHolds_105 ?_
  refine w_iconst dX5_noteWhoHolds_106 ?_
  refine w_iand dX5_noteWhoHolds_107 ?_
  refine w_iconst dX5_noteWhoHolds_108 ?_
  refine w_icmp_ne (tgt := 114) dX5_noteWhoHolds_109 (by decide) (zx_and _ _) zq_1 (fun q => ?_) (fun q => ?_)
  · have h := h.2 q
    refine w_iinc dX5_noteWhoHolds_114 rfl rfl ?_
    refine w_goto (tgt := 2) dX5_noteWhoHolds_117 (by decide) ?_
    exact w_fgt (fgk (fgk (fgk (fgd (fgn))))) h
  · have h := h.1 q
    refine w_iconst dX5_noteWhoHolds_112 ?_
    exact w_rz rfl dX5_noteWhoHolds_113 zq_0 (by decide) h
theorem e_X5_seek {d : Nat} {Q : Int → zM → Prop} {M : zM} (v1 : Int) (v2 : Int) (v3 : Int) (h : wp (Ev d) 5 cX5_seek (none) Q 0 [some (.ref 384), some (zI v1), some (zI v2), some (zI v3), none, none, none] [] M) : Ev (d + 1) mX5_seek [.ref 384, zI v1, zI v2, zI v3] M Q := ⟨kX5_seek, Nat.le_of_ble_eq_true rfl, h⟩
theorem v_X5_seek_0 {E : zE} {Q : Int → zM → Prop} {M : zM} (v1 : Int) (v2 : Int) (v3 : Int)  (h : E mX5_chainWithout [.ref 384, zI v1] M (fun r1 M2 => (zw r1 = 0 → ((zw v3 < zg M2 384 5 → (∀ M3 : zM, M3 = zs M2 384 4 v1 → (∀ M4 : zM, M4 = zs M3 384 5 v3 → (Q 0 M4)))) ∧ (¬ zw v3 < zg M2 384 5 → ((zw v1 < zg M2 384 4 → (∀ M5 : zM, M5 = zs M2 384 4 v1 → (∀ M6 : zM, M6 = zs M5 384 5 v3 → (Q 0 M6)))) ∧ (¬ zw v1 < zg M2 384 4 → (Q 0 M2)))))) ∧ (¬ zw r1 = 0 → (wp E 5 cX5_seek (none) Q 45 [some (.ref 384), some (zI v1), none, some (zI v3), some (zI r1), some (zI v2), some (zI 0)] [] M2)))) : wp E 5 cX5_seek (none) Q 0 [some (.ref 384), some (zI v1), some (zI v2), some (zI v3), none, none, none] [] M := by
  refine w_aload_n dX5_seek_0 rfl ?_
  refine w_iload_n dX5_seek_1 rfl ?_
  refine w_invVi [_] dX5_seek_2 l5_59 kX5_chainWithout rfl rfl (Nat.le_of_ble_eq_true rfl) (Or.inl rfl) ob_384 h (fun r1 M2 h => ?_)
  refine w_istore dX5_seek_5 (Nat.le_of_ble_eq_true rfl) rfl ?_
  refine w_iload dX5_seek_7 rfl ?_
  refine w_if_ne (tgt := 39) dX5_seek_9 (by decide) rfl (fun q => ?_) (fun q => ?_)
  · have h := h.2 q
    refine w_iload_n dX5_seek_39 rfl ?_
    refine w_istore dX5_seek_40 (Nat.le_of_ble_eq_true rfl) rfl ?_
    refine w_iconst dX5_seek_42 ?_
    refine w_istore dX5_seek_43 (Nat.le_of_ble_eq_true rfl) rfl ?_
    exact w_fgt (fgk (fgk (fgd (fgk (fgk (fgk (fgk (fgn)))))))) h
  · have h := h.1 q
    refine w_iload_n dX5_seek_12 rfl ?_
    refine w_aload_n dX5_seek_13 rfl ?_
    refine w_gfI (ci := 5) (k := 5) dX5_seek_14 f5_39 ob_384 rfl ?_
    refine w_icmp_lt (tgt := 28) dX5_seek_17 (by decide) rfl (zw_zg _ _ _) (fun q => ?_) (fun q => ?_)
    · have h := h.1 q
      refine w_aload_n dX5_seek_28 rfl ?_
      refine w_iload_n dX5_seek_29 rfl ?_
      have h := h _ rfl
      refine w_pfI (ci := 5) (k := 4) dX5_seek_30 f5_36 ob_384 rfl rfl rfl ?_
      refine w_aload_n dX5_seek_33 rfl ?_
      refine w_iload_n dX5_seek_34 rfl ?_
      have h := h _ rfl
      refine w_pfI (ci := 5) (k := 5) dX5_seek_35 f5_39 ob_384 rfl rfl rfl ?_
      exact w_rv rfl dX5_seek_38 h
    · have h := h.2 q
      refine w_iload_n dX5_seek_20 rfl ?_
      refine w_aload_n dX5_seek_21 rfl ?_
      refine w_gfI (ci := 5) (k := 4) dX5_seek_22 f5_36 ob_384 rfl ?_
      refine w_icmp_ge (tgt := 38) dX5_seek_25 (by decide) rfl (zw_zg _ _ _) (fun q => ?_) (fun q => ?_)
      · have h := h.2 q
        exact w_rv rfl dX5_seek_38 h
      · have h := h.1 q
        refine w_aload_n dX5_seek_28 rfl ?_
        refine w_iload_n dX5_seek_29 rfl ?_
        have h := h _ rfl
        refine w_pfI (ci := 5) (k := 4) dX5_seek_30 f5_36 ob_384 rfl rfl rfl ?_
        refine w_aload_n dX5_seek_33 rfl ?_
        refine w_iload_n dX5_seek_34 rfl ?_
        have h := h _ rfl
        refine w_pfI (ci := 5) (k := 5) dX5_seek_35 f5_39 ob_384 rfl rfl rfl ?_
        exact w_rv rfl dX5_seek_38 h
theorem v_X5_seek_45 {E : zE} {Q : Int → zM → Prop} {M : zM} (v1 : Int) (v3 : Int) (v4 : Int) (v5 : Int) (v6 : Int)  (h : (zw v6 < 16 → ((zw v3 < zg M 384 5 → ((zw v3 < 16 → ((z_shr (z_and v4 (z_xor v5 (-1))) v6 = 0 → (Q 0 M)) ∧ (¬ z_shr (z_and v4 (z_xor v5 (-1))) v6 = 0 → ((z_and (z_shr (z_and v4 (z_xor v5 (-1))) v6) 1 = 1 → (E mX5_seek [.ref 384, zI (z_or v1 (z_shl 1 v6)), zI v5, zI (v3 + 1)] M (fun r1 M2 => wp E 5 cX5_seek (none) Q 45 [some (.ref 384), some (zI v1), none, some (zI v3), some (zI v4), some (zI (z_or v5 (z_shl 1 v6))), some (zI (v6 + 1))] [] M2))) ∧ (¬ z_and (z_shr (z_and v4 (z_xor v5 (-1))) v6) 1 = 1 → (wp E 5 cX5_seek (none) Q 45 [some (.ref 384), some (zI v1), none, some (zI v3), some (zI v4), some (zI v5), some (zI (v6 + 1))] [] M)))))) ∧ (¬ zw v3 < 16 → (Q 0 M)))) ∧ (¬ zw v3 < zg M 384 5 → (Q 0 M)))) ∧ (¬ zw v6 < 16 → (Q 0 M))) : wp E 5 cX5_seek (none) Q 45 [some (.ref 384), some (zI v1), none, some (zI v3), some (zI v4), some (zI v5), some (zI v6)] [] M := by
  refine w_iload dX5_seek_45 rfl ?_
  refine w_bipush dX5_seek_47 (by decide) ?_
  refine w_icmp_ge (tgt := 126) dX5_seek_49 (by decide) rfl zq_16 (fun q => ?_) (fun q => ?_)
  · have h := h.2 q
    exact w_rv rfl dX5_seek_126 h
  · have h := h.1 q
    refine w_iload_n dX5_seek_52 rfl ?_
    refine w_aload_n dX5_seek_53 rfl ?_
    refine w_gfI (ci := 5) (k := 5) dX5_seek_54 f5_39 ob_384 rfl ?_
    refine w_icmp_ge (tgt := 126) dX5_seek_57 (by decide) rfl (zw_zg _ _ _) (fun q => ?_) (fun q => ?_)
    · have h := h.2 q
      exact w_rv rfl dX5_seek_126 h
    · have h := h.1 q
      refine w_iload_n dX5_seek_60 rfl ?_
      refine w_bipush dX5_seek_61 (by decide) ?_
      refine w_icmp_ge (tgt := 126) dX5_seek_63 (by decide) rfl zq_16 (fun q => ?_) (fun q => ?_)
      · have h := h.2 q
        exact w_rv rfl dX5_seek_126 h
      · have h := h.1 q
        refine w_iload dX5_seek_66 rfl ?_
        refine w_iload dX5_seek_68 rfl ?_
        refine w_iconst dX5_seek_70 ?_
        refine w_ixor dX5_seek_71 ?_
        refine w_iand dX5_seek_72 ?_
        refine w_iload dX5_seek_73 rfl ?_
        refine w_ishr dX5_seek_75 ?_
        refine w_if_ne (tgt := 80) dX5_seek_76 (by decide) (zx_shr _ _) (fun q => ?_) (fun q => ?_)
        · have h := h.2 q
          refine w_iload dX5_seek_80 rfl ?_
          refine w_iload dX5_seek_82 rfl ?_
          refine w_iconst dX5_seek_84 ?_
          refine w_ixor dX5_seek_85 ?_
          refine w_iand dX5_seek_86 ?_
          refine w_iload dX5_seek_87 rfl ?_
          refine w_ishr dX5_seek_89 ?_
          refine w_iconst dX5_seek_90 ?_
          refine w_iand dX5_seek_91 ?_
          refine w_iconst dX5_seek_92 ?_
          refine w_icmp_ne (tgt := 120) dX5_seek_93 (by decide) (zx_and _ _) zq_1 (fun q => ?_) (fun q => ?_)
          · have h := h.2 q
            refine w_iinc dX5_seek_120 rfl rfl ?_
            refine w_goto (tgt := 45) dX5_seek_123 (by decide) ?_
            exact w_fgt (fgk (fgk (fgd (fgk (fgk (fgk (fgk (fgn)))))))) h
          · have h := h.1 q
            refine w_aload_n dX5_seek_96 rfl ?_
            refine w_iload_n dX5_seek_97 rfl ?_
            refine w_iconst dX5_seek_98 ?_
            refine w_iload dX5_seek_99 rfl ?_
            refine w_ishl dX5_seek_101 ?_
            refine w_ior dX5_seek_102 ?_
            refine w_iload dX5_seek_103 rfl ?_
            refine w_iload_n dX5_seek_105 rfl ?_
            refine w_iconst dX5_seek_106 ?_
            refine w_iadd dX5_seek_107 ?_
            refine w_invVv [_, _, _] dX5_seek_108 l5_42 kX5_seek rfl rfl (Nat.le_of_ble_eq_true rfl) rfl ob_384 h (fun r1 M2 h => ?_)
            refine w_iload dX5_seek_111 rfl ?_
            refine w_iconst dX5_seek_113 ?_
            refine w_iload dX5_seek_114 rfl ?_
            refine w_ishl dX5_seek_116 ?_
            refine w_ior dX5_seek_117 ?_
            refine w_istore dX5_seek_118 (Nat.le_of_ble_eq_true rfl) rfl ?_
            refine w_iinc dX5_seek_120 rfl rfl ?_
            refine w_goto (tgt := 45) dX5_seek_123 (by decide) ?_
            exact w_fgt (fgk (fgk (fgd (fgk (fgk (fgk (fgk (fgn)))))))) h
        · have h := h.1 q
          exact w_rv rfl dX5_seek_79 h
theorem e_X5_chainWithout {d : Nat} {Q : Int → zM → Prop} {M : zM} (v1 : Int) (h : wp (Ev d) 5 cX5_chainWithout (some .int) Q 0 [some (.ref 384), some (zI v1), none, none, none] [] M) : Ev (d + 1) mX5_chainWithout [.ref 384, zI v1] M Q := ⟨kX5_chainWithout, Nat.le_of_ble_eq_true rfl, h⟩
theorem v_X5_chainWithout_0 {E : zE} {Q : Int → zM → Prop} {M : zM} (v1 : Int)  (h : E mX4_knowOneself [.ref 192] M (fun r1 M2 => wp E 5 cX5_chainWithout (some .int) Q 9 [some (.ref 384), some (zI v1), some (zI 0), none, none] [] M2)) : wp E 5 cX5_chainWithout (some .int) Q 0 [some (.ref 384), some (zI v1), none, none, none] [] M := by
  refine w_aload_n dX5_chainWithout_0 rfl ?_
  refine w_gfO (ci := 5) (k := 0) (q := 192) dX5_chainWithout_1 f5_18 ob_384 rfl rfl ?_
  refine w_invVv [] dX5_chainWithout_4 l5_63 kX4_knowOneself rfl rfl (Nat.le_of_ble_eq_true rfl) rfl ob_192 h (fun r1 M2 h => ?_)
  refine w_iconst dX5_chainWithout_7 ?_
  refine w_istore_n dX5_chainWithout_8 (Nat.le_of_ble_eq_true rfl) rfl ?_
  exact w_fgt (fgk (fgk (fgk (fgd (fgd (fgn)))))) h
theorem v_X5_chainWithout_9 {E : zE} {Q : Int → zM → Prop} {M : zM} (v1 : Int) (v2 : Int)  (h : (zw v2 < zg M 192 10 → ((0 ≤ zw v2) ∧ ((zw v2 < 16) ∧ ((z_and (z_shr v1 (zg M 202 (zw v2).toNat)) 1 = 0 → (E mX4_countsBy [.ref 192, zI (zg M 202 (zw v2).toNat), zI (zg M 384 3)] M (fun r3 M4 => (zw r3 = 0 → (wp E 5 cX5_chainWithout (some .int) Q 9 [some (.ref 384), some (zI v1), some (zI (v2 + 1)), none, none] [] M4)) ∧ (¬ zw r3 = 0 → (E mX5_greetAndNote [.ref 384, zI (zg M 202 (zw v2).toNat)] M4 (fun r5 M6 => wp E 5 cX5_chainWithout (some .int) Q 9 [some (.ref 384), some (zI v1), some (zI (v2 + 1)), none, none] [] M6)))))) ∧ (¬ z_and (z_shr v1 (zg M 202 (zw v2).toNat)) 1 = 0 → (wp E 5 cX5_chainWithout (some .int) Q 9 [some (.ref 384), some (zI v1), some (zI (v2 + 1)), none, none] [] M)))))) ∧ (¬ zw v2 < zg M 192 10 → (wp E 5 cX5_chainWithout (some .int) Q 66 [some (.ref 384), none, some (zI 0), none, none] [] M))) : wp E 5 cX5_chainWithout (some .int) Q 9 [some (.ref 384), some (zI v1), some (zI v2), none, none] [] M := by
  refine w_iload_n dX5_chainWithout_9 rfl ?_
  refine w_aload_n dX5_chainWithout_10 rfl ?_
  refine w_gfO (ci := 5) (k := 0) (q := 192) dX5_chainWithout_11 f5_18 ob_384 rfl rfl ?_
  refine w_gfI (ci := 4) (k := 10) dX5_chainWithout_14 f5_66 ob_192 rfl ?_
  refine w_icmp_ge (tgt := 64) dX5_chainWithout_17 (by decide) rfl (zw_zg _ _ _) (fun q => ?_) (fun q => ?_)
  · have h := h.2 q
    refine w_iconst dX5_chainWithout_64 ?_
    refine w_istore_n dX5_chainWithout_65 (Nat.le_of_ble_eq_true rfl) rfl ?_
    exact w_fgt (fgk (fgd (fgk (fgd (fgd (fgn)))))) h
  · have h := h.1 q
    refine w_aload_n dX5_chainWithout_20 rfl ?_
    refine w_gfO (ci := 5) (k := 0) (q := 192) dX5_chainWithout_21 f5_18 ob_384 rfl rfl ?_
    refine w_gfA (ci := 4) (k := 9) dX5_chainWithout_24 f5_69 ob_192 rfl ?_
    refine w_iload_n dX5_chainWithout_27 rfl ?_
    obtain ⟨c1, h⟩ := h
    obtain ⟨c2, h⟩ := h
    refine w_iald dX5_chainWithout_28 rfl (a4_9 ob_192) c1 c2 ?_
    refine w_istore_n dX5_chainWithout_29 (Nat.le_of_ble_eq_true rfl) rfl ?_
    refine w_iload_n dX5_chainWithout_30 rfl ?_
    refine w_iload_n dX5_chainWithout_31 rfl ?_
    refine w_ishr dX5_chainWithout_32 ?_
    refine w_iconst dX5_chainWithout_33 ?_
    refine w_iand dX5_chainWithout_34 ?_
    refine w_if_ne (tgt := 58) dX5_chainWithout_35 (by decide) (zx_and _ _) (fun q => ?_) (fun q => ?_)
    · have h := h.2 q
      refine w_iinc dX5_chainWithout_58 rfl rfl ?_
      refine w_goto (tgt := 9) dX5_chainWithout_61 (by decide) ?_
      exact w_fgt (fgk (fgk (fgk (fgd (fgd (fgn)))))) h
    · have h := h.1 q
      refine w_aload_n dX5_chainWithout_38 rfl ?_
      refine w_gfO (ci := 5) (k := 0) (q := 192) dX5_chainWithout_39 f5_18 ob_384 rfl rfl ?_
      refine w_iload_n dX5_chainWithout_42 rfl ?_
      refine w_aload_n dX5_chainWithout_43 rfl ?_
      refine w_gfI (ci := 5) (k := 3) dX5_chainWithout_44 f5_22 ob_384 rfl ?_
      refine w_invVi [_, _] dX5_chainWithout_47 l5_72 kX4_countsBy rfl rfl (Nat.le_of_ble_eq_true rfl) (Or.inr rfl) ob_192 h (fun r3 M4 h => ?_)
      refine w_if_eq (tgt := 58) dX5_chainWithout_50 (by decide) rfl (fun q => ?_) (fun q => ?_)
      · have h := h.1 q
        refine w_iinc dX5_chainWithout_58 rfl rfl ?_
        refine w_goto (tgt := 9) dX5_chainWithout_61 (by decide) ?_
        exact w_fgt (fgk (fgk (fgk (fgd (fgd (fgn)))))) h
      · have h := h.2 q
        refine w_aload_n dX5_chainWithout_53 rfl ?_
        refine w_iload_n dX5_chainWithout_54 rfl ?_
        refine w_invVv [_] dX5_chainWithout_55 l5_75 kX5_greetAndNote rfl rfl (Nat.le_of_ble_eq_true rfl) rfl ob_384 h (fun r5 M6 h => ?_)
        refine w_iinc dX5_chainWithout_58 rfl rfl ?_
        refine w_goto (tgt := 9) dX5_chainWithout_61 (by decide) ?_
        exact w_fgt (fgk (fgk (fgk (fgd (fgd (fgn)))))) h
theorem v_X5_chainWithout_66 {E : zE} {Q : Int → zM → Prop} {M : zM} (v2 : Int)  (h : (zw v2 < zg M 192 5 → ((0 ≤ zw v2) ∧ ((zw v2 < 12) ∧ ((0 ≤ zw v2) ∧ ((zw v2 < 12) ∧ (wp E 5 cX5_chainWithout (some .int) Q 97 [some (.ref 384), none, some (zI v2), some (zI (z_and (zg M 207 (zw v2).toNat) (zg M 386 (zw v2).toNat))), some (zI 0)] [] M)))))) ∧ (¬ zw v2 < zg M 192 5 → (Q 0 M))) : wp E 5 cX5_chainWithout (some .int) Q 66 [some (.ref 384), none, some (zI v2), none, none] [] M := by
  refine w_iload_n dX5_chainWithout_66 rfl ?_
  refine w_aload_n dX5_chainWithout_67 rfl ?_
  refine w_gfO (ci := 5) (k := 0) (q := 192) dX5_chainWithout_68 f5_18 ob_384 rfl rfl ?_
  refine w_gfI (ci := 4) (k := 5) dX5_chainWithout_71 f5_46 ob_192 rfl ?_
  refine w_icmp_ge (tgt := 143) dX5_chainWithout_74 (by decide) rfl (zw_zg _ _ _) (fun q => ?_) (fun q => ?_)
  · have h := h.2 q
    refine w_iconst dX5_chainWithout_143 ?_
    exact w_ri rfl dX5_chainWithout_144 zq_0 h
  · have h := h.1 q
    refine w_aload_n dX5_chainWithout_77 rfl ?_
    refine w_gfO (ci := 5) (k := 0) (q := 192) dX5_chainWithout_78 f5_18 ob_384 rfl rfl ?_
    refine w_gfA (ci := 4) (k := 14) dX5_chainWithout_81 f5_79 ob_192 rfl ?_
    refine w_iload_n dX5_chainWithout_84 rfl ?_
    obtain ⟨c1, h⟩ := h
    obtain ⟨c2, h⟩ := h
    refine w_iald dX5_chainWithout_85 rfl (a4_14 ob_192) c1 c2 ?_
    refine w_aload_n dX5_chainWithout_86 rfl ?_
    refine w_gfA (ci := 5) (k := 1) dX5_chainWithout_87 f5_9 ob_384 rfl ?_
    refine w_iload_n dX5_chainWithout_90 rfl ?_
    obtain ⟨c3, h⟩ := h
    obtain ⟨c4, h⟩ := h
    refine w_iald dX5_chainWithout_91 rfl (a5_1 ob_384) c3 c4 ?_
    refine w_iand dX5_chainWithout_92 ?_
    refine w_istore_n dX5_chainWithout_93 (Nat.le_of_ble_eq_true rfl) rfl ?_
    refine w_iconst dX5_chainWithout_94 ?_
    refine w_istore dX5_chainWithout_95 (Nat.le_of_ble_eq_true rfl) rfl ?_
    exact w_fgt (fgk (fgd (fgk (fgk (fgk (fgn)))))) h
theorem v_X5_chainWithout_97 {E : zE} {Q : Int → zM → Prop} {M : zM} (v2 : Int) (v3 : Int) (v4 : Int)  (h : (zw v4 < zg M 192 5 → ((zw v3 = 0 → (wp E 5 cX5_chainWithout (some .int) Q 66 [some (.ref 384), none, some (zI (v2 + 1)), none, none] [] M)) ∧ (¬ zw v3 = 0 → ((z_and (z_shr v3 v4) 1 = 1 → (E mX5_chainOf [.ref 384, zI v2, zI v4] M (fun r1 M2 => Q (zw r1) M2))) ∧ (¬ z_and (z_shr v3 v4) 1 = 1 → (wp E 5 cX5_chainWithout (some .int) Q 97 [some (.ref 384), none, some (zI v2), some (zI v3), some (zI (v4 + 1))] [] M)))))) ∧ (¬ zw v4 < zg M 192 5 → (wp E 5 cX5_chainWithout (some .int) Q 66 [some (.ref 384), none, some (zI (v2 + 1)), none, none] [] M))) : wp E 5 cX5_chainWithout (some .int) Q 97 [some (.ref 384), none, some (zI v2), some (zI v3), some (zI v4)] [] M := by
  refine w_iload dX5_chainWithout_97 rfl ?_
  refine w_aload_n dX5_chainWithout_99 rfl ?_
  refine w_gfO (ci := 5) (k := 0) (q := 192) dX5_chainWithout_100 f5_18 ob_384 rfl rfl ?_
  refine w_gfI (ci := 4) (k := 5) dX5_chainWithout_103 f5_46 ob_192 rfl ?_
  refine w_icmp_ge (tgt := 137) dX5_chainWithout_106 (by decide) rfl (zw_zg _ _ _) (fun q => ?_) (fun q => ?_)
  · have h := h.2 q
    refine w_iinc dX5_chainWithout_137 rfl rfl ?_
    refine w_goto (tgt := 66) dX5_chainWithout_140 (by decide) ?_
    exact w_fgt (fgk (fgd (fgk (fgd (fgd (fgn)))))) h
  · have h := h.1 q
    refine w_iload_n dX5_chainWithout_109 rfl ?_
    refine w_if_eq (tgt := 137) dX5_chainWithout_110 (by decide) rfl (fun q => ?_) (fun q => ?_)
    · have h := h.1 q
      refine w_iinc dX5_chainWithout_137 rfl rfl ?_
      refine w_goto (tgt := 66) dX5_chainWithout_140 (by decide) ?_
      exact w_fgt (fgk (fgd (fgk (fgd (fgd (fgn)))))) h
    · have h := h.2 q
      refine w_iload_n dX5_chainWithout_113 rfl ?_
      refine w_iload dX5_chainWithout_114 rfl ?_
      refine w_ishr dX5_chainWithout_116 ?_
      refine w_iconst dX5_chainWithout_117 ?_
      refine w_iand dX5_chainWithout_118 ?_
      refine w_iconst dX5_chainWithout_119 ?_
      refine w_icmp_ne (tgt := 131) dX5_chainWithout_120 (by decide) (zx_and _ _) zq_1 (fun q => ?_) (fun q => ?_)
      · have h := h.2 q
        refine w_iinc dX5_chainWithout_131 rfl rfl ?_
        refine w_goto (tgt := 97) dX5_chainWithout_134 (by decide) ?_
        exact w_fgt (fgk (fgd (fgk (fgk (fgk (fgn)))))) h
      · have h := h.1 q
        refine w_aload_n dX5_chainWithout_123 rfl ?_
        refine w_iload_n dX5_chainWithout_124 rfl ?_
        refine w_iload dX5_chainWithout_125 rfl ?_
        refine w_invVi [_, _] dX5_chainWithout_127 l5_82 kX5_chainOf rfl rfl (Nat.le_of_ble_eq_true rfl) (Or.inl rfl) ob_384 h (fun r1 M2 h => ?_)
        exact w_ri rfl dX5_chainWithout_130 rfl h
theorem e_X5_greetAndNote {d : Nat} {Q : Int → zM → Prop} {M : zM} (v1 : Int) (h : wp (Ev d) 5 cX5_greetAndNote (none) Q 0 [some (.ref 384), some (zI v1), none, none, none, none] [] M) : Ev (d + 1) mX5_greetAndNote [.ref 384, zI v1] M Q := ⟨kX5_greetAndNote, Nat.le_of_ble_eq_true rfl, h⟩
theorem v_X5_greetAndNote_0 {E : zE} {Q : Int → zM → Prop} {M : zM} (v1 : Int)  (h : (0 ≤ zw v1) ∧ ((zw v1 < 16) ∧ ((0 ≤ zw v1) ∧ ((zw v1 < 16) ∧ ((0 ≤ zg M 199 (zw v1).toNat) ∧ ((zg M 199 (zw v1).toNat < 12) ∧ ((0 ≤ zg M 200 (zw v1).toNat) ∧ ((zg M 200 (zw v1).toNat < 12) ∧ (E mX4_greet [.ref 192, zI v1] M (fun r9 M10 => (0 ≤ zg M 199 (zw v1).toNat) ∧ ((zg M 199 (zw v1).toNat < 12) ∧ (E mX5_noteLearnt [.ref 384, zI (zg M 199 (zw v1).toNat), zI (z_and (zg M10 207 (zg M 199 (zw v1).toNat).toNat) (z_xor (zg M 207 (zg M 199 (zw v1).toNat).toNat) (-1))), zI v1] M10 (fun r13 M14 => (0 ≤ zg M 200 (zw v1).toNat) ∧ ((zg M 200 (zw v1).toNat < 12) ∧ (E mX5_noteLearnt [.ref 384, zI (zg M 200 (zw v1).toNat), zI (z_and (zg M14 207 (zg M 200 (zw v1).toNat).toNat) (z_xor (zg M 207 (zg M 200 (zw v1).toNat).toNat) (-1))), zI v1] M14 (fun r17 M18 => Q 0 M18)))))))))))))))) : wp E 5 cX5_greetAndNote (none) Q 0 [some (.ref 384), some (zI v1), none, none, none, none] [] M := by
  refine w_aload_n dX5_greetAndNote_0 rfl ?_
  refine w_gfO (ci := 5) (k := 0) (q := 192) dX5_greetAndNote_1 f5_18 ob_384 rfl rfl ?_
  refine w_gfA (ci := 4) (k := 6) dX5_greetAndNote_4 f5_86 ob_192 rfl ?_
  refine w_iload_n dX5_greetAndNote_7 rfl ?_
  obtain ⟨c1, h⟩ := h
  obtain ⟨c2, h⟩ := h
  refine w_iald dX5_greetAndNote_8 rfl (a4_6 ob_192) c1 c2 ?_
  refine w_istore_n dX5_greetAndNote_9 (Nat.le_of_ble_eq_true rfl) rfl ?_
  refine w_aload_n dX5_greetAndNote_10 rfl ?_
  refine w_gfO (ci := 5) (k := 0) (q := 192) dX5_greetAndNote_11 f5_18 ob_384 rfl rfl ?_
  refine w_gfA (ci := 4) (k := 7) dX5_greetAndNote_14 f5_89 ob_192 rfl ?_
  refine w_iload_n dX5_greetAndNote_17 rfl ?_
  obtain ⟨c3, h⟩ := h
  obtain ⟨c4, h⟩ := h
  refine w_iald dX5_greetAndNote_18 rfl (a4_7 ob_192) c3 c4 ?_
  refine w_istore_n dX5_greetAndNote_19 (Nat.le_of_ble_eq_true rfl) rfl ?_
  refine w_aload_n dX5_greetAndNote_20 rfl ?_
  refine w_gfO (ci := 5) (k := 0) (q := 192) dX5_greetAndNote_21 f5_18 ob_384 rfl rfl ?_
  refine w_gfA (ci := 4) (k := 14) dX5_greetAndNote_24 f5_79 ob_192 rfl ?_
  refine w_iload_n dX5_greetAndNote_27 rfl ?_
  obtain ⟨c5, h⟩ := h
  obtain ⟨c6, h⟩ := h
  refine w_iald dX5_greetAndNote_28 (zw_zg _ _ _) (a4_14 ob_192) c5 c6 ?_
  refine w_istore dX5_greetAndNote_29 (Nat.le_of_ble_eq_true rfl) rfl ?_
  refine w_aload_n dX5_greetAndNote_31 rfl ?_
  refine w_gfO (ci := 5) (k := 0) (q := 192) dX5_greetAndNote_32 f5_18 ob_384 rfl rfl ?_
  refine w_gfA (ci := 4) (k := 14) dX5_greetAndNote_35 f5_79 ob_192 rfl ?_
  refine w_iload_n dX5_greetAndNote_38 rfl ?_
  obtain ⟨c7, h⟩ := h
  obtain ⟨c8, h⟩ := h
  refine w_iald dX5_greetAndNote_39 (zw_zg _ _ _) (a4_14 ob_192) c7 c8 ?_
  refine w_istore dX5_greetAndNote_40 (Nat.le_of_ble_eq_true rfl) rfl ?_
  refine w_aload_n dX5_greetAndNote_42 rfl ?_
  refine w_gfO (ci := 5) (k := 0) (q := 192) dX5_greetAndNote_43 f5_18 ob_384 rfl rfl ?_
  refine w_iload_n dX5_greetAndNote_46 rfl ?_
  refine w_invVv [_] dX5_greetAndNote_47 l5_92 kX4_greet rfl rfl (Nat.le_of_ble_eq_true rfl) rfl ob_192 h (fun r9 M10 h => ?_)
  refine w_aload_n dX5_greetAndNote_50 rfl ?_
  refine w_iload_n dX5_greetAndNote_51 rfl ?_
  refine w_aload_n dX5_greetAndNote_52 rfl ?_
  refine w_gfO (ci := 5) (k := 0) (q := 192) dX5_greetAndNote_53 f5_18 ob_384 rfl rfl ?_
  refine w_gfA (ci := 4) (k := 14) dX5_greetAndNote_56 f5_79 ob_192 rfl ?_
  refine w_iload_n dX5_greetAndNote_59 rfl ?_
  obtain ⟨c11, h⟩ := h
  obtain ⟨c12, h⟩ := h
  refine w_iald dX5_greetAndNote_60 (zw_zg _ _ _) (a4_14 ob_192) c11 c12 ?_
  refine w_iload dX5_greetAndNote_61 rfl ?_
  refine w_iconst dX5_greetAndNote_63 ?_
  refine w_ixor dX5_greetAndNote_64 ?_
  refine w_iand dX5_greetAndNote_65 ?_
  refine w_iload_n dX5_greetAndNote_66 rfl ?_
  refine w_invVv [_, _, _] dX5_greetAndNote_67 l5_95 kX5_noteLearnt rfl rfl (Nat.le_of_ble_eq_true rfl) rfl ob_384 h (fun r13 M14 h => ?_)
  refine w_aload_n dX5_greetAndNote_70 rfl ?_
  refine w_iload_n dX5_greetAndNote_71 rfl ?_
  refine w_aload_n dX5_greetAndNote_72 rfl ?_
  refine w_gfO (ci := 5) (k := 0) (q := 192) dX5_greetAndNote_73 f5_18 ob_384 rfl rfl ?_
  refine w_gfA (ci := 4) (k := 14) dX5_greetAndNote_76 f5_79 ob_192 rfl ?_
  refine w_iload_n dX5_greetAndNote_79 rfl ?_
  obtain ⟨c15, h⟩ := h
  obtain ⟨c16, h⟩ := h
  refine w_iald dX5_greetAndNote_80 (zw_zg _ _ _) (a4_14 ob_192) c15 c16 ?_
  refine w_iload dX5_greetAndNote_81 rfl ?_
  refine w_iconst dX5_greetAndNote_83 ?_
  refine w_ixor dX5_greetAndNote_84 ?_
  refine w_iand dX5_greetAndNote_85 ?_
  refine w_iload_n dX5_greetAndNote_86 rfl ?_
  refine w_invVv [_, _, _] dX5_greetAndNote_87 l5_95 kX5_noteLearnt rfl rfl (Nat.le_of_ble_eq_true rfl) rfl ob_384 h (fun r17 M18 h => ?_)
  exact w_rv rfl dX5_greetAndNote_90 h
theorem e_X5_noteLearnt {d : Nat} {Q : Int → zM → Prop} {M : zM} (v1 : Int) (v2 : Int) (v3 : Int) (h : wp (Ev d) 5 cX5_noteLearnt (none) Q 0 [some (.ref 384), some (zI v1), some (zI v2), some (zI v3), none] [] M) : Ev (d + 1) mX5_noteLearnt [.ref 384, zI v1, zI v2, zI v3] M Q := ⟨kX5_noteLearnt, Nat.le_of_ble_eq_true rfl, h⟩
theorem v_X5_noteLearnt_0 {E : zE} {Q : Int → zM → Prop} {M : zM} (v1 : Int) (v2 : Int) (v3 : Int)  (h : wp E 5 cX5_noteLearnt (none) Q 3 [some (.ref 384), some (zI v1), some (zI v2), some (zI v3), some (zI 0)] [] M) : wp E 5 cX5_noteLearnt (none) Q 0 [some (.ref 384), some (zI v1), some (zI v2), some (zI v3), none] [] M := by
  refine w_iconst dX5_noteLearnt_0 ?_
  refine w_istore dX5_noteLearnt_1 (Nat.le_of_ble_eq_true rfl) rfl ?_
  exact w_fgt (fgk (fgk (fgk (fgk (fgk (fgn)))))) h
theorem v_X5_noteLearnt_3 {E : zE} {Q : Int → zM → Prop} {M : zM} (v1 : Int) (v2 : Int) (v3 : Int) (v4 : Int)  (h : (zw v4 < 12 → ((z_shr v2 v4 = 0 → (Q 0 M)) ∧ (¬ z_shr v2 v4 = 0 → ((z_and (z_shr v2 v4) 1 = 1 → ((0 ≤ zw ((v1 * 12) + v4)) ∧ ((zw ((v1 * 12) + v4) < 144) ∧ (∀ M3 : zM, M3 = zs M 387 (zw ((v1 * 12) + v4)).toNat v3 → (wp E 5 cX5_noteLearnt (none) Q 3 [some (.ref 384), some (zI v1), some (zI v2), some (zI v3), some (zI (v4 + 1))] [] M3))))) ∧ (¬ z_and (z_shr v2 v4) 1 = 1 → (wp E 5 cX5_noteLearnt (none) Q 3 [some (.ref 384), some (zI v1), some (zI v2), some (zI v3), some (zI (v4 + 1))] [] M)))))) ∧ (¬ zw v4 < 12 → (Q 0 M))) : wp E 5 cX5_noteLearnt (none) Q 3 [some (.ref 384), some (zI v1), some (zI v2), some (zI v3), some (zI v4)] [] M := by
  refine w_iload dX5_noteLearnt_3 rfl ?_
  refine w_bipush dX5_noteLearnt_5 (by decide) ?_
  refine w_icmp_ge (tgt := 46) dX5_noteLearnt_7 (by decide) rfl zq_12 (fun q => ?_) (fun q => ?_)
  · have h := h.2 q
    exact w_rv rfl dX5_noteLearnt_46 h
  · have h := h.1 q
    refine w_iload_n dX5_noteLearnt_10 rfl ?_
    refine w_iload dX5_noteLearnt_11 rfl ?_
    refine w_ishr dX5_noteLearnt_13 ?_
    refine w_if_eq (tgt := 46) dX5_noteLearnt_14 (by decide) (zx_shr _ _) (fun q => ?_) (fun q => ?_)
    · have h := h.1 q
      exact w_rv rfl dX5_noteLearnt_46 h
    · have h := h.2 q
      refine w_iload_n dX5_noteLearnt_17 rfl ?_
      refine w_iload dX5_noteLearnt_18 rfl ?_
      refine w_ishr dX5_noteLearnt_20 ?_
      refine w_iconst dX5_noteLearnt_21 ?_
      refine w_iand dX5_noteLearnt_22 ?_
      refine w_iconst dX5_noteLearnt_23 ?_
      refine w_icmp_ne (tgt := 40) dX5_noteLearnt_24 (by decide) (zx_and _ _) zq_1 (fun q => ?_) (fun q => ?_)
      · have h := h.2 q
        refine w_iinc dX5_noteLearnt_40 rfl rfl ?_
        refine w_goto (tgt := 3) dX5_noteLearnt_43 (by decide) ?_
        exact w_fgt (fgk (fgk (fgk (fgk (fgk (fgn)))))) h
      · have h := h.1 q
        refine w_aload_n dX5_noteLearnt_27 rfl ?_
        refine w_gfA (ci := 5) (k := 2) dX5_noteLearnt_28 f5_15 ob_384 rfl ?_
        refine w_iload_n dX5_noteLearnt_31 rfl ?_
        refine w_bipush dX5_noteLearnt_32 (by decide) ?_
        refine w_imul dX5_noteLearnt_34 ?_
        refine w_iload dX5_noteLearnt_35 rfl ?_
        refine w_iadd dX5_noteLearnt_37 ?_
        refine w_iload_n dX5_noteLearnt_38 rfl ?_
        obtain ⟨c1, h⟩ := h
        obtain ⟨c2, h⟩ := h
        have h := h _ rfl
        refine w_iast dX5_noteLearnt_39 rfl (a5_2 ob_384) c1 c2 ?_
        refine w_iinc dX5_noteLearnt_40 rfl rfl ?_
        refine w_goto (tgt := 3) dX5_noteLearnt_43 (by decide) ?_
        exact w_fgt (fgk (fgk (fgk (fgk (fgk (fgn)))))) h
theorem e_X5_chainOf {d : Nat} {Q : Int → zM → Prop} {M : zM} (v1 : Int) (v2 : Int) (h : wp (Ev d) 5 cX5_chainOf (some .int) Q 0 [some (.ref 384), some (zI v1), some (zI v2), none, none, none, none] [] M) : Ev (d + 1) mX5_chainOf [.ref 384, zI v1, zI v2] M Q := ⟨kX5_chainOf, Nat.le_of_ble_eq_true rfl, h⟩
theorem v_X5_chainOf_0 {E : zE} {Q : Int → zM → Prop} {M : zM} (v1 : Int) (v2 : Int)  (h : wp E 5 cX5_chainOf (some .int) Q 8 [some (.ref 384), none, some (zI v2), some (zI 0), some (zI v1), some (zI 0), none] [] M) : wp E 5 cX5_chainOf (some .int) Q 0 [some (.ref 384), some (zI v1), some (zI v2), none, none, none, none] [] M := by
  refine w_iconst dX5_chainOf_0 ?_
  refine w_istore_n dX5_chainOf_1 (Nat.le_of_ble_eq_true rfl) rfl ?_
  refine w_iload_n dX5_chainOf_2 rfl ?_
  refine w_istore dX5_chainOf_3 (Nat.le_of_ble_eq_true rfl) rfl ?_
  refine w_iconst dX5_chainOf_5 ?_
  refine w_istore dX5_chainOf_6 (Nat.le_of_ble_eq_true rfl) rfl ?_
  exact w_fgt (fgk (fgd (fgk (fgk (fgk (fgk (fgd (fgn)))))))) h
theorem v_X5_chainOf_8 {E : zE} {Q : Int → zM → Prop} {M : zM} (v2 : Int) (v3 : Int) (v4 : Int) (v5 : Int)  (h : (zw v5 < 16 → ((zw v4 = zw v2 → (Q (zw v3) M)) ∧ (¬ zw v4 = zw v2 → ((0 ≤ zw ((v4 * 12) + v2)) ∧ ((zw ((v4 * 12) + v2) < 144) ∧ ((0 ≤ zg M 387 (zw ((v4 * 12) + v2)).toNat) ∧ ((zg M 387 (zw ((v4 * 12) + v2)).toNat < 16) ∧ ((zg M 199 (zg M 387 (zw ((v4 * 12) + v2)).toNat).toNat = zw v4 → ((0 ≤ zg M 387 (zw ((v4 * 12) + v2)).toNat) ∧ ((zg M 387 (zw ((v4 * 12) + v2)).toNat < 16) ∧ (wp E 5 cX5_chainOf (some .int) Q 8 [some (.ref 384), none, some (zI v2), some (zI (z_or v3 (z_shl 1 (zg M 387 (zw ((v4 * 12) + v2)).toNat)))), some (zI (zg M 200 (zg M 387 (zw ((v4 * 12) + v2)).toNat).toNat)), some (zI (v5 + 1)), none] [] M)))) ∧ (¬ zg M 199 (zg M 387 (zw ((v4 * 12) + v2)).toNat).toNat = zw v4 → ((0 ≤ zg M 387 (zw ((v4 * 12) + v2)).toNat) ∧ ((zg M 387 (zw ((v4 * 12) + v2)).toNat < 16) ∧ (wp E 5 cX5_chainOf (some .int) Q 8 [some (.ref 384), none, some (zI v2), some (zI (z_or v3 (z_shl 1 (zg M 387 (zw ((v4 * 12) + v2)).toNat)))), some (zI (zg M 199 (zg M 387 (zw ((v4 * 12) + v2)).toNat).toNat)), some (zI (v5 + 1)), none] [] M)))))))))))) ∧ (¬ zw v5 < 16 → (Q (zw v3) M))) : wp E 5 cX5_chainOf (some .int) Q 8 [some (.ref 384), none, some (zI v2), some (zI v3), some (zI v4), some (zI v5), none] [] M := by
  refine w_iload dX5_chainOf_8 rfl ?_
  refine w_bipush dX5_chainOf_10 (by decide) ?_
  refine w_icmp_ge (tgt := 88) dX5_chainOf_12 (by decide) rfl zq_16 (fun q => ?_) (fun q => ?_)
  · have h := h.2 q
    refine w_iload_n dX5_chainOf_88 rfl ?_
    exact w_ri rfl dX5_chainOf_89 rfl h
  · have h := h.1 q
    refine w_iload dX5_chainOf_15 rfl ?_
    refine w_iload_n dX5_chainOf_17 rfl ?_
    refine w_icmp_eq (tgt := 88) dX5_chainOf_18 (by decide) rfl rfl (fun q => ?_) (fun q => ?_)
    · have h := h.1 q
      refine w_iload_n dX5_chainOf_88 rfl ?_
      exact w_ri rfl dX5_chainOf_89 rfl h
    · have h := h.2 q
      refine w_aload_n dX5_chainOf_21 rfl ?_
      refine w_gfA (ci := 5) (k := 2) dX5_chainOf_22 f5_15 ob_384 rfl ?_
      refine w_iload dX5_chainOf_25 rfl ?_
      refine w_bipush dX5_chainOf_27 (by decide) ?_
      refine w_imul dX5_chainOf_29 ?_
      refine w_iload_n dX5_chainOf_30 rfl ?_
      refine w_iadd dX5_chainOf_31 ?_
      obtain ⟨c1, h⟩ := h
      obtain ⟨c2, h⟩ := h
      refine w_iald dX5_chainOf_32 rfl (a5_2 ob_384) c1 c2 ?_
      refine w_istore dX5_chainOf_33 (Nat.le_of_ble_eq_true rfl) rfl ?_
      refine w_iload_n dX5_chainOf_35 rfl ?_
      refine w_iconst dX5_chainOf_36 ?_
      refine w_iload dX5_chainOf_37 rfl ?_
      refine w_ishl dX5_chainOf_39 ?_
      refine w_ior dX5_chainOf_40 ?_
      refine w_istore_n dX5_chainOf_41 (Nat.le_of_ble_eq_true rfl) rfl ?_
      refine w_aload_n dX5_chainOf_42 rfl ?_
      refine w_gfO (ci := 5) (k := 0) (q := 192) dX5_chainOf_43 f5_18 ob_384 rfl rfl ?_
      refine w_gfA (ci := 4) (k := 6) dX5_chainOf_46 f5_86 ob_192 rfl ?_
      refine w_iload dX5_chainOf_49 rfl ?_
      obtain ⟨c3, h⟩ := h
      obtain ⟨c4, h⟩ := h
      refine w_iald dX5_chainOf_51 (zw_zg _ _ _) (a4_6 ob_192) c3 c4 ?_
      refine w_iload dX5_chainOf_52 rfl ?_
      refine w_icmp_ne (tgt := 70) dX5_chainOf_54 (by decide) (zw_zg _ _ _) rfl (fun q => ?_) (fun q => ?_)
      · have h := h.2 q
        refine w_aload_n dX5_chainOf_70 rfl ?_
        refine w_gfO (ci := 5) (k := 0) (q := 192) dX5_chainOf_71 f5_18 ob_384 rfl rfl ?_
        refine w_gfA (ci := 4) (k := 6) dX5_chainOf_74 f5_86 ob_192 rfl ?_
        refine w_iload dX5_chainOf_77 rfl ?_
        obtain ⟨c5, h⟩ := h
        obtain ⟨c6, h⟩ := h
        refine w_iald dX5_chainOf_79 (zw_zg _ _ _) (a4_6 ob_192) c5 c6 ?_
        refine w_istore dX5_chainOf_80 (Nat.le_of_ble_eq_true rfl) rfl ?_
        refine w_iinc dX5_chainOf_82 rfl rfl ?_
        refine w_goto (tgt := 8) dX5_chainOf_85 (by decide) ?_
        exact w_fgt (fgk (fgd (fgk (fgk (fgk (fgk (fgd (fgn)))))))) h
      · have h := h.1 q
        refine w_aload_n dX5_chainOf_57 rfl ?_
        refine w_gfO (ci := 5) (k := 0) (q := 192) dX5_chainOf_58 f5_18 ob_384 rfl rfl ?_
        refine w_gfA (ci := 4) (k := 7) dX5_chainOf_61 f5_89 ob_192 rfl ?_
        refine w_iload dX5_chainOf_64 rfl ?_
        obtain ⟨c7, h⟩ := h
        obtain ⟨c8, h⟩ := h
        refine w_iald dX5_chainOf_66 (zw_zg _ _ _) (a4_7 ob_192) c7 c8 ?_
        refine w_goto (tgt := 80) dX5_chainOf_67 (by decide) ?_
        refine w_istore dX5_chainOf_80 (Nat.le_of_ble_eq_true rfl) rfl ?_
        refine w_iinc dX5_chainOf_82 rfl rfl ?_
        refine w_goto (tgt := 8) dX5_chainOf_85 (by decide) ?_
        exact w_fgt (fgk (fgd (fgk (fgk (fgk (fgk (fgd (fgn)))))))) h
