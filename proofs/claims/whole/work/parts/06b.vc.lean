theorem e_X2_takeByte {d : Nat} {Q : Int → zM → Prop} {M : zM} (v1 : Int) (h : wp (Ev d) 2 cX2_takeByte (some .int) Q 0 [some (.ref 128), some (zI v1)] [] M) : Ev (d + 1) mX2_takeByte [.ref 128, zI v1] M Q := ⟨kX2_takeByte, Nat.le_of_ble_eq_true rfl, h⟩
theorem v_X2_takeByte_0 {E : zE} {Q : Int → zM → Prop} {M : zM} (v1 : Int)  (h : (zg M 128 1 < 120 → ((0 ≤ zg M 128 1) ∧ ((zg M 128 1 < 120) ∧ (∀ M3 : zM, M3 = zs M 129 (zg M 128 1).toNat v1 → (∀ M4 : zM, M4 = zs M3 128 1 ((zg M3 128 1) + 1) → (Q (zg M4 128 1) M4)))))) ∧ (¬ zg M 128 1 < 120 → (Q (-3) M))) : wp E 2 cX2_takeByte (some .int) Q 0 [some (.ref 128), some (zI v1)] [] M := by
  refine w_aload_n dX2_takeByte_0 rfl ?_
  refine w_gfI (ci := 2) (k := 1) dX2_takeByte_1 f2_27 ob_128 rfl ?_
  refine w_bipush dX2_takeByte_4 (by decide) ?_
  refine w_icmp_lt (tgt := 12) dX2_takeByte_6 (by decide) (zw_zg _ _ _) zq_120 (fun q => ?_) (fun q => ?_)
  · have h := h.1 q
    refine w_aload_n dX2_takeByte_12 rfl ?_
    refine w_gfA (ci := 2) (k := 0) dX2_takeByte_13 f2_11 ob_128 rfl ?_
    refine w_aload_n dX2_takeByte_16 rfl ?_
    refine w_gfI (ci := 2) (k := 1) dX2_takeByte_17 f2_27 ob_128 rfl ?_
    refine w_iload_n dX2_takeByte_20 rfl ?_
    obtain ⟨c1, h⟩ := h
    obtain ⟨c2, h⟩ := h
    have h := h _ rfl
    refine w_iast dX2_takeByte_21 (zw_zg _ _ _) (a2_0 ob_128) c1 c2 ?_
    refine w_aload_n dX2_takeByte_22 rfl ?_
    refine w_dup dX2_takeByte_23 rfl ?_
    refine w_gfI (ci := 2) (k := 1) dX2_takeByte_24 f2_27 ob_128 rfl ?_
    refine w_iconst dX2_takeByte_27 ?_
    refine w_iadd dX2_takeByte_28 ?_
    have h := h _ rfl
    refine w_pfI (ci := 2) (k := 1) dX2_takeByte_29 f2_27 ob_128 rfl rfl rfl ?_
    refine w_aload_n dX2_takeByte_32 rfl ?_
    refine w_gfI (ci := 2) (k := 1) dX2_takeByte_33 f2_27 ob_128 rfl ?_
    exact w_ri rfl dX2_takeByte_36 (zw_zg _ _ _) h
  · have h := h.2 q
    refine w_bipush dX2_takeByte_9 (by decide) ?_
    exact w_ri rfl dX2_takeByte_11 zq_m3 h
theorem e_X2_takeTape {d : Nat} {Q : Int → zM → Prop} {M : zM}  (h : wp (Ev d) 2 cX2_takeTape (some .int) Q 0 [some (.ref 128)] [] M) : Ev (d + 1) mX2_takeTape [.ref 128] M Q := ⟨kX2_takeTape, Nat.le_of_ble_eq_true rfl, h⟩
theorem v_X2_takeTape_0 {E : zE} {Q : Int → zM → Prop} {M : zM}   (h : ∀ M1 : zM, M1 = zs M 128 3 0 → (∀ M2 : zM, M2 = zs M1 128 4 0 → (∀ M3 : zM, M3 = zs M2 128 5 (-1) → (E mX2_readLines [.ref 128] M3 (fun r4 M5 => ∀ M6 : zM, M6 = zs M5 128 1 0 → ((zg M6 128 5 = (-1) → ((0 ≤ zg M6 128 3) ∧ ((0 + zg M6 128 3 ≤ 120) ∧ ((0 + zg M6 128 3 ≤ 120) ∧ (∀ M10 : zM, M10 = zci M6 131 135 0 0 (zg M6 128 3).toNat → (∀ M11 : zM, M11 = zs M10 128 7 (zg M10 128 3) → (Q (zg M11 128 5) M11))))))) ∧ (¬ zg M6 128 5 = (-1) → (Q (zg M6 128 5) M6)))))))) : wp E 2 cX2_takeTape (some .int) Q 0 [some (.ref 128)] [] M := by
  refine w_aload_n dX2_takeTape_0 rfl ?_
  refine w_iconst dX2_takeTape_1 ?_
  have h := h _ rfl
  refine w_pfI (ci := 2) (k := 3) dX2_takeTape_2 f2_31 ob_128 rfl rfl rfl ?_
  refine w_aload_n dX2_takeTape_5 rfl ?_
  refine w_iconst dX2_takeTape_6 ?_
  have h := h _ rfl
  refine w_pfI (ci := 2) (k := 4) dX2_takeTape_7 f2_34 ob_128 rfl rfl rfl ?_
  refine w_aload_n dX2_takeTape_10 rfl ?_
  refine w_iconst dX2_takeTape_11 ?_
  have h := h _ rfl
  refine w_pfI (ci := 2) (k := 5) dX2_takeTape_12 f2_37 ob_128 rfl rfl rfl ?_
  refine w_aload_n dX2_takeTape_15 rfl ?_
  refine w_invVv [] dX2_takeTape_16 l2_40 kX2_readLines rfl rfl (Nat.le_of_ble_eq_true rfl) rfl ob_128 h (fun r4 M5 h => ?_)
  refine w_aload_n dX2_takeTape_19 rfl ?_
  refine w_iconst dX2_takeTape_20 ?_
  have h := h _ rfl
  refine w_pfI (ci := 2) (k := 1) dX2_takeTape_21 f2_27 ob_128 rfl rfl rfl ?_
  refine w_aload_n dX2_takeTape_24 rfl ?_
  refine w_gfI (ci := 2) (k := 5) dX2_takeTape_25 f2_37 ob_128 rfl ?_
  refine w_iconst dX2_takeTape_28 ?_
  refine w_icmp_ne (tgt := 57) dX2_takeTape_29 (by decide) (zw_zg _ _ _) zq_m1 (fun q => ?_) (fun q => ?_)
  · have h := h.2 q
    refine w_aload_n dX2_takeTape_57 rfl ?_
    refine w_gfI (ci := 2) (k := 5) dX2_takeTape_58 f2_37 ob_128 rfl ?_
    exact w_ri rfl dX2_takeTape_61 (zw_zg _ _ _) h
  · have h := h.1 q
    refine w_aload_n dX2_takeTape_32 rfl ?_
    refine w_gfA (ci := 2) (k := 2) dX2_takeTape_33 f2_15 ob_128 rfl ?_
    refine w_iconst dX2_takeTape_36 ?_
    refine w_aload_n dX2_takeTape_37 rfl ?_
    refine w_gfA (ci := 2) (k := 6) dX2_takeTape_38 f2_18 ob_128 rfl ?_
    refine w_iconst dX2_takeTape_41 ?_
    refine w_aload_n dX2_takeTape_42 rfl ?_
    refine w_gfI (ci := 2) (k := 3) dX2_takeTape_43 f2_31 ob_128 rfl ?_
    obtain ⟨c7, h⟩ := h
    obtain ⟨c8, h⟩ := h
    obtain ⟨c9, h⟩ := h
    have h := h _ rfl
    refine w_cpyi dX2_takeTape_46 (a2_2 ob_128) (a2_6 ob_128) l2_43 zq_0 zq_0 (zw_zg _ _ _) (by decide) (by decide) c7 c8 c9 (Nat.le_of_ble_eq_true rfl) ?_
    refine w_aload_n dX2_takeTape_49 rfl ?_
    refine w_aload_n dX2_takeTape_50 rfl ?_
    refine w_gfI (ci := 2) (k := 3) dX2_takeTape_51 f2_31 ob_128 rfl ?_
    have h := h _ rfl
    refine w_pfI (ci := 2) (k := 7) dX2_takeTape_54 f2_49 ob_128 rfl rfl rfl ?_
    refine w_aload_n dX2_takeTape_57 rfl ?_
    refine w_gfI (ci := 2) (k := 5) dX2_takeTape_58 f2_37 ob_128 rfl ?_
    exact w_ri rfl dX2_takeTape_61 (zw_zg _ _ _) h
theorem e_X2_readLines {d : Nat} {Q : Int → zM → Prop} {M : zM}  (h : wp (Ev d) 2 cX2_readLines (none) Q 0 [some (.ref 128), none] [] M) : Ev (d + 1) mX2_readLines [.ref 128] M Q := ⟨kX2_readLines, Nat.le_of_ble_eq_true rfl, h⟩
theorem v_X2_readLines_0 {E : zE} {Q : Int → zM → Prop} {M : zM}   (h : E mX2_readLine [.ref 128] M (fun r1 M2 => wp E 2 cX2_readLines (none) Q 6 [some (.ref 128), some (zI 0)] [] M2)) : wp E 2 cX2_readLines (none) Q 0 [some (.ref 128), none] [] M := by
  refine w_aload_n dX2_readLines_0 rfl ?_
  refine w_invVv [] dX2_readLines_1 l2_52 kX2_readLine rfl rfl (Nat.le_of_ble_eq_true rfl) rfl ob_128 h (fun r1 M2 h => ?_)
  refine w_iconst dX2_readLines_4 ?_
  refine w_istore_n dX2_readLines_5 (Nat.le_of_ble_eq_true rfl) rfl ?_
  exact w_fgt (fgk (fgk (fgn))) h
theorem v_X2_readLines_6 {E : zE} {Q : Int → zM → Prop} {M : zM} (v1 : Int)  (h : (zw v1 < 120 → ((zg M 128 5 = (-1) → (E mX2_nextByte [.ref 128] M (fun r1 M2 => (zw r1 = 59 → (E mX2_draftSign [.ref 128] M2 (fun r3 M4 => E mX2_readLine [.ref 128] M4 (fun r5 M6 => wp E 2 cX2_readLines (none) Q 6 [some (.ref 128), some (zI (v1 + 1))] [] M6)))) ∧ (¬ zw r1 = 59 → (wp E 2 cX2_readLines (none) Q 43 [some (.ref 128), none] [] M2))))) ∧ (¬ zg M 128 5 = (-1) → (wp E 2 cX2_readLines (none) Q 43 [some (.ref 128), none] [] M)))) ∧ (¬ zw v1 < 120 → (wp E 2 cX2_readLines (none) Q 43 [some (.ref 128), none] [] M))) : wp E 2 cX2_readLines (none) Q 6 [some (.ref 128), some (zI v1)] [] M := by
  refine w_iload_n dX2_readLines_6 rfl ?_
  refine w_bipush dX2_readLines_7 (by decide) ?_
  refine w_icmp_ge (tgt := 43) dX2_readLines_9 (by decide) rfl zq_120 (fun q => ?_) (fun q => ?_)
  · have h := h.2 q
    exact w_fgt (fgk (fgd (fgn))) h
  · have h := h.1 q
    refine w_aload_n dX2_readLines_12 rfl ?_
    refine w_gfI (ci := 2) (k := 5) dX2_readLines_13 f2_37 ob_128 rfl ?_
    refine w_iconst dX2_readLines_16 ?_
    refine w_icmp_ne (tgt := 43) dX2_readLines_17 (by decide) (zw_zg _ _ _) zq_m1 (fun q => ?_) (fun q => ?_)
    · have h := h.2 q
      exact w_fgt (fgk (fgd (fgn))) h
    · have h := h.1 q
      refine w_aload_n dX2_readLines_20 rfl ?_
      refine w_invVi [] dX2_readLines_21 l2_55 kX2_nextByte rfl rfl (Nat.le_of_ble_eq_true rfl) (Or.inl rfl) ob_128 h (fun r1 M2 h => ?_)
      refine w_bipush dX2_readLines_24 (by decide) ?_
      refine w_icmp_ne (tgt := 43) dX2_readLines_26 (by decide) rfl zq_59 (fun q => ?_) (fun q => ?_)
      · have h := h.2 q
        exact w_fgt (fgk (fgd (fgn))) h
      · have h := h.1 q
        refine w_aload_n dX2_readLines_29 rfl ?_
        refine w_invVv [] dX2_readLines_30 l2_59 kX2_draftSign rfl rfl (Nat.le_of_ble_eq_true rfl) rfl ob_128 h (fun r3 M4 h => ?_)
        refine w_aload_n dX2_readLines_33 rfl ?_
        refine w_invVv [] dX2_readLines_34 l2_52 kX2_readLine rfl rfl (Nat.le_of_ble_eq_true rfl) rfl ob_128 h (fun r5 M6 h => ?_)
        refine w_iinc dX2_readLines_37 rfl rfl ?_
        refine w_goto (tgt := 6) dX2_readLines_40 (by decide) ?_
        exact w_fgt (fgk (fgk (fgn))) h
theorem v_X2_readLines_43 {E : zE} {Q : Int → zM → Prop} {M : zM}   (h : E mX2_nextByte [.ref 128] M (fun r1 M2 => (zw r1 = (-1) → (Q 0 M2)) ∧ (¬ zw r1 = (-1) → (E mX2_refuse [.ref 128] M2 (fun r3 M4 => Q 0 M4))))) : wp E 2 cX2_readLines (none) Q 43 [some (.ref 128), none] [] M := by
  refine w_aload_n dX2_readLines_43 rfl ?_
  refine w_invVi [] dX2_readLines_44 l2_55 kX2_nextByte rfl rfl (Nat.le_of_ble_eq_true rfl) (Or.inl rfl) ob_128 h (fun r1 M2 h => ?_)
  refine w_iconst dX2_readLines_47 ?_
  refine w_icmp_eq (tgt := 55) dX2_readLines_48 (by decide) rfl zq_m1 (fun q => ?_) (fun q => ?_)
  · have h := h.1 q
    exact w_rv rfl dX2_readLines_55 h
  · have h := h.2 q
    refine w_aload_n dX2_readLines_51 rfl ?_
    refine w_invVv [] dX2_readLines_52 l2_62 kX2_refuse rfl rfl (Nat.le_of_ble_eq_true rfl) rfl ob_128 h (fun r3 M4 h => ?_)
    exact w_rv rfl dX2_readLines_55 h
theorem e_X2_readLine {d : Nat} {Q : Int → zM → Prop} {M : zM}  (h : wp (Ev d) 2 cX2_readLine (none) Q 0 [some (.ref 128)] [] M) : Ev (d + 1) mX2_readLine [.ref 128] M Q := ⟨kX2_readLine, Nat.le_of_ble_eq_true rfl, h⟩
theorem v_X2_readLine_0 {E : zE} {Q : Int → zM → Prop} {M : zM}   (h : E mX2_readRank [.ref 128, zI 0, zI 0] M (fun r1 M2 => (zg M2 128 5 = (-1) → (E mX2_nextByte [.ref 128] M2 (fun r3 M4 => (zw r3 = 63 → (E mX2_draftSign [.ref 128] M4 (fun r5 M6 => E mX2_readRank [.ref 128, zI 0, zI 0] M6 (fun r7 M8 => Q 0 M8)))) ∧ (¬ zw r3 = 63 → (Q 0 M4))))) ∧ (¬ zg M2 128 5 = (-1) → (Q 0 M2)))) : wp E 2 cX2_readLine (none) Q 0 [some (.ref 128)] [] M := by
  refine w_aload_n dX2_readLine_0 rfl ?_
  refine w_iconst dX2_readLine_1 ?_
  refine w_iconst dX2_readLine_2 ?_
  refine w_invVv [_, _] dX2_readLine_3 l2_65 kX2_readRank rfl rfl (Nat.le_of_ble_eq_true rfl) rfl ob_128 h (fun r1 M2 h => ?_)
  refine w_aload_n dX2_readLine_6 rfl ?_
  refine w_gfI (ci := 2) (k := 5) dX2_readLine_7 f2_37 ob_128 rfl ?_
  refine w_iconst dX2_readLine_10 ?_
  refine w_icmp_ne (tgt := 33) dX2_readLine_11 (by decide) (zw_zg _ _ _) zq_m1 (fun q => ?_) (fun q => ?_)
  · have h := h.2 q
    exact w_rv rfl dX2_readLine_33 h
  · have h := h.1 q
    refine w_aload_n dX2_readLine_14 rfl ?_
    refine w_invVi [] dX2_readLine_15 l2_55 kX2_nextByte rfl rfl (Nat.le_of_ble_eq_true rfl) (Or.inl rfl) ob_128 h (fun r3 M4 h => ?_)
    refine w_bipush dX2_readLine_18 (by decide) ?_
    refine w_icmp_ne (tgt := 33) dX2_readLine_20 (by decide) rfl zq_63 (fun q => ?_) (fun q => ?_)
    · have h := h.2 q
      exact w_rv rfl dX2_readLine_33 h
    · have h := h.1 q
      refine w_aload_n dX2_readLine_23 rfl ?_
      refine w_invVv [] dX2_readLine_24 l2_59 kX2_draftSign rfl rfl (Nat.le_of_ble_eq_true rfl) rfl ob_128 h (fun r5 M6 h => ?_)
      refine w_aload_n dX2_readLine_27 rfl ?_
      refine w_iconst dX2_readLine_28 ?_
      refine w_iconst dX2_readLine_29 ?_
      refine w_invVv [_, _] dX2_readLine_30 l2_65 kX2_readRank rfl rfl (Nat.le_of_ble_eq_true rfl) rfl ob_128 h (fun r7 M8 h => ?_)
      exact w_rv rfl dX2_readLine_33 h
theorem e_X2_readRank {d : Nat} {Q : Int → zM → Prop} {M : zM} (v1 : Int) (v2 : Int) (h : wp (Ev d) 2 cX2_readRank (none) Q 0 [some (.ref 128), some (zI v1), some (zI v2), none, none] [] M) : Ev (d + 1) mX2_readRank [.ref 128, zI v1, zI v2] M Q := ⟨kX2_readRank, Nat.le_of_ble_eq_true rfl, h⟩
theorem v_X2_readRank_0 {E : zE} {Q : Int → zM → Prop} {M : zM} (v1 : Int) (v2 : Int)  (h : (zw v1 < 5 → (E mX2_readRank [.ref 128, zI (v1 + 1), zI v2] M (fun r1 M2 => wp E 2 cX2_readRank (none) Q 21 [some (.ref 128), some (zI v1), some (zI v2), some (zI 0), none] [] M2))) ∧ (¬ zw v1 < 5 → (E mX2_readOperand [.ref 128, zI v2] M (fun r3 M4 => Q 0 M4)))) : wp E 2 cX2_readRank (none) Q 0 [some (.ref 128), some (zI v1), some (zI v2), none, none] [] M := by
  refine w_iload_n dX2_readRank_0 rfl ?_
  refine w_iconst dX2_readRank_1 ?_
  refine w_icmp_lt (tgt := 11) dX2_readRank_2 (by decide) rfl zq_5 (fun q => ?_) (fun q => ?_)
  · have h := h.1 q
    refine w_aload_n dX2_readRank_11 rfl ?_
    refine w_iload_n dX2_readRank_12 rfl ?_
    refine w_iconst dX2_readRank_13 ?_
    refine w_iadd dX2_readRank_14 ?_
    refine w_iload_n dX2_readRank_15 rfl ?_
    refine w_invVv [_, _] dX2_readRank_16 l2_65 kX2_readRank rfl rfl (Nat.le_of_ble_eq_true rfl) rfl ob_128 h (fun r1 M2 h => ?_)
    refine w_iconst dX2_readRank_19 ?_
    refine w_istore_n dX2_readRank_20 (Nat.le_of_ble_eq_true rfl) rfl ?_
    exact w_fgt (fgk (fgk (fgk (fgk (fgd (fgn)))))) h
  · have h := h.2 q
    refine w_aload_n dX2_readRank_5 rfl ?_
    refine w_iload_n dX2_readRank_6 rfl ?_
    refine w_invVv [_] dX2_readRank_7 l2_69 kX2_readOperand rfl rfl (Nat.le_of_ble_eq_true rfl) rfl ob_128 h (fun r3 M4 h => ?_)
    exact w_rv rfl dX2_readRank_10 h
theorem v_X2_readRank_21 {E : zE} {Q : Int → zM → Prop} {M : zM} (v1 : Int) (v2 : Int) (v3 : Int)  (h : (zw v3 < 120 → ((zg M 128 5 = (-1) → (E mX2_nextByte [.ref 128] M (fun r1 M2 => E mX2_rankOf [zI r1] M2 (fun r3 M4 => (zw r3 = zw v1 → (E mX2_nextByte [.ref 128] M4 (fun r5 M6 => ∀ M7 : zM, M7 = zs M6 128 4 ((zg M6 128 4) + 1) → (E mX2_readRank [.ref 128, zI (v1 + 1), zI v2] M7 (fun r8 M9 => E mX2_draftCode [.ref 128, zI (-r5)] M9 (fun r10 M11 => (zw v1 = 2 → (Q 0 M11)) ∧ (¬ zw v1 = 2 → (wp E 2 cX2_readRank (none) Q 21 [some (.ref 128), some (zI v1), some (zI v2), some (zI (v3 + 1)), none] [] M11)))))))) ∧ (¬ zw r3 = zw v1 → (Q 0 M4)))))) ∧ (¬ zg M 128 5 = (-1) → (Q 0 M)))) ∧ (¬ zw v3 < 120 → (Q 0 M))) : wp E 2 cX2_readRank (none) Q 21 [some (.ref 128), some (zI v1), some (zI v2), some (zI v3), none] [] M := by
  refine w_iload_n dX2_readRank_21 rfl ?_
  refine w_bipush dX2_readRank_22 (by decide) ?_
  refine w_icmp_ge (tgt := 89) dX2_readRank_24 (by decide) rfl zq_120 (fun q => ?_) (fun q => ?_)
  · have h := h.2 q
    exact w_rv rfl dX2_readRank_89 h
  · have h := h.1 q
    refine w_aload_n dX2_readRank_27 rfl ?_
    refine w_gfI (ci := 2) (k := 5) dX2_readRank_28 f2_37 ob_128 rfl ?_
    refine w_iconst dX2_readRank_31 ?_
    refine w_icmp_ne (tgt := 89) dX2_readRank_32 (by decide) (zw_zg _ _ _) zq_m1 (fun q => ?_) (fun q => ?_)
    · have h := h.2 q
      exact w_rv rfl dX2_readRank_89 h
    · have h := h.1 q
      refine w_aload_n dX2_readRank_35 rfl ?_
      refine w_invVi [] dX2_readRank_36 l2_55 kX2_nextByte rfl rfl (Nat.le_of_ble_eq_true rfl) (Or.inl rfl) ob_128 h (fun r1 M2 h => ?_)
      refine w_invSi [_] dX2_readRank_39 l2_73 kX2_rankOf rfl rfl (Nat.le_of_ble_eq_true rfl) (Or.inl rfl) h (fun r3 M4 h => ?_)
      refine w_iload_n dX2_readRank_42 rfl ?_
      refine w_icmp_ne (tgt := 89) dX2_readRank_43 (by decide) rfl rfl (fun q => ?_) (fun q => ?_)
      · have h := h.2 q
        exact w_rv rfl dX2_readRank_89 h
      · have h := h.1 q
        refine w_aload_n dX2_readRank_46 rfl ?_
        refine w_invVi [] dX2_readRank_47 l2_55 kX2_nextByte rfl rfl (Nat.le_of_ble_eq_true rfl) (Or.inl rfl) ob_128 h (fun r5 M6 h => ?_)
        refine w_istore dX2_readRank_50 (Nat.le_of_ble_eq_true rfl) rfl ?_
        refine w_aload_n dX2_readRank_52 rfl ?_
        refine w_dup dX2_readRank_53 rfl ?_
        refine w_gfI (ci := 2) (k := 4) dX2_readRank_54 f2_34 ob_128 rfl ?_
        refine w_iconst dX2_readRank_57 ?_
        refine w_iadd dX2_readRank_58 ?_
        have h := h _ rfl
        refine w_pfI (ci := 2) (k := 4) dX2_readRank_59 f2_34 ob_128 rfl rfl rfl ?_
        refine w_aload_n dX2_readRank_62 rfl ?_
        refine w_iload_n dX2_readRank_63 rfl ?_
        refine w_iconst dX2_readRank_64 ?_
        refine w_iadd dX2_readRank_65 ?_
        refine w_iload_n dX2_readRank_66 rfl ?_
        refine w_invVv [_, _] dX2_readRank_67 l2_65 kX2_readRank rfl rfl (Nat.le_of_ble_eq_true rfl) rfl ob_128 h (fun r8 M9 h => ?_)
        refine w_aload_n dX2_readRank_70 rfl ?_
        refine w_iload dX2_readRank_71 rfl ?_
        refine w_ineg dX2_readRank_73 ?_
        refine w_invVv [_] dX2_readRank_74 l2_77 kX2_draftCode rfl rfl (Nat.le_of_ble_eq_true rfl) rfl ob_128 h (fun r10 M11 h => ?_)
        refine w_iload_n dX2_readRank_77 rfl ?_
        refine w_iconst dX2_readRank_78 ?_
        refine w_icmp_ne (tgt := 83) dX2_readRank_79 (by decide) rfl zq_2 (fun q => ?_) (fun q => ?_)
        · have h := h.2 q
          refine w_iinc dX2_readRank_83 rfl rfl ?_
          refine w_goto (tgt := 21) dX2_readRank_86 (by decide) ?_
          exact w_fgt (fgk (fgk (fgk (fgk (fgd (fgn)))))) h
        · have h := h.1 q
          exact w_rv rfl dX2_readRank_82 h
theorem e_X2_readOperand {d : Nat} {Q : Int → zM → Prop} {M : zM} (v1 : Int) (h : wp (Ev d) 2 cX2_readOperand (none) Q 0 [some (.ref 128), some (zI v1), none] [] M) : Ev (d + 1) mX2_readOperand [.ref 128, zI v1] M Q := ⟨kX2_readOperand, Nat.le_of_ble_eq_true rfl, h⟩
theorem v_X2_readOperand_0 {E : zE} {Q : Int → zM → Prop} {M : zM} (v1 : Int)  (h : E mX2_nextByte [.ref 128] M (fun r1 M2 => E mX2_isDigit [zI r1] M2 (fun r3 M4 => (zw r3 = 0 → (E mX2_letterOf [zI r1] M4 (fun r5 M6 => (zw r5 < 0 → ((zw v1 < 6 → ((zw r1 = 33 → (wp E 2 cX2_readOperand (none) Q 67 [some (.ref 128), some (zI v1), some (zI r1)] [] M6)) ∧ (¬ zw r1 = 33 → ((zw r1 = 45 → (wp E 2 cX2_readOperand (none) Q 67 [some (.ref 128), some (zI v1), some (zI r1)] [] M6)) ∧ (¬ zw r1 = 45 → (wp E 2 cX2_readOperand (none) Q 104 [some (.ref 128), some (zI v1), some (zI r1)] [] M6)))))) ∧ (¬ zw v1 < 6 → (wp E 2 cX2_readOperand (none) Q 104 [some (.ref 128), some (zI v1), some (zI r1)] [] M6)))) ∧ (¬ zw r5 < 0 → (E mX2_letterOf [zI r1] M6 (fun r7 M8 => E mX2_draftCode [.ref 128, zI ((-1) - r7)] M8 (fun r9 M10 => ∀ M11 : zM, M11 = zs M10 128 4 ((zg M10 128 4) + 1) → (Q 0 M11)))))))) ∧ (¬ zw r3 = 0 → (E mX2_readNumber [.ref 128] M4 (fun r12 M13 => Q 0 M13)))))) : wp E 2 cX2_readOperand (none) Q 0 [some (.ref 128), some (zI v1), none] [] M := by
  refine w_aload_n dX2_readOperand_0 rfl ?_
  refine w_invVi [] dX2_readOperand_1 l2_55 kX2_nextByte rfl rfl (Nat.le_of_ble_eq_true rfl) (Or.inl rfl) ob_128 h (fun r1 M2 h => ?_)
  refine w_istore_n dX2_readOperand_4 (Nat.le_of_ble_eq_true rfl) rfl ?_
  refine w_iload_n dX2_readOperand_5 rfl ?_
  refine w_invSi [_] dX2_readOperand_6 l2_80 kX2_isDigit rfl rfl (Nat.le_of_ble_eq_true rfl) (Or.inr rfl) h (fun r3 M4 h => ?_)
  refine w_if_eq (tgt := 19) dX2_readOperand_9 (by decide) rfl (fun q => ?_) (fun q => ?_)
  · have h := h.1 q
    refine w_iload_n dX2_readOperand_19 rfl ?_
    refine w_invSi [_] dX2_readOperand_20 l2_87 kX2_letterOf rfl rfl (Nat.le_of_ble_eq_true rfl) (Or.inl rfl) h (fun r5 M6 h => ?_)
    refine w_if_lt (tgt := 49) dX2_readOperand_23 (by decide) rfl (fun q => ?_) (fun q => ?_)
    · have h := h.1 q
      refine w_iload_n dX2_readOperand_49 rfl ?_
      refine w_bipush dX2_readOperand_50 (by decide) ?_
      refine w_icmp_ge (tgt := 104) dX2_readOperand_52 (by decide) rfl zq_6 (fun q => ?_) (fun q => ?_)
      · have h := h.2 q
        exact w_fgt (fgk (fgk (fgk (fgn)))) h
      · have h := h.1 q
        refine w_iload_n dX2_readOperand_55 rfl ?_
        refine w_bipush dX2_readOperand_56 (by decide) ?_
        refine w_icmp_eq (tgt := 67) dX2_readOperand_58 (by decide) rfl zq_33 (fun q => ?_) (fun q => ?_)
        · have h := h.1 q
          exact w_fgt (fgk (fgk (fgk (fgn)))) h
        · have h := h.2 q
          refine w_iload_n dX2_readOperand_61 rfl ?_
          refine w_bipush dX2_readOperand_62 (by decide) ?_
          refine w_icmp_ne (tgt := 104) dX2_readOperand_64 (by decide) rfl zq_45 (fun q => ?_) (fun q => ?_)
          · have h := h.2 q
            exact w_fgt (fgk (fgk (fgk (fgn)))) h
          · have h := h.1 q
            exact w_fgt (fgk (fgk (fgk (fgn)))) h
    · have h := h.2 q
      refine w_aload_n dX2_readOperand_26 rfl ?_
      refine w_iconst dX2_readOperand_27 ?_
      refine w_iload_n dX2_readOperand_28 rfl ?_
      refine w_invSi [_] dX2_readOperand_29 l2_87 kX2_letterOf rfl rfl (Nat.le_of_ble_eq_true rfl) (Or.inl rfl) h (fun r7 M8 h => ?_)
      refine w_isub dX2_readOperand_32 ?_
      refine w_invVv [_] dX2_readOperand_33 l2_77 kX2_draftCode rfl rfl (Nat.le_of_ble_eq_true rfl) rfl ob_128 h (fun r9 M10 h => ?_)
      refine w_aload_n dX2_readOperand_36 rfl ?_
      refine w_dup dX2_readOperand_37 rfl ?_
      refine w_gfI (ci := 2) (k := 4) dX2_readOperand_38 f2_34 ob_128 rfl ?_
      refine w_iconst dX2_readOperand_41 ?_
      refine w_iadd dX2_readOperand_42 ?_
      have h := h _ rfl
      refine w_pfI (ci := 2) (k := 4) dX2_readOperand_43 f2_34 ob_128 rfl rfl rfl ?_
      refine w_goto (tgt := 145) dX2_readOperand_46 (by decide) ?_
      exact w_rv rfl dX2_readOperand_145 h
  · have h := h.2 q
    refine w_aload_n dX2_readOperand_12 rfl ?_
    refine w_invVv [] dX2_readOperand_13 l2_84 kX2_readNumber rfl rfl (Nat.le_of_ble_eq_true rfl) rfl ob_128 h (fun r12 M13 h => ?_)
    refine w_goto (tgt := 145) dX2_readOperand_16 (by decide) ?_
    exact w_rv rfl dX2_readOperand_145 h
theorem v_X2_readOperand_67 {E : zE} {Q : Int → zM → Prop} {M : zM} (v1 : Int) (v2 : Int)  (h : ∀ M1 : zM, M1 = zs M 128 4 ((zg M 128 4) + 1) → (E mX2_readOperand [.ref 128, zI (v1 + 1)] M1 (fun r2 M3 => (zw v2 = 45 → (wp E 2 cX2_readOperand (none) Q 98 [none, none, none] [zI (-126), .ref 128] M3)) ∧ (¬ zw v2 = 45 → (wp E 2 cX2_readOperand (none) Q 98 [none, none, none] [zI (-v2), .ref 128] M3))))) : wp E 2 cX2_readOperand (none) Q 67 [some (.ref 128), some (zI v1), some (zI v2)] [] M := by
  refine w_aload_n dX2_readOperand_67 rfl ?_
  refine w_dup dX2_readOperand_68 rfl ?_
  refine w_gfI (ci := 2) (k := 4) dX2_readOperand_69 f2_34 ob_128 rfl ?_
  refine w_iconst dX2_readOperand_72 ?_
  refine w_iadd dX2_readOperand_73 ?_
  have h := h _ rfl
  refine w_pfI (ci := 2) (k := 4) dX2_readOperand_74 f2_34 ob_128 rfl rfl rfl ?_
  refine w_aload_n dX2_readOperand_77 rfl ?_
  refine w_iload_n dX2_readOperand_78 rfl ?_
  refine w_iconst dX2_readOperand_79 ?_
  refine w_iadd dX2_readOperand_80 ?_
  refine w_invVv [_] dX2_readOperand_81 l2_69 kX2_readOperand rfl rfl (Nat.le_of_ble_eq_true rfl) rfl ob_128 h (fun r2 M3 h => ?_)
  refine w_aload_n dX2_readOperand_84 rfl ?_
  refine w_iload_n dX2_readOperand_85 rfl ?_
  refine w_bipush dX2_readOperand_86 (by decide) ?_
  refine w_icmp_ne (tgt := 96) dX2_readOperand_88 (by decide) rfl zq_45 (fun q => ?_) (fun q => ?_)
  · have h := h.2 q
    refine w_iload_n dX2_readOperand_96 rfl ?_
    refine w_ineg dX2_readOperand_97 ?_
    exact w_fgt (fgd (fgd (fgd (fgn)))) h
  · have h := h.1 q
    refine w_bipush dX2_readOperand_91 (by decide) ?_
    refine w_goto (tgt := 98) dX2_readOperand_93 (by decide) ?_
    exact w_fgt (fgd (fgd (fgd (fgn)))) h
theorem v_X2_readOperand_98 {E : zE} {Q : Int → zM → Prop} {M : zM} (s0 : Int)  (h : E mX2_draftCode [.ref 128, zI s0] M (fun r1 M2 => Q 0 M2)) : wp E 2 cX2_readOperand (none) Q 98 [none, none, none] [zI s0, .ref 128] M := by
  refine w_invVv [_] dX2_readOperand_98 l2_77 kX2_draftCode rfl rfl (Nat.le_of_ble_eq_true rfl) rfl ob_128 h (fun r1 M2 h => ?_)
  refine w_goto (tgt := 145) dX2_readOperand_101 (by decide) ?_
  exact w_rv rfl dX2_readOperand_145 h
theorem v_X2_readOperand_104 {E : zE} {Q : Int → zM → Prop} {M : zM} (v1 : Int) (v2 : Int)  (h : (zw v1 < 6 → ((zw v2 = 40 → (∀ M1 : zM, M1 = zs M 128 4 ((zg M 128 4) + 1) → (E mX2_readRank [.ref 128, zI 0, zI (v1 + 1)] M1 (fun r2 M3 => E mX2_readClosing [.ref 128] M3 (fun r4 M5 => Q 0 M5))))) ∧ (¬ zw v2 = 40 → (wp E 2 cX2_readOperand (none) Q 141 [some (.ref 128), none, none] [] M)))) ∧ (¬ zw v1 < 6 → (wp E 2 cX2_readOperand (none) Q 141 [some (.ref 128), none, none] [] M))) : wp E 2 cX2_readOperand (none) Q 104 [some (.ref 128), some (zI v1), some (zI v2)] [] M := by
  refine w_iload_n dX2_readOperand_104 rfl ?_
  refine w_bipush dX2_readOperand_105 (by decide) ?_
  refine w_icmp_ge (tgt := 141) dX2_readOperand_107 (by decide) rfl zq_6 (fun q => ?_) (fun q => ?_)
  · have h := h.2 q
    exact w_fgt (fgk (fgd (fgd (fgn)))) h
  · have h := h.1 q
    refine w_iload_n dX2_readOperand_110 rfl ?_
    refine w_bipush dX2_readOperand_111 (by decide) ?_
    refine w_icmp_ne (tgt := 141) dX2_readOperand_113 (by decide) rfl zq_40 (fun q => ?_) (fun q => ?_)
    · have h := h.2 q
      exact w_fgt (fgk (fgd (fgd (fgn)))) h
    · have h := h.1 q
      refine w_aload_n dX2_readOperand_116 rfl ?_
      refine w_dup dX2_readOperand_117 rfl ?_
      refine w_gfI (ci := 2) (k := 4) dX2_readOperand_118 f2_34 ob_128 rfl ?_
      refine w_iconst dX2_readOperand_121 ?_
      refine w_iadd dX2_readOperand_122 ?_
      have h := h _ rfl
      refine w_pfI (ci := 2) (k := 4) dX2_readOperand_123 f2_34 ob_128 rfl rfl rfl ?_
      refine w_aload_n dX2_readOperand_126 rfl ?_
      refine w_iconst dX2_readOperand_127 ?_
      refine w_iload_n dX2_readOperand_128 rfl ?_
      refine w_iconst dX2_readOperand_129 ?_
      refine w_iadd dX2_readOperand_130 ?_
      refine w_invVv [_, _] dX2_readOperand_131 l2_65 kX2_readRank rfl rfl (Nat.le_of_ble_eq_true rfl) rfl ob_128 h (fun r2 M3 h => ?_)
      refine w_aload_n dX2_readOperand_134 rfl ?_
      refine w_invVv [] dX2_readOperand_135 l2_90 kX2_readClosing rfl rfl (Nat.le_of_ble_eq_true rfl) rfl ob_128 h (fun r4 M5 h => ?_)
      refine w_goto (tgt := 145) dX2_readOperand_138 (by decide) ?_
      exact w_rv rfl dX2_readOperand_145 h
theorem v_X2_readOperand_141 {E : zE} {Q : Int → zM → Prop} {M : zM}   (h : E mX2_refuse [.ref 128] M (fun r1 M2 => Q 0 M2)) : wp E 2 cX2_readOperand (none) Q 141 [some (.ref 128), none, none] [] M := by
  refine w_aload_n dX2_readOperand_141 rfl ?_
  refine w_invVv [] dX2_readOperand_142 l2_62 kX2_refuse rfl rfl (Nat.le_of_ble_eq_true rfl) rfl ob_128 h (fun r1 M2 h => ?_)
  exact w_rv rfl dX2_readOperand_145 h
theorem e_X2_readClosing {d : Nat} {Q : Int → zM → Prop} {M : zM}  (h : wp (Ev d) 2 cX2_readClosing (none) Q 0 [some (.ref 128)] [] M) : Ev (d + 1) mX2_readClosing [.ref 128] M Q := ⟨kX2_readClosing, Nat.le_of_ble_eq_true rfl, h⟩
theorem v_X2_readClosing_0 {E : zE} {Q : Int → zM → Prop} {M : zM}   (h : E mX2_nextByte [.ref 128] M (fun r1 M2 => (zw r1 = 41 → (∀ M5 : zM, M5 = zs M2 128 4 ((zg M2 128 4) + 1) → (Q 0 M5))) ∧ (¬ zw r1 = 41 → (E mX2_refuse [.ref 128] M2 (fun r3 M4 => Q 0 M4))))) : wp E 2 cX2_readClosing (none) Q 0 [some (.ref 128)] [] M := by
  refine w_aload_n dX2_readClosing_0 rfl ?_
  refine w_invVi [] dX2_readClosing_1 l2_55 kX2_nextByte rfl rfl (Nat.le_of_ble_eq_true rfl) (Or.inl rfl) ob_128 h (fun r1 M2 h => ?_)
  refine w_bipush dX2_readClosing_4 (by decide) ?_
  refine w_icmp_ne (tgt := 22) dX2_readClosing_6 (by decide) rfl zq_41 (fun q => ?_) (fun q => ?_)
  · have h := h.2 q
    refine w_aload_n dX2_readClosing_22 rfl ?_
    refine w_invVv [] dX2_readClosing_23 l2_62 kX2_refuse rfl rfl (Nat.le_of_ble_eq_true rfl) rfl ob_128 h (fun r3 M4 h => ?_)
    exact w_rv rfl dX2_readClosing_26 h
  · have h := h.1 q
    refine w_aload_n dX2_readClosing_9 rfl ?_
    refine w_dup dX2_readClosing_10 rfl ?_
    refine w_gfI (ci := 2) (k := 4) dX2_readClosing_11 f2_34 ob_128 rfl ?_
    refine w_iconst dX2_readClosing_14 ?_
    refine w_iadd dX2_readClosing_15 ?_
    have h := h _ rfl
    refine w_pfI (ci := 2) (k := 4) dX2_readClosing_16 f2_34 ob_128 rfl rfl rfl ?_
    refine w_goto (tgt := 26) dX2_readClosing_19 (by decide) ?_
    exact w_rv rfl dX2_readClosing_26 h
theorem e_X2_readNumber {d : Nat} {Q : Int → zM → Prop} {M : zM}  (h : wp (Ev d) 2 cX2_readNumber (none) Q 0 [some (.ref 128), none, none] [] M) : Ev (d + 1) mX2_readNumber [.ref 128] M Q := ⟨kX2_readNumber, Nat.le_of_ble_eq_true rfl, h⟩
theorem v_X2_readNumber_0 {E : zE} {Q : Int → zM → Prop} {M : zM}   (h : wp E 2 cX2_readNumber (none) Q 4 [some (.ref 128), some (zI 0), some (zI 0)] [] M) : wp E 2 cX2_readNumber (none) Q 0 [some (.ref 128), none, none] [] M := by
  refine w_iconst dX2_readNumber_0 ?_
  refine w_istore_n dX2_readNumber_1 (Nat.le_of_ble_eq_true rfl) rfl ?_
  refine w_iconst dX2_readNumber_2 ?_
  refine w_istore_n dX2_readNumber_3 (Nat.le_of_ble_eq_true rfl) rfl ?_
  exact w_fgt (fgk (fgk (fgk (fgn)))) h
theorem v_X2_readNumber_4 {E : zE} {Q : Int → zM → Prop} {M : zM} (v1 : Int) (v2 : Int)  (h : (zw v2 < 4 → (E mX2_nextByte [.ref 128] M (fun r1 M2 => E mX2_isDigit [zI r1] M2 (fun r3 M4 => (zw r3 = 0 → (wp E 2 cX2_readNumber (none) Q 48 [some (.ref 128), some (zI v1), none] [] M4)) ∧ (¬ zw r3 = 0 → (E mX2_nextByte [.ref 128] M4 (fun r5 M6 => ∀ M7 : zM, M7 = zs M6 128 4 ((zg M6 128 4) + 1) → (wp E 2 cX2_readNumber (none) Q 4 [some (.ref 128), some (zI (((v1 * 10) + r5) - 48)), some (zI (v2 + 1))] [] M7)))))))) ∧ (¬ zw v2 < 4 → (wp E 2 cX2_readNumber (none) Q 48 [some (.ref 128), some (zI v1), none] [] M))) : wp E 2 cX2_readNumber (none) Q 4 [some (.ref 128), some (zI v1), some (zI v2)] [] M := by
  refine w_iload_n dX2_readNumber_4 rfl ?_
  refine w_iconst dX2_readNumber_5 ?_
  refine w_icmp_ge (tgt := 48) dX2_readNumber_6 (by decide) rfl zq_4 (fun q => ?_) (fun q => ?_)
  · have h := h.2 q
    exact w_fgt (fgk (fgk (fgd (fgn)))) h
  · have h := h.1 q
    refine w_aload_n dX2_readNumber_9 rfl ?_
    refine w_invVi [] dX2_readNumber_10 l2_55 kX2_nextByte rfl rfl (Nat.le_of_ble_eq_true rfl) (Or.inl rfl) ob_128 h (fun r1 M2 h => ?_)
    refine w_invSi [_] dX2_readNumber_13 l2_80 kX2_isDigit rfl rfl (Nat.le_of_ble_eq_true rfl) (Or.inr rfl) h (fun r3 M4 h => ?_)
    refine w_if_eq (tgt := 48) dX2_readNumber_16 (by decide) rfl (fun q => ?_) (fun q => ?_)
    · have h := h.1 q
      exact w_fgt (fgk (fgk (fgd (fgn)))) h
    · have h := h.2 q
      refine w_iload_n dX2_readNumber_19 rfl ?_
      refine w_bipush dX2_readNumber_20 (by decide) ?_
      refine w_imul dX2_readNumber_22 ?_
      refine w_aload_n dX2_readNumber_23 rfl ?_
      refine w_invVi [] dX2_readNumber_24 l2_55 kX2_nextByte rfl rfl (Nat.le_of_ble_eq_true rfl) (Or.inl rfl) ob_128 h (fun r5 M6 h => ?_)
      refine w_iadd dX2_readNumber_27 ?_
      refine w_bipush dX2_readNumber_28 (by decide) ?_
      refine w_isub dX2_readNumber_30 ?_
      refine w_istore_n dX2_readNumber_31 (Nat.le_of_ble_eq_true rfl) rfl ?_
      refine w_aload_n dX2_readNumber_32 rfl ?_
      refine w_dup dX2_readNumber_33 rfl ?_
      refine w_gfI (ci := 2) (k := 4) dX2_readNumber_34 f2_34 ob_128 rfl ?_
      refine w_iconst dX2_readNumber_37 ?_
      refine w_iadd dX2_readNumber_38 ?_
      have h := h _ rfl
      refine w_pfI (ci := 2) (k := 4) dX2_readNumber_39 f2_34 ob_128 rfl rfl rfl ?_
      refine w_iinc dX2_readNumber_42 rfl rfl ?_
      refine w_goto (tgt := 4) dX2_readNumber_45 (by decide) ?_
      exact w_fgt (fgk (fgk (fgk (fgn)))) h
theorem v_X2_readNumber_48 {E : zE} {Q : Int → zM → Prop} {M : zM} (v1 : Int)  (h : E mX2_draftCode [.ref 128, zI v1] M (fun r1 M2 => Q 0 M2)) : wp E 2 cX2_readNumber (none) Q 48 [some (.ref 128), some (zI v1), none] [] M := by
  refine w_aload_n dX2_readNumber_48 rfl ?_
  refine w_iload_n dX2_readNumber_49 rfl ?_
  refine w_invVv [_] dX2_readNumber_50 l2_77 kX2_draftCode rfl rfl (Nat.le_of_ble_eq_true rfl) rfl ob_128 h (fun r1 M2 h => ?_)
  exact w_rv rfl dX2_readNumber_53 h
theorem e_X2_refuse {d : Nat} {Q : Int → zM → Prop} {M : zM}  (h : wp (Ev d) 2 cX2_refuse (none) Q 0 [some (.ref 128)] [] M) : Ev (d + 1) mX2_refuse [.ref 128] M Q := ⟨kX2_refuse, Nat.le_of_ble_eq_true rfl, h⟩
theorem v_X2_refuse_0 {E : zE} {Q : Int → zM → Prop} {M : zM}   (h : (zg M 128 5 = (-1) → (∀ M1 : zM, M1 = zs M 128 5 (zg M 128 4) → (Q 0 M1))) ∧ (¬ zg M 128 5 = (-1) → (Q 0 M))) : wp E 2 cX2_refuse (none) Q 0 [some (.ref 128)] [] M := by
  refine w_aload_n dX2_refuse_0 rfl ?_
  refine w_gfI (ci := 2) (k := 5) dX2_refuse_1 f2_37 ob_128 rfl ?_
  refine w_iconst dX2_refuse_4 ?_
  refine w_icmp_ne (tgt := 16) dX2_refuse_5 (by decide) (zw_zg _ _ _) zq_m1 (fun q => ?_) (fun q => ?_)
  · have h := h.2 q
    exact w_rv rfl dX2_refuse_16 h
  · have h := h.1 q
    refine w_aload_n dX2_refuse_8 rfl ?_
    refine w_aload_n dX2_refuse_9 rfl ?_
    refine w_gfI (ci := 2) (k := 4) dX2_refuse_10 f2_34 ob_128 rfl ?_
    have h := h _ rfl
    refine w_pfI (ci := 2) (k := 5) dX2_refuse_13 f2_37 ob_128 rfl rfl rfl ?_
    exact w_rv rfl dX2_refuse_16 h
theorem e_X2_nextByte {d : Nat} {Q : Int → zM → Prop} {M : zM}  (h : wp (Ev d) 2 cX2_nextByte (some .int) Q 0 [some (.ref 128)] [] M) : Ev (d + 1) mX2_nextByte [.ref 128] M Q := ⟨kX2_nextByte, Nat.le_of_ble_eq_true rfl, h⟩
theorem v_X2_nextByte_0 {E : zE} {Q : Int → zM → Prop} {M : zM}   (h : (zg M 128 4 < 0 → (Q (-1) M)) ∧ (¬ zg M 128 4 < 0 → ((zg M 128 4 < zg M 128 1 → ((0 ≤ zg M 128 4) ∧ ((zg M 128 4 < 120) ∧ (Q (zg M 129 (zg M 128 4).toNat) M)))) ∧ (¬ zg M 128 4 < zg M 128 1 → (Q (-1) M))))) : wp E 2 cX2_nextByte (some .int) Q 0 [some (.ref 128)] [] M := by
  refine w_aload_n dX2_nextByte_0 rfl ?_
  refine w_gfI (ci := 2) (k := 4) dX2_nextByte_1 f2_34 ob_128 rfl ?_
  refine w_if_lt (tgt := 30) dX2_nextByte_4 (by decide) (zw_zg _ _ _) (fun q => ?_) (fun q => ?_)
  · have h := h.1 q
    refine w_iconst dX2_nextByte_30 ?_
    exact w_ri rfl dX2_nextByte_31 zq_m1 h
  · have h := h.2 q
    refine w_aload_n dX2_nextByte_7 rfl ?_
    refine w_gfI (ci := 2) (k := 4) dX2_nextByte_8 f2_34 ob_128 rfl ?_
    refine w_aload_n dX2_nextByte_11 rfl ?_
    refine w_gfI (ci := 2) (k := 1) dX2_nextByte_12 f2_27 ob_128 rfl ?_
    refine w_icmp_ge (tgt := 30) dX2_nextByte_15 (by decide) (zw_zg _ _ _) (zw_zg _ _ _) (fun q => ?_) (fun q => ?_)
    · have h := h.2 q
      refine w_iconst dX2_nextByte_30 ?_
      exact w_ri rfl dX2_nextByte_31 zq_m1 h
    · have h := h.1 q
      refine w_aload_n dX2_nextByte_18 rfl ?_
      refine w_gfA (ci := 2) (k := 0) dX2_nextByte_19 f2_11 ob_128 rfl ?_
      refine w_aload_n dX2_nextByte_22 rfl ?_
      refine w_gfI (ci := 2) (k := 4) dX2_nextByte_23 f2_34 ob_128 rfl ?_
      obtain ⟨c1, h⟩ := h
      obtain ⟨c2, h⟩ := h
      refine w_iald dX2_nextByte_26 (zw_zg _ _ _) (a2_0 ob_128) c1 c2 ?_
      refine w_goto (tgt := 31) dX2_nextByte_27 (by decide) ?_
      exact w_ri rfl dX2_nextByte_31 (zw_zg _ _ _) h
theorem e_X2_draftSign {d : Nat} {Q : Int → zM → Prop} {M : zM}  (h : wp (Ev d) 2 cX2_draftSign (none) Q 0 [some (.ref 128)] [] M) : Ev (d + 1) mX2_draftSign [.ref 128] M Q := ⟨kX2_draftSign, Nat.le_of_ble_eq_true rfl, h⟩
theorem v_X2_draftSign_0 {E : zE} {Q : Int → zM → Prop} {M : zM}   (h : E mX2_nextByte [.ref 128] M (fun r1 M2 => E mX2_draftCode [.ref 128, zI (-r1)] M2 (fun r3 M4 => ∀ M5 : zM, M5 = zs M4 128 4 ((zg M4 128 4) + 1) → (Q 0 M5)))) : wp E 2 cX2_draftSign (none) Q 0 [some (.ref 128)] [] M := by
  refine w_aload_n dX2_draftSign_0 rfl ?_
  refine w_aload_n dX2_draftSign_1 rfl ?_
  refine w_invVi [] dX2_draftSign_2 l2_55 kX2_nextByte rfl rfl (Nat.le_of_ble_eq_true rfl) (Or.inl rfl) ob_128 h (fun r1 M2 h => ?_)
  refine w_ineg dX2_draftSign_5 ?_
  refine w_invVv [_] dX2_draftSign_6 l2_77 kX2_draftCode rfl rfl (Nat.le_of_ble_eq_true rfl) rfl ob_128 h (fun r3 M4 h => ?_)
  refine w_aload_n dX2_draftSign_9 rfl ?_
  refine w_dup dX2_draftSign_10 rfl ?_
  refine w_gfI (ci := 2) (k := 4) dX2_draftSign_11 f2_34 ob_128 rfl ?_
  refine w_iconst dX2_draftSign_14 ?_
  refine w_iadd dX2_draftSign_15 ?_
  have h := h _ rfl
  refine w_pfI (ci := 2) (k := 4) dX2_draftSign_16 f2_34 ob_128 rfl rfl rfl ?_
  exact w_rv rfl dX2_draftSign_19 h
theorem e_X2_draftCode {d : Nat} {Q : Int → zM → Prop} {M : zM} (v1 : Int) (h : wp (Ev d) 2 cX2_draftCode (none) Q 0 [some (.ref 128), some (zI v1)] [] M) : Ev (d + 1) mX2_draftCode [.ref 128, zI v1] M Q := ⟨kX2_draftCode, Nat.le_of_ble_eq_true rfl, h⟩
theorem v_X2_draftCode_0 {E : zE} {Q : Int → zM → Prop} {M : zM} (v1 : Int)  (h : (zg M 128 3 < 120 → ((0 ≤ zg M 128 3) ∧ ((zg M 128 3 < 120) ∧ (∀ M3 : zM, M3 = zs M 131 (zg M 128 3).toNat v1 → (∀ M4 : zM, M4 = zs M3 128 3 ((zg M3 128 3) + 1) → (Q 0 M4)))))) ∧ (¬ zg M 128 3 < 120 → (Q 0 M))) : wp E 2 cX2_draftCode (none) Q 0 [some (.ref 128), some (zI v1)] [] M := by
  refine w_aload_n dX2_draftCode_0 rfl ?_
  refine w_gfI (ci := 2) (k := 3) dX2_draftCode_1 f2_31 ob_128 rfl ?_
  refine w_bipush dX2_draftCode_4 (by decide) ?_
  refine w_icmp_ge (tgt := 29) dX2_draftCode_6 (by decide) (zw_zg _ _ _) zq_120 (fun q => ?_) (fun q => ?_)
  · have h := h.2 q
    exact w_rv rfl dX2_draftCode_29 h
  · have h := h.1 q
    refine w_aload_n dX2_draftCode_9 rfl ?_
    refine w_gfA (ci := 2) (k := 2) dX2_draftCode_10 f2_15 ob_128 rfl ?_
    refine w_aload_n dX2_draftCode_13 rfl ?_
    refine w_gfI (ci := 2) (k := 3) dX2_draftCode_14 f2_31 ob_128 rfl ?_
    refine w_iload_n dX2_draftCode_17 rfl ?_
    obtain ⟨c1, h⟩ := h
    obtain ⟨c2, h⟩ := h
    have h := h _ rfl
    refine w_iast dX2_draftCode_18 (zw_zg _ _ _) (a2_2 ob_128) c1 c2 ?_
    refine w_aload_n dX2_draftCode_19 rfl ?_
    refine w_dup dX2_draftCode_20 rfl ?_
    refine w_gfI (ci := 2) (k := 3) dX2_draftCode_21 f2_31 ob_128 rfl ?_
    refine w_iconst dX2_draftCode_24 ?_
    refine w_iadd dX2_draftCode_25 ?_
    have h := h _ rfl
    refine w_pfI (ci := 2) (k := 3) dX2_draftCode_26 f2_31 ob_128 rfl rfl rfl ?_
    exact w_rv rfl dX2_draftCode_29 h
theorem e_X2_isDigit {d : Nat} {Q : Int → zM → Prop} {M : zM} (v0 : Int) (h : wp (Ev d) 2 cX2_isDigit (some .boolean) Q 0 [some (zI v0)] [] M) : Ev (d + 1) mX2_isDigit [zI v0] M Q := ⟨kX2_isDigit, Nat.le_of_ble_eq_true rfl, h⟩
theorem v_X2_isDigit_0 {E : zE} {Q : Int → zM → Prop} {M : zM} (v0 : Int)  (h : (zw v0 < 48 → (Q 0 M)) ∧ (¬ zw v0 < 48 → ((57 < zw v0 → (Q 0 M)) ∧ (¬ 57 < zw v0 → (Q 1 M))))) : wp E 2 cX2_isDigit (some .boolean) Q 0 [some (zI v0)] [] M := by
  refine w_iload_n dX2_isDigit_0 rfl ?_
  refine w_bipush dX2_isDigit_1 (by decide) ?_
  refine w_icmp_lt (tgt := 16) dX2_isDigit_3 (by decide) rfl zq_48 (fun q => ?_) (fun q => ?_)
  · have h := h.1 q
    refine w_iconst dX2_isDigit_16 ?_
    exact w_rz rfl dX2_isDigit_17 zq_0 (by decide) h
  · have h := h.2 q
    refine w_iload_n dX2_isDigit_6 rfl ?_
    refine w_bipush dX2_isDigit_7 (by decide) ?_
    refine w_icmp_gt (tgt := 16) dX2_isDigit_9 (by decide) rfl zq_57 (fun q => ?_) (fun q => ?_)
    · have h := h.1 q
      refine w_iconst dX2_isDigit_16 ?_
      exact w_rz rfl dX2_isDigit_17 zq_0 (by decide) h
    · have h := h.2 q
      refine w_iconst dX2_isDigit_12 ?_
      refine w_goto (tgt := 17) dX2_isDigit_13 (by decide) ?_
      exact w_rz rfl dX2_isDigit_17 zq_1 (by decide) h
theorem e_X2_rankOf {d : Nat} {Q : Int → zM → Prop} {M : zM} (v0 : Int) (h : wp (Ev d) 2 cX2_rankOf (some .int) Q 0 [some (zI v0)] [] M) : Ev (d + 1) mX2_rankOf [zI v0] M Q := ⟨kX2_rankOf, Nat.le_of_ble_eq_true rfl, h⟩
theorem v_X2_rankOf_0 {E : zE} {Q : Int → zM → Prop} {M : zM} (v0 : Int)  (h : (zw v0 = 37 → (Q 4 M)) ∧ (zw v0 = 38 → (Q 1 M)) ∧ (zw v0 = 42 → (Q 4 M)) ∧ (zw v0 = 43 → (Q 3 M)) ∧ (zw v0 = 45 → (Q 3 M)) ∧ (zw v0 = 47 → (Q 4 M)) ∧ (zw v0 = 60 → (Q 2 M)) ∧ (zw v0 = 61 → (Q 2 M)) ∧ (zw v0 = 62 → (Q 2 M)) ∧ (zw v0 = 124 → (Q 0 M)) ∧ (¬ zw v0 = 37 → ¬ zw v0 = 38 → ¬ zw v0 = 42 → ¬ zw v0 = 43 → ¬ zw v0 = 45 → ¬ zw v0 = 47 → ¬ zw v0 = 60 → ¬ zw v0 = 61 → ¬ zw v0 = 62 → ¬ zw v0 = 124 → (Q (-1) M))) : wp E 2 cX2_rankOf (some .int) Q 0 [some (zI v0)] [] M := by
  refine w_iload_n dX2_rankOf_0 rfl ?_
  by_cases q0 : zw v0 = 37
  · refine w_lsw (tgt := 100) dX2_rankOf_1 (by decide) (by rw [q0]; decide) ?_
    have h := h.1 q0
    refine w_iconst dX2_rankOf_100 ?_
    exact w_ri rfl dX2_rankOf_101 zq_4 h
  · skip
    by_cases q1 : zw v0 = 38
    · refine w_lsw (tgt := 94) dX2_rankOf_1 (by decide) (by rw [q1]; decide) ?_
      have h := h.2.1 q1
      refine w_iconst dX2_rankOf_94 ?_
      exact w_ri rfl dX2_rankOf_95 zq_1 h
    · skip
      by_cases q2 : zw v0 = 42
      · refine w_lsw (tgt := 100) dX2_rankOf_1 (by decide) (by rw [q2]; decide) ?_
        have h := h.2.2.1 q2
        refine w_iconst dX2_rankOf_100 ?_
        exact w_ri rfl dX2_rankOf_101 zq_4 h
      · skip
        by_cases q3 : zw v0 = 43
        · refine w_lsw (tgt := 98) dX2_rankOf_1 (by decide) (by rw [q3]; decide) ?_
          have h := h.2.2.2.1 q3
          refine w_iconst dX2_rankOf_98 ?_
          exact w_ri rfl dX2_rankOf_99 zq_3 h
        · skip
          by_cases q4 : zw v0 = 45
          · refine w_lsw (tgt := 98) dX2_rankOf_1 (by decide) (by rw [q4]; decide) ?_
            have h := h.2.2.2.2.1 q4
            refine w_iconst dX2_rankOf_98 ?_
            exact w_ri rfl dX2_rankOf_99 zq_3 h
          · skip
            by_cases q5 : zw v0 = 47
            · refine w_lsw (tgt := 100) dX2_rankOf_1 (by decide) (by rw [q5]; decide) ?_
              have h := h.2.2.2.2.2.1 q5
              refine w_iconst dX2_rankOf_100 ?_
              exact w_ri rfl dX2_rankOf_101 zq_4 h
            · skip
              by_cases q6 : zw v0 = 60
              · refine w_lsw (tgt := 96) dX2_rankOf_1 (by decide) (by rw [q6]; decide) ?_
                have h := h.2.2.2.2.2.2.1 q6
                refine w_iconst dX2_rankOf_96 ?_
                exact w_ri rfl dX2_rankOf_97 zq_2 h
              · skip
                by_cases q7 : zw v0 = 61
                · refine w_lsw (tgt := 96) dX2_rankOf_1 (by decide) (by rw [q7]; decide) ?_
                  have h := h.2.2.2.2.2.2.2.1 q7
                  refine w_iconst dX2_rankOf_96 ?_
                  exact w_ri rfl dX2_rankOf_97 zq_2 h
                · skip
                  by_cases q8 : zw v0 = 62
                  · refine w_lsw (tgt := 96) dX2_rankOf_1 (by decide) (by rw [q8]; decide) ?_
                    have h := h.2.2.2.2.2.2.2.2.1 q8
                    refine w_iconst dX2_rankOf_96 ?_
                    exact w_ri rfl dX2_rankOf_97 zq_2 h
                  · skip
                    by_cases q9 : zw v0 = 124
                    · refine w_lsw (tgt := 92) dX2_rankOf_1 (by decide) (by rw [q9]; decide) ?_
                      have h := h.2.2.2.2.2.2.2.2.2.1 q9
                      refine w_iconst dX2_rankOf_92 ?_
                      exact w_ri rfl dX2_rankOf_93 zq_0 h
                    · skip
                      have hz : (1 : Int) + Op.lookupswitch.offset [(37, 99), (38, 93), (42, 99), (43, 97), (45, 97), (47, 99), (60, 95), (61, 95), (62, 95), (124, 91)] (101) (zw v0) = (102 : Nat) := by
                        rw [Op.lookupswitch.offset_cons, if_neg (fun z => q0 z.symm), Op.lookupswitch.offset_cons, if_neg (fun z => q1 z.symm), Op.lookupswitch.offset_cons, if_neg (fun z => q2 z.symm), Op.lookupswitch.offset_cons, if_neg (fun z => q3 z.symm), Op.lookupswitch.offset_cons, if_neg (fun z => q4 z.symm), Op.lookupswitch.offset_cons, if_neg (fun z => q5 z.symm), Op.lookupswitch.offset_cons, if_neg (fun z => q6 z.symm), Op.lookupswitch.offset_cons, if_neg (fun z => q7 z.symm), Op.lookupswitch.offset_cons, if_neg (fun z => q8 z.symm), Op.lookupswitch.offset_cons, if_neg (fun z => q9 z.symm), Op.lookupswitch.offset_nil]; rfl
                      refine w_lsw (tgt := 102) dX2_rankOf_1 (by decide) hz ?_
                      have h := h.2.2.2.2.2.2.2.2.2.2 q0 q1 q2 q3 q4 q5 q6 q7 q8 q9
                      refine w_iconst dX2_rankOf_102 ?_
                      exact w_ri rfl dX2_rankOf_103 zq_m1 h
theorem e_X2_tell {d : Nat} {Q : Int → zM → Prop} {M : zM} (v1 : Int) (v2 : Int) (v3 : Int) (v4 : Int) (v5 : Int) (v6 : Int) (h : wp (Ev d) 2 cX2_tell (none) Q 0 [some (.ref 128), some (zI v1), some (zI v2), some (zI v3), some (zI v4), some (zI v5), some (zI v6)] [] M) : Ev (d + 1) mX2_tell [.ref 128, zI v1, zI v2, zI v3, zI v4, zI v5, zI v6] M Q := ⟨kX2_tell, Nat.le_of_ble_eq_true rfl, h⟩
theorem v_X2_tell_0 {E : zE} {Q : Int → zM → Prop} {M : zM} (v1 : Int) (v2 : Int) (v3 : Int) (v4 : Int) (v5 : Int) (v6 : Int)  (h : ∀ M1 : zM, M1 = zs M 137 0 v1 → (∀ M2 : zM, M2 = zs M1 137 1 v2 → (∀ M3 : zM, M3 = zs M2 137 2 v3 → (∀ M4 : zM, M4 = zs M3 137 3 v4 → (∀ M5 : zM, M5 = zs M4 137 4 v5 → (∀ M6 : zM, M6 = zs M5 137 5 v6 → (Q 0 M6))))))) : wp E 2 cX2_tell (none) Q 0 [some (.ref 128), some (zI v1), some (zI v2), some (zI v3), some (zI v4), some (zI v5), some (zI v6)] [] M := by
  refine w_aload_n dX2_tell_0 rfl ?_
  refine w_gfA (ci := 2) (k := 8) dX2_tell_1 f2_21 ob_128 rfl ?_
  refine w_iconst dX2_tell_4 ?_
  refine w_iload_n dX2_tell_5 rfl ?_
  have h := h _ rfl
  refine w_iast dX2_tell_6 zq_0 (a2_8 ob_128) (by decide) (by decide) ?_
  refine w_aload_n dX2_tell_7 rfl ?_
  refine w_gfA (ci := 2) (k := 8) dX2_tell_8 f2_21 ob_128 rfl ?_
  refine w_iconst dX2_tell_11 ?_
  refine w_iload_n dX2_tell_12 rfl ?_
  have h := h _ rfl
  refine w_iast dX2_tell_13 zq_1 (a2_8 ob_128) (by decide) (by decide) ?_
  refine w_aload_n dX2_tell_14 rfl ?_
  refine w_gfA (ci := 2) (k := 8) dX2_tell_15 f2_21 ob_128 rfl ?_
  refine w_iconst dX2_tell_18 ?_
  refine w_iload_n dX2_tell_19 rfl ?_
  have h := h _ rfl
  refine w_iast dX2_tell_20 zq_2 (a2_8 ob_128) (by decide) (by decide) ?_
  refine w_aload_n dX2_tell_21 rfl ?_
  refine w_gfA (ci := 2) (k := 8) dX2_tell_22 f2_21 ob_128 rfl ?_
  refine w_iconst dX2_tell_25 ?_
  refine w_iload dX2_tell_26 rfl ?_
  have h := h _ rfl
  refine w_iast dX2_tell_28 zq_3 (a2_8 ob_128) (by decide) (by decide) ?_
  refine w_aload_n dX2_tell_29 rfl ?_
  refine w_gfA (ci := 2) (k := 8) dX2_tell_30 f2_21 ob_128 rfl ?_
  refine w_iconst dX2_tell_33 ?_
  refine w_iload dX2_tell_34 rfl ?_
  have h := h _ rfl
  refine w_iast dX2_tell_36 zq_4 (a2_8 ob_128) (by decide) (by decide) ?_
  refine w_aload_n dX2_tell_37 rfl ?_
  refine w_gfA (ci := 2) (k := 8) dX2_tell_38 f2_21 ob_128 rfl ?_
  refine w_iconst dX2_tell_41 ?_
  refine w_iload dX2_tell_42 rfl ?_
  have h := h _ rfl
  refine w_iast dX2_tell_44 zq_5 (a2_8 ob_128) (by decide) (by decide) ?_
  exact w_rv rfl dX2_tell_45 h
theorem e_X2_reckon {d : Nat} {Q : Int → zM → Prop} {M : zM}  (h : wp (Ev d) 2 cX2_reckon (some .int) Q 0 [some (.ref 128), none, none, none] [] M) : Ev (d + 1) mX2_reckon [.ref 128] M Q := ⟨kX2_reckon, Nat.le_of_ble_eq_true rfl, h⟩
theorem v_X2_reckon_0 {E : zE} {Q : Int → zM → Prop} {M : zM}   (h : (zg M 128 7 = 0 → ((zg M 137 0 < 80 → (Q 1 M)) ∧ (¬ zg M 137 0 < 80 → ((zg M 137 4 = 1 → (Q 1 M)) ∧ (¬ zg M 137 4 = 1 → (Q 0 M)))))) ∧ (¬ zg M 128 7 = 0 → (∀ M1 : zM, M1 = zs M 128 10 0 → (wp E 2 cX2_reckon (some .int) Q 43 [some (.ref 128), some (zI 0), some (zI 0), none] [] M1)))) : wp E 2 cX2_reckon (some .int) Q 0 [some (.ref 128), none, none, none] [] M := by
  refine w_aload_n dX2_reckon_0 rfl ?_
  refine w_gfI (ci := 2) (k := 7) dX2_reckon_1 f2_49 ob_128 rfl ?_
  refine w_if_ne (tgt := 34) dX2_reckon_4 (by decide) (zw_zg _ _ _) (fun q => ?_) (fun q => ?_)
  · have h := h.2 q
    refine w_aload_n dX2_reckon_34 rfl ?_
    refine w_iconst dX2_reckon_35 ?_
    have h := h _ rfl
    refine w_pfI (ci := 2) (k := 10) dX2_reckon_36 f2_100 ob_128 rfl rfl rfl ?_
    refine w_iconst dX2_reckon_39 ?_
    refine w_istore_n dX2_reckon_40 (Nat.le_of_ble_eq_true rfl) rfl ?_
    refine w_iconst dX2_reckon_41 ?_
    refine w_istore_n dX2_reckon_42 (Nat.le_of_ble_eq_true rfl) rfl ?_
    exact w_fgt (fgk (fgk (fgk (fgd (fgn))))) h
  · have h := h.1 q
    refine w_aload_n dX2_reckon_7 rfl ?_
    refine w_gfA (ci := 2) (k := 8) dX2_reckon_8 f2_21 ob_128 rfl ?_
    refine w_iconst dX2_reckon_11 ?_
    refine w_iald dX2_reckon_12 zq_0 (a2_8 ob_128) (by decide) (by decide) ?_
    refine w_bipush dX2_reckon_13 (by decide) ?_
    refine w_icmp_lt (tgt := 28) dX2_reckon_15 (by decide) (zw_zg _ _ _) zq_80 (fun q => ?_) (fun q => ?_)
    · have h := h.1 q
      refine w_iconst dX2_reckon_28 ?_
      refine w_goto (tgt := 33) dX2_reckon_29 (by decide) ?_
      exact w_ri rfl dX2_reckon_33 zq_1 h
    · have h := h.2 q
      refine w_aload_n dX2_reckon_18 rfl ?_
      refine w_gfA (ci := 2) (k := 8) dX2_reckon_19 f2_21 ob_128 rfl ?_
      refine w_iconst dX2_reckon_22 ?_
      refine w_iald dX2_reckon_23 zq_4 (a2_8 ob_128) (by decide) (by decide) ?_
      refine w_iconst dX2_reckon_24 ?_
      refine w_icmp_ne (tgt := 32) dX2_reckon_25 (by decide) (zw_zg _ _ _) zq_1 (fun q => ?_) (fun q => ?_)
      · have h := h.2 q
        refine w_iconst dX2_reckon_32 ?_
        exact w_ri rfl dX2_reckon_33 zq_0 h
      · have h := h.1 q
        refine w_iconst dX2_reckon_28 ?_
        refine w_goto (tgt := 33) dX2_reckon_29 (by decide) ?_
        exact w_ri rfl dX2_reckon_33 zq_1 h
theorem v_X2_reckon_43 {E : zE} {Q : Int → zM → Prop} {M : zM} (v1 : Int) (v2 : Int)  (h : (zw v2 < zg M 128 7 → ((0 ≤ zw v2) ∧ ((zw v2 < 120) ∧ ((zg M 135 (zw v2).toNat = (-59) → ((zw v1 = 0 → (E mX2_pop [.ref 128] M (fun r11 M12 => Q (zw r11) M12))) ∧ (¬ zw v1 = 0 → (wp E 2 cX2_reckon (some .int) Q 43 [some (.ref 128), some (zI 0), some (zI (v2 + 1)), none] [] M)))) ∧ (¬ zg M 135 (zw v2).toNat = (-59) → ((zw v1 = 0 → ((zg M 135 (zw v2).toNat = (-63) → (E mX2_pop [.ref 128] M (fun r9 M10 => (zw r9 = 0 → (wp E 2 cX2_reckon (some .int) Q 43 [some (.ref 128), some (zI 1), some (zI (v2 + 1)), none] [] M10)) ∧ (¬ zw r9 = 0 → (wp E 2 cX2_reckon (some .int) Q 43 [some (.ref 128), some (zI 0), some (zI (v2 + 1)), none] [] M10))))) ∧ (¬ zg M 135 (zw v2).toNat = (-63) → ((zg M 135 (zw v2).toNat < (-6) → (E mX2_reckonSign [.ref 128, zI (-(zg M 135 (zw v2).toNat))] M (fun r5 M6 => wp E 2 cX2_reckon (some .int) Q 43 [some (.ref 128), some (zI v1), some (zI (v2 + 1)), none] [] M6))) ∧ (¬ zg M 135 (zw v2).toNat < (-6) → ((zg M 135 (zw v2).toNat < 0 → ((0 ≤ zw ((-1) - (zg M 135 (zw v2).toNat))) ∧ ((zw ((-1) - (zg M 135 (zw v2).toNat)) < 6) ∧ (wp E 2 cX2_reckon (some .int) Q 130 [some (.ref 128), some (zI v1), some (zI v2), none] [zI (zg M 137 (zw ((-1) - (zg M 135 (zw v2).toNat))).toNat), .ref 128] M)))) ∧ (¬ zg M 135 (zw v2).toNat < 0 → (wp E 2 cX2_reckon (some .int) Q 130 [some (.ref 128), some (zI v1), some (zI v2), none] [zI (zg M 135 (zw v2).toNat), .ref 128] M)))))))) ∧ (¬ zw v1 = 0 → (wp E 2 cX2_reckon (some .int) Q 43 [some (.ref 128), some (zI v1), some (zI (v2 + 1)), none] [] M)))))))) ∧ (¬ zw v2 < zg M 128 7 → (E mX2_pop [.ref 128] M (fun r1 M2 => Q (zw r1) M2)))) : wp E 2 cX2_reckon (some .int) Q 43 [some (.ref 128), some (zI v1), some (zI v2), none] [] M := by
  refine w_iload_n dX2_reckon_43 rfl ?_
  refine w_aload_n dX2_reckon_44 rfl ?_
  refine w_gfI (ci := 2) (k := 7) dX2_reckon_45 f2_49 ob_128 rfl ?_
  refine w_icmp_ge (tgt := 148) dX2_reckon_48 (by decide) rfl (zw_zg _ _ _) (fun q => ?_) (fun q => ?_)
  · have h := h.2 q
    refine w_aload_n dX2_reckon_148 rfl ?_
    refine w_invVi [] dX2_reckon_149 l2_103 kX2_pop rfl rfl (Nat.le_of_ble_eq_true rfl) (Or.inl rfl) ob_128 h (fun r1 M2 h => ?_)
    exact w_ri rfl dX2_reckon_152 rfl h
  · have h := h.1 q
    refine w_aload_n dX2_reckon_51 rfl ?_
    refine w_gfA (ci := 2) (k := 6) dX2_reckon_52 f2_18 ob_128 rfl ?_
    refine w_iload_n dX2_reckon_55 rfl ?_
    obtain ⟨c3, h⟩ := h
    obtain ⟨c4, h⟩ := h
    refine w_iald dX2_reckon_56 rfl (a2_6 ob_128) c3 c4 ?_
    refine w_istore_n dX2_reckon_57 (Nat.le_of_ble_eq_true rfl) rfl ?_
    refine w_iload_n dX2_reckon_58 rfl ?_
    refine w_bipush dX2_reckon_59 (by decide) ?_
    refine w_icmp_ne (tgt := 78) dX2_reckon_61 (by decide) (zw_zg _ _ _) zq_m59 (fun q => ?_) (fun q => ?_)
    · have h := h.2 q
      refine w_iload_n dX2_reckon_78 rfl ?_
      refine w_if_eq (tgt := 85) dX2_reckon_79 (by decide) rfl (fun q => ?_) (fun q => ?_)
      · have h := h.1 q
        refine w_iload_n dX2_reckon_85 rfl ?_
        refine w_bipush dX2_reckon_86 (by decide) ?_
        refine w_icmp_ne (tgt := 107) dX2_reckon_88 (by decide) (zw_zg _ _ _) zq_m63 (fun q => ?_) (fun q => ?_)
        · have h := h.2 q
          refine w_iload_n dX2_reckon_107 rfl ?_
          refine w_bipush dX2_reckon_108 (by decide) ?_
          refine w_icmp_lt (tgt := 136) dX2_reckon_110 (by decide) (zw_zg _ _ _) zq_m6 (fun q => ?_) (fun q => ?_)
          · have h := h.1 q
            refine w_aload_n dX2_reckon_136 rfl ?_
            refine w_iload_n dX2_reckon_137 rfl ?_
            refine w_ineg dX2_reckon_138 ?_
            refine w_invVv [_] dX2_reckon_139 l2_109 kX2_reckonSign rfl rfl (Nat.le_of_ble_eq_true rfl) rfl ob_128 h (fun r5 M6 h => ?_)
            refine w_iinc dX2_reckon_142 rfl rfl ?_
            refine w_goto (tgt := 43) dX2_reckon_145 (by decide) ?_
            exact w_fgt (fgk (fgk (fgk (fgd (fgn))))) h
          · have h := h.2 q
            refine w_aload_n dX2_reckon_113 rfl ?_
            refine w_iload_n dX2_reckon_114 rfl ?_
            refine w_if_lt (tgt := 122) dX2_reckon_115 (by decide) (zw_zg _ _ _) (fun q => ?_) (fun q => ?_)
            · have h := h.1 q
              refine w_aload_n dX2_reckon_122 rfl ?_
              refine w_gfA (ci := 2) (k := 8) dX2_reckon_123 f2_21 ob_128 rfl ?_
              refine w_iconst dX2_reckon_126 ?_
              refine w_iload_n dX2_reckon_127 rfl ?_
              refine w_isub dX2_reckon_128 ?_
              obtain ⟨c7, h⟩ := h
              obtain ⟨c8, h⟩ := h
              refine w_iald dX2_reckon_129 rfl (a2_8 ob_128) c7 c8 ?_
              exact w_fgt (fgk (fgk (fgk (fgd (fgn))))) h
            · have h := h.2 q
              refine w_iload_n dX2_reckon_118 rfl ?_
              refine w_goto (tgt := 130) dX2_reckon_119 (by decide) ?_
              exact w_fgt (fgk (fgk (fgk (fgd (fgn))))) h
        · have h := h.1 q
          refine w_aload_n dX2_reckon_91 rfl ?_
          refine w_invVi [] dX2_reckon_92 l2_103 kX2_pop rfl rfl (Nat.le_of_ble_eq_true rfl) (Or.inl rfl) ob_128 h (fun r9 M10 h => ?_)
          refine w_if_ne (tgt := 102) dX2_reckon_95 (by decide) rfl (fun q => ?_) (fun q => ?_)
          · have h := h.2 q
            refine w_iconst dX2_reckon_102 ?_
            refine w_istore_n dX2_reckon_103 (Nat.le_of_ble_eq_true rfl) rfl ?_
            refine w_goto (tgt := 142) dX2_reckon_104 (by decide) ?_
            refine w_iinc dX2_reckon_142 rfl rfl ?_
            refine w_goto (tgt := 43) dX2_reckon_145 (by decide) ?_
            exact w_fgt (fgk (fgk (fgk (fgd (fgn))))) h
          · have h := h.1 q
            refine w_iconst dX2_reckon_98 ?_
            refine w_goto (tgt := 103) dX2_reckon_99 (by decide) ?_
            refine w_istore_n dX2_reckon_103 (Nat.le_of_ble_eq_true rfl) rfl ?_
            refine w_goto (tgt := 142) dX2_reckon_104 (by decide) ?_
            refine w_iinc dX2_reckon_142 rfl rfl ?_
            refine w_goto (tgt := 43) dX2_reckon_145 (by decide) ?_
            exact w_fgt (fgk (fgk (fgk (fgd (fgn))))) h
      · have h := h.2 q
        refine w_goto (tgt := 142) dX2_reckon_82 (by decide) ?_
        refine w_iinc dX2_reckon_142 rfl rfl ?_
        refine w_goto (tgt := 43) dX2_reckon_145 (by decide) ?_
        exact w_fgt (fgk (fgk (fgk (fgd (fgn))))) h
    · have h := h.1 q
      refine w_iload_n dX2_reckon_64 rfl ?_
      refine w_if_ne (tgt := 73) dX2_reckon_65 (by decide) rfl (fun q => ?_) (fun q => ?_)
      · have h := h.2 q
        refine w_iconst dX2_reckon_73 ?_
        refine w_istore_n dX2_reckon_74 (Nat.le_of_ble_eq_true rfl) rfl ?_
        refine w_goto (tgt := 142) dX2_reckon_75 (by decide) ?_
        refine w_iinc dX2_reckon_142 rfl rfl ?_
        refine w_goto (tgt := 43) dX2_reckon_145 (by decide) ?_
        exact w_fgt (fgk (fgk (fgk (fgd (fgn))))) h
      · have h := h.1 q
        refine w_aload_n dX2_reckon_68 rfl ?_
        refine w_invVi [] dX2_reckon_69 l2_103 kX2_pop rfl rfl (Nat.le_of_ble_eq_true rfl) (Or.inl rfl) ob_128 h (fun r11 M12 h => ?_)
        exact w_ri rfl dX2_reckon_72 rfl h
theorem v_X2_reckon_130 {E : zE} {Q : Int → zM → Prop} {M : zM} (v1 : Int) (v2 : Int) (s0 : Int)  (h : E mX2_push [.ref 128, zI s0] M (fun r1 M2 => wp E 2 cX2_reckon (some .int) Q 43 [some (.ref 128), some (zI v1), some (zI (v2 + 1)), none] [] M2)) : wp E 2 cX2_reckon (some .int) Q 130 [some (.ref 128), some (zI v1), some (zI v2), none] [zI s0, .ref 128] M := by
  refine w_invVv [_] dX2_reckon_130 l2_106 kX2_push rfl rfl (Nat.le_of_ble_eq_true rfl) rfl ob_128 h (fun r1 M2 h => ?_)
  refine w_goto (tgt := 142) dX2_reckon_133 (by decide) ?_
  refine w_iinc dX2_reckon_142 rfl rfl ?_
  refine w_goto (tgt := 43) dX2_reckon_145 (by decide) ?_
  exact w_fgt (fgk (fgk (fgk (fgd (fgn))))) h
theorem e_X2_reckonSign {d : Nat} {Q : Int → zM → Prop} {M : zM} (v1 : Int) (h : wp (Ev d) 2 cX2_reckonSign (none) Q 0 [some (.ref 128), some (zI v1), none] [] M) : Ev (d + 1) mX2_reckonSign [.ref 128, zI v1] M Q := ⟨kX2_reckonSign, Nat.le_of_ble_eq_true rfl, h⟩
theorem v_X2_reckonSign_0 {E : zE} {Q : Int → zM → Prop} {M : zM} (v1 : Int)  (h : E mX2_pop [.ref 128] M (fun r1 M2 => (zw v1 = 33 → ((zw r1 = 0 → (wp E 2 cX2_reckonSign (none) Q 21 [none, none, none] [zI 1, .ref 128] M2)) ∧ (¬ zw r1 = 0 → (wp E 2 cX2_reckonSign (none) Q 21 [none, none, none] [zI 0, .ref 128] M2)))) ∧ (¬ zw v1 = 33 → ((zw v1 = 126 → (E mX2_push [.ref 128, zI (-r1)] M2 (fun r9 M10 => Q 0 M10))) ∧ (¬ zw v1 = 126 → (E mX2_pop [.ref 128] M2 (fun r3 M4 => E mX2_joined [zI v1, zI r3, zI r1] M4 (fun r5 M6 => E mX2_push [.ref 128, zI r5] M6 (fun r7 M8 => Q 0 M8))))))))) : wp E 2 cX2_reckonSign (none) Q 0 [some (.ref 128), some (zI v1), none] [] M := by
  refine w_aload_n dX2_reckonSign_0 rfl ?_
  refine w_invVi [] dX2_reckonSign_1 l2_103 kX2_pop rfl rfl (Nat.le_of_ble_eq_true rfl) (Or.inl rfl) ob_128 h (fun r1 M2 h => ?_)
  refine w_istore_n dX2_reckonSign_4 (Nat.le_of_ble_eq_true rfl) rfl ?_
  refine w_iload_n dX2_reckonSign_5 rfl ?_
  refine w_bipush dX2_reckonSign_6 (by decide) ?_
  refine w_icmp_ne (tgt := 27) dX2_reckonSign_8 (by decide) rfl zq_33 (fun q => ?_) (fun q => ?_)
  · have h := h.2 q
    refine w_iload_n dX2_reckonSign_27 rfl ?_
    refine w_bipush dX2_reckonSign_28 (by decide) ?_
    refine w_icmp_ne (tgt := 42) dX2_reckonSign_30 (by decide) rfl zq_126 (fun q => ?_) (fun q => ?_)
    · have h := h.2 q
      refine w_aload_n dX2_reckonSign_42 rfl ?_
      refine w_iload_n dX2_reckonSign_43 rfl ?_
      refine w_aload_n dX2_reckonSign_44 rfl ?_
      refine w_invVi [] dX2_reckonSign_45 l2_103 kX2_pop rfl rfl (Nat.le_of_ble_eq_true rfl) (Or.inl rfl) ob_128 h (fun r3 M4 h => ?_)
      refine w_iload_n dX2_reckonSign_48 rfl ?_
      refine w_invSi [_, _, _] dX2_reckonSign_49 l2_112 kX2_joined rfl rfl (Nat.le_of_ble_eq_true rfl) (Or.inl rfl) h (fun r5 M6 h => ?_)
      refine w_invVv [_] dX2_reckonSign_52 l2_106 kX2_push rfl rfl (Nat.le_of_ble_eq_true rfl) rfl ob_128 h (fun r7 M8 h => ?_)
      exact w_rv rfl dX2_reckonSign_55 h
    · have h := h.1 q
      refine w_aload_n dX2_reckonSign_33 rfl ?_
      refine w_iload_n dX2_reckonSign_34 rfl ?_
      refine w_ineg dX2_reckonSign_35 ?_
      refine w_invVv [_] dX2_reckonSign_36 l2_106 kX2_push rfl rfl (Nat.le_of_ble_eq_true rfl) rfl ob_128 h (fun r9 M10 h => ?_)
      refine w_goto (tgt := 55) dX2_reckonSign_39 (by decide) ?_
      exact w_rv rfl dX2_reckonSign_55 h
  · have h := h.1 q
    refine w_aload_n dX2_reckonSign_11 rfl ?_
    refine w_iload_n dX2_reckonSign_12 rfl ?_
    refine w_if_ne (tgt := 20) dX2_reckonSign_13 (by decide) rfl (fun q => ?_) (fun q => ?_)
    · have h := h.2 q
      refine w_iconst dX2_reckonSign_20 ?_
      exact w_fgt (fgd (fgd (fgd (fgn)))) h
    · have h := h.1 q
      refine w_iconst dX2_reckonSign_16 ?_
      refine w_goto (tgt := 21) dX2_reckonSign_17 (by decide) ?_
      exact w_fgt (fgd (fgd (fgd (fgn)))) h
theorem v_X2_reckonSign_21 {E : zE} {Q : Int → zM → Prop} {M : zM} (s0 : Int)  (h : E mX2_push [.ref 128, zI s0] M (fun r1 M2 => Q 0 M2)) : wp E 2 cX2_reckonSign (none) Q 21 [none, none, none] [zI s0, .ref 128] M := by
  refine w_invVv [_] dX2_reckonSign_21 l2_106 kX2_push rfl rfl (Nat.le_of_ble_eq_true rfl) rfl ob_128 h (fun r1 M2 h => ?_)
  refine w_goto (tgt := 55) dX2_reckonSign_24 (by decide) ?_
  exact w_rv rfl dX2_reckonSign_55 h
theorem e_X2_joined {d : Nat} {Q : Int → zM → Prop} {M : zM} (v0 : Int) (v1 : Int) (v2 : Int) (h : wp (Ev d) 2 cX2_joined (some .int) Q 0 [some (zI v0), some (zI v1), some (zI v2)] [] M) : Ev (d + 1) mX2_joined [zI v0, zI v1, zI v2] M Q := ⟨kX2_joined, Nat.le_of_ble_eq_true rfl, h⟩
theorem v_X2_joined_0 {E : zE} {Q : Int → zM → Prop} {M : zM} (v0 : Int) (v1 : Int) (v2 : Int)  (h : (zw v0 = 37 → ((zw v2 = 0 → (Q 0 M)) ∧ (¬ zw v2 = 0 → ((¬ zw v2 = 0) ∧ (Q (z_rem v1 v2) M))))) ∧ (zw v0 = 38 → ((zw v1 = 0 → (Q 0 M)) ∧ (¬ zw v1 = 0 → ((zw v2 = 0 → (Q 0 M)) ∧ (¬ zw v2 = 0 → (Q 1 M)))))) ∧ (zw v0 = 42 → (Q (zw (v1 * v2)) M)) ∧ (zw v0 = 43 → (Q (zw (v1 + v2)) M)) ∧ (zw v0 = 45 → (Q (zw (v1 - v2)) M)) ∧ (zw v0 = 47 → ((zw v2 = 0 → (Q 0 M)) ∧ (¬ zw v2 = 0 → ((¬ zw v2 = 0) ∧ (Q (z_div v1 v2) M))))) ∧ (zw v0 = 60 → ((zw v1 < zw v2 → (Q 1 M)) ∧ (¬ zw v1 < zw v2 → (Q 0 M)))) ∧ (zw v0 = 61 → ((zw v1 = zw v2 → (Q 1 M)) ∧ (¬ zw v1 = zw v2 → (Q 0 M)))) ∧ (zw v0 = 62 → ((zw v2 < zw v1 → (Q 1 M)) ∧ (¬ zw v2 < zw v1 → (Q 0 M)))) ∧ (zw v0 = 124 → ((zw v1 = 0 → ((zw v2 = 0 → (Q 0 M)) ∧ (¬ zw v2 = 0 → (Q 1 M)))) ∧ (¬ zw v1 = 0 → (Q 1 M)))) ∧ (¬ zw v0 = 37 → ¬ zw v0 = 38 → ¬ zw v0 = 42 → ¬ zw v0 = 43 → ¬ zw v0 = 45 → ¬ zw v0 = 47 → ¬ zw v0 = 60 → ¬ zw v0 = 61 → ¬ zw v0 = 62 → ¬ zw v0 = 124 → (Q 0 M))) : wp E 2 cX2_joined (some .int) Q 0 [some (zI v0), some (zI v1), some (zI v2)] [] M := by
  refine w_iload_n dX2_joined_0 rfl ?_
  by_cases q0 : zw v0 = 37
  · refine w_lsw (tgt := 116) dX2_joined_1 (by decide) (by rw [q0]; decide) ?_
    have h := h.1 q0
    refine w_iload_n dX2_joined_116 rfl ?_
    refine w_if_ne (tgt := 124) dX2_joined_117 (by decide) rfl (fun q => ?_) (fun q => ?_)
    · have h := h.2 q
      refine w_iload_n dX2_joined_124 rfl ?_
      refine w_iload_n dX2_joined_125 rfl ?_
      obtain ⟨c1, h⟩ := h
      refine w_irem dX2_joined_126 c1 ?_
      exact w_ri rfl dX2_joined_127 (zx_rem _ _) h
    · have h := h.1 q
      refine w_iconst dX2_joined_120 ?_
      refine w_goto (tgt := 127) dX2_joined_121 (by decide) ?_
      exact w_ri rfl dX2_joined_127 zq_0 h
  · skip
    by_cases q1 : zw v0 = 38
    · refine w_lsw (tgt := 142) dX2_joined_1 (by decide) (by rw [q1]; decide) ?_
      have h := h.2.1 q1
      refine w_iload_n dX2_joined_142 rfl ?_
      refine w_if_eq (tgt := 154) dX2_joined_143 (by decide) rfl (fun q => ?_) (fun q => ?_)
      · have h := h.1 q
        refine w_iconst dX2_joined_154 ?_
        exact w_ri rfl dX2_joined_155 zq_0 h
      · have h := h.2 q
        refine w_iload_n dX2_joined_146 rfl ?_
        refine w_if_eq (tgt := 154) dX2_joined_147 (by decide) rfl (fun q => ?_) (fun q => ?_)
        · have h := h.1 q
          refine w_iconst dX2_joined_154 ?_
          exact w_ri rfl dX2_joined_155 zq_0 h
        · have h := h.2 q
          refine w_iconst dX2_joined_150 ?_
          refine w_goto (tgt := 155) dX2_joined_151 (by decide) ?_
          exact w_ri rfl dX2_joined_155 zq_1 h
    · skip
      by_cases q2 : zw v0 = 42
      · refine w_lsw (tgt := 100) dX2_joined_1 (by decide) (by rw [q2]; decide) ?_
        have h := h.2.2.1 q2
        refine w_iload_n dX2_joined_100 rfl ?_
        refine w_iload_n dX2_joined_101 rfl ?_
        refine w_imul dX2_joined_102 ?_
        exact w_ri rfl dX2_joined_103 rfl h
      · skip
        by_cases q3 : zw v0 = 43
        · refine w_lsw (tgt := 92) dX2_joined_1 (by decide) (by rw [q3]; decide) ?_
          have h := h.2.2.2.1 q3
          refine w_iload_n dX2_joined_92 rfl ?_
          refine w_iload_n dX2_joined_93 rfl ?_
          refine w_iadd dX2_joined_94 ?_
          exact w_ri rfl dX2_joined_95 rfl h
        · skip
          by_cases q4 : zw v0 = 45
          · refine w_lsw (tgt := 96) dX2_joined_1 (by decide) (by rw [q4]; decide) ?_
            have h := h.2.2.2.2.1 q4
            refine w_iload_n dX2_joined_96 rfl ?_
            refine w_iload_n dX2_joined_97 rfl ?_
            refine w_isub dX2_joined_98 ?_
            exact w_ri rfl dX2_joined_99 rfl h
          · skip
            by_cases q5 : zw v0 = 47
            · refine w_lsw (tgt := 104) dX2_joined_1 (by decide) (by rw [q5]; decide) ?_
              have h := h.2.2.2.2.2.1 q5
              refine w_iload_n dX2_joined_104 rfl ?_
              refine w_if_ne (tgt := 112) dX2_joined_105 (by decide) rfl (fun q => ?_) (fun q => ?_)
              · have h := h.2 q
                refine w_iload_n dX2_joined_112 rfl ?_
                refine w_iload_n dX2_joined_113 rfl ?_
                obtain ⟨c2, h⟩ := h
                refine w_idiv dX2_joined_114 c2 ?_
                exact w_ri rfl dX2_joined_115 (zx_div _ _) h
              · have h := h.1 q
                refine w_iconst dX2_joined_108 ?_
                refine w_goto (tgt := 115) dX2_joined_109 (by decide) ?_
                exact w_ri rfl dX2_joined_115 zq_0 h
            · skip
              by_cases q6 : zw v0 = 60
              · refine w_lsw (tgt := 156) dX2_joined_1 (by decide) (by rw [q6]; decide) ?_
                have h := h.2.2.2.2.2.2.1 q6
                refine w_iload_n dX2_joined_156 rfl ?_
                refine w_iload_n dX2_joined_157 rfl ?_
                refine w_icmp_ge (tgt := 165) dX2_joined_158 (by decide) rfl rfl (fun q => ?_) (fun q => ?_)
                · have h := h.2 q
                  refine w_iconst dX2_joined_165 ?_
                  exact w_ri rfl dX2_joined_166 zq_0 h
                · have h := h.1 q
                  refine w_iconst dX2_joined_161 ?_
                  refine w_goto (tgt := 166) dX2_joined_162 (by decide) ?_
                  exact w_ri rfl dX2_joined_166 zq_1 h
              · skip
                by_cases q7 : zw v0 = 61
                · refine w_lsw (tgt := 167) dX2_joined_1 (by decide) (by rw [q7]; decide) ?_
                  have h := h.2.2.2.2.2.2.2.1 q7
                  refine w_iload_n dX2_joined_167 rfl ?_
                  refine w_iload_n dX2_joined_168 rfl ?_
                  refine w_icmp_ne (tgt := 176) dX2_joined_169 (by decide) rfl rfl (fun q => ?_) (fun q => ?_)
                  · have h := h.2 q
                    refine w_iconst dX2_joined_176 ?_
                    exact w_ri rfl dX2_joined_177 zq_0 h
                  · have h := h.1 q
                    refine w_iconst dX2_joined_172 ?_
                    refine w_goto (tgt := 177) dX2_joined_173 (by decide) ?_
                    exact w_ri rfl dX2_joined_177 zq_1 h
                · skip
                  by_cases q8 : zw v0 = 62
                  · refine w_lsw (tgt := 178) dX2_joined_1 (by decide) (by rw [q8]; decide) ?_
                    have h := h.2.2.2.2.2.2.2.2.1 q8
                    refine w_iload_n dX2_joined_178 rfl ?_
                    refine w_iload_n dX2_joined_179 rfl ?_
                    refine w_icmp_le (tgt := 187) dX2_joined_180 (by decide) rfl rfl (fun q => ?_) (fun q => ?_)
                    · have h := h.2 q
                      refine w_iconst dX2_joined_187 ?_
                      exact w_ri rfl dX2_joined_188 zq_0 h
                    · have h := h.1 q
                      refine w_iconst dX2_joined_183 ?_
                      refine w_goto (tgt := 188) dX2_joined_184 (by decide) ?_
                      exact w_ri rfl dX2_joined_188 zq_1 h
                  · skip
                    by_cases q9 : zw v0 = 124
                    · refine w_lsw (tgt := 128) dX2_joined_1 (by decide) (by rw [q9]; decide) ?_
                      have h := h.2.2.2.2.2.2.2.2.2.1 q9
                      refine w_iload_n dX2_joined_128 rfl ?_
                      refine w_if_ne (tgt := 136) dX2_joined_129 (by decide) rfl (fun q => ?_) (fun q => ?_)
                      · have h := h.2 q
                        refine w_iconst dX2_joined_136 ?_
                        refine w_goto (tgt := 141) dX2_joined_137 (by decide) ?_
                        exact w_ri rfl dX2_joined_141 zq_1 h
                      · have h := h.1 q
                        refine w_iload_n dX2_joined_132 rfl ?_
                        refine w_if_eq (tgt := 140) dX2_joined_133 (by decide) rfl (fun q => ?_) (fun q => ?_)
                        · have h := h.1 q
                          refine w_iconst dX2_joined_140 ?_
                          exact w_ri rfl dX2_joined_141 zq_0 h
                        · have h := h.2 q
                          refine w_iconst dX2_joined_136 ?_
                          refine w_goto (tgt := 141) dX2_joined_137 (by decide) ?_
                          exact w_ri rfl dX2_joined_141 zq_1 h
                    · skip
                      have hz : (1 : Int) + Op.lookupswitch.offset [(37, 115), (38, 141), (42, 99), (43, 91), (45, 95), (47, 103), (60, 155), (61, 166), (62, 177), (124, 127)] (188) (zw v0) = (189 : Nat) := by
                        rw [Op.lookupswitch.offset_cons, if_neg (fun z => q0 z.symm), Op.lookupswitch.offset_cons, if_neg (fun z => q1 z.symm), Op.lookupswitch.offset_cons, if_neg (fun z => q2 z.symm), Op.lookupswitch.offset_cons, if_neg (fun z => q3 z.symm), Op.lookupswitch.offset_cons, if_neg (fun z => q4 z.symm), Op.lookupswitch.offset_cons, if_neg (fun z => q5 z.symm), Op.lookupswitch.offset_cons, if_neg (fun z => q6 z.symm), Op.lookupswitch.offset_cons, if_neg (fun z => q7 z.symm), Op.lookupswitch.offset_cons, if_neg (fun z => q8 z.symm), Op.lookupswitch.offset_cons, if_neg (fun z => q9 z.symm), Op.lookupswitch.offset_nil]; rfl
                      refine w_lsw (tgt := 189) dX2_joined_1 (by decide) hz ?_
                      have h := h.2.2.2.2.2.2.2.2.2.2 q0 q1 q2 q3 q4 q5 q6 q7 q8 q9
                      refine w_iconst dX2_joined_189 ?_
                      exact w_ri rfl dX2_joined_190 zq_0 h
theorem e_X2_push {d : Nat} {Q : Int → zM → Prop} {M : zM} (v1 : Int) (h : wp (Ev d) 2 cX2_push (none) Q 0 [some (.ref 128), some (zI v1)] [] M) : Ev (d + 1) mX2_push [.ref 128, zI v1] M Q := ⟨kX2_push, Nat.le_of_ble_eq_true rfl, h⟩
theorem v_X2_push_0 {E : zE} {Q : Int → zM → Prop} {M : zM} (v1 : Int)  (h : (zg M 128 10 < 120 → ((0 ≤ zg M 128 10) ∧ ((zg M 128 10 < 120) ∧ (∀ M3 : zM, M3 = zs M 138 (zg M 128 10).toNat v1 → (∀ M4 : zM, M4 = zs M3 128 10 ((zg M3 128 10) + 1) → (Q 0 M4)))))) ∧ (¬ zg M 128 10 < 120 → (Q 0 M))) : wp E 2 cX2_push (none) Q 0 [some (.ref 128), some (zI v1)] [] M := by
  refine w_aload_n dX2_push_0 rfl ?_
  refine w_gfI (ci := 2) (k := 10) dX2_push_1 f2_100 ob_128 rfl ?_
  refine w_bipush dX2_push_4 (by decide) ?_
  refine w_icmp_ge (tgt := 29) dX2_push_6 (by decide) (zw_zg _ _ _) zq_120 (fun q => ?_) (fun q => ?_)
  · have h := h.2 q
    exact w_rv rfl dX2_push_29 h
  · have h := h.1 q
    refine w_aload_n dX2_push_9 rfl ?_
    refine w_gfA (ci := 2) (k := 9) dX2_push_10 f2_24 ob_128 rfl ?_
    refine w_aload_n dX2_push_13 rfl ?_
    refine w_gfI (ci := 2) (k := 10) dX2_push_14 f2_100 ob_128 rfl ?_
    refine w_iload_n dX2_push_17 rfl ?_
    obtain ⟨c1, h⟩ := h
    obtain ⟨c2, h⟩ := h
    have h := h _ rfl
    refine w_iast dX2_push_18 (zw_zg _ _ _) (a2_9 ob_128) c1 c2 ?_
    refine w_aload_n dX2_push_19 rfl ?_
    refine w_dup dX2_push_20 rfl ?_
    refine w_gfI (ci := 2) (k := 10) dX2_push_21 f2_100 ob_128 rfl ?_
    refine w_iconst dX2_push_24 ?_
    refine w_iadd dX2_push_25 ?_
    have h := h _ rfl
    refine w_pfI (ci := 2) (k := 10) dX2_push_26 f2_100 ob_128 rfl rfl rfl ?_
    exact w_rv rfl dX2_push_29 h
theorem e_X2_pop {d : Nat} {Q : Int → zM → Prop} {M : zM}  (h : wp (Ev d) 2 cX2_pop (some .int) Q 0 [some (.ref 128)] [] M) : Ev (d + 1) mX2_pop [.ref 128] M Q := ⟨kX2_pop, Nat.le_of_ble_eq_true rfl, h⟩
theorem v_X2_pop_0 {E : zE} {Q : Int → zM → Prop} {M : zM}   (h : (zg M 128 10 < 1 → (Q 0 M)) ∧ (¬ zg M 128 10 < 1 → (∀ M1 : zM, M1 = zs M 128 10 ((zg M 128 10) - 1) → ((0 ≤ zg M1 128 10) ∧ ((zg M1 128 10 < 120) ∧ (Q (zg M1 138 (zg M1 128 10).toNat) M1)))))) : wp E 2 cX2_pop (some .int) Q 0 [some (.ref 128)] [] M := by
  refine w_aload_n dX2_pop_0 rfl ?_
  refine w_gfI (ci := 2) (k := 10) dX2_pop_1 f2_100 ob_128 rfl ?_
  refine w_iconst dX2_pop_4 ?_
  refine w_icmp_ge (tgt := 10) dX2_pop_5 (by decide) (zw_zg _ _ _) zq_1 (fun q => ?_) (fun q => ?_)
  · have h := h.2 q
    refine w_aload_n dX2_pop_10 rfl ?_
    refine w_dup dX2_pop_11 rfl ?_
    refine w_gfI (ci := 2) (k := 10) dX2_pop_12 f2_100 ob_128 rfl ?_
    refine w_iconst dX2_pop_15 ?_
    refine w_isub dX2_pop_16 ?_
    have h := h _ rfl
    refine w_pfI (ci := 2) (k := 10) dX2_pop_17 f2_100 ob_128 rfl rfl rfl ?_
    refine w_aload_n dX2_pop_20 rfl ?_
    refine w_gfA (ci := 2) (k := 9) dX2_pop_21 f2_24 ob_128 rfl ?_
    refine w_aload_n dX2_pop_24 rfl ?_
    refine w_gfI (ci := 2) (k := 10) dX2_pop_25 f2_100 ob_128 rfl ?_
    obtain ⟨c2, h⟩ := h
    obtain ⟨c3, h⟩ := h
    refine w_iald dX2_pop_28 (zw_zg _ _ _) (a2_9 ob_128) c2 c3 ?_
    exact w_ri rfl dX2_pop_29 (zw_zg _ _ _) h
  · have h := h.1 q
    refine w_iconst dX2_pop_8 ?_
    exact w_ri rfl dX2_pop_9 zq_0 h
