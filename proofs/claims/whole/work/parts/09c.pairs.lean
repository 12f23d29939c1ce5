/-! pairs: names, fame, the tape, the image, bodies -/
theorem c_X7_name {d : Nat} {M : zM} {Q : Int → zM → Prop} (hd : 3 ≤ d) (p v : Int) (hn : zg M 192 5 ≤ 12) (hf : ¬ ((0 ≤ zw p ∧ zw p < zg M 192 5) ∧ (-1 ≤ zw v ∧ zw v < 12)) → Q (-2000000000) M) (ht : ((0 ≤ zw p ∧ zw p < zg M 192 5) ∧ (-1 ≤ zw v ∧ zw v < 12)) → Q (zg M 196 (zw p).toNat) (zs M 196 (zw p).toNat v)) : Ev d mX7_name [.ref 64, zI p, zI v] M Q := by
  obtain ⟨d, rfl, -⟩ := e_of 2 hd
  refine e_X7_name p v (v_X7_name_0 p v (c_X4_hasPerson (by omega) 192 ob_192 p (bz_br (fun q => hf (fun z => q z.1)) (fun q => c_X7_mayBeNamed (by omega) v (bz_br (fun q2 => hf (fun z => q2 z.2)) (fun q2 => ⟨by omega, by omega, by omega, by omega, ?_⟩))))))
  rintro _ rfl; exact ht ⟨q, q2⟩
theorem c_X8_name {d : Nat} {M : zM} {Q : Int → zM → Prop} (hd : 3 ≤ d) (p v : Int) (h0 : 0 ≤ zg M 1280 1) (hn : zg M 1280 1 ≤ 12) (hf : ¬ ((0 ≤ zw p ∧ zw p < zg M 1280 1) ∧ (-1 ≤ zw v ∧ zw v < 12)) → Q (-2000000000) M) (ht : ((0 ≤ zw p ∧ zw p < zg M 1280 1) ∧ (-1 ≤ zw v ∧ zw v < 12)) → Q (zg M 1285 (zw p).toNat) (zs M 1285 (zw p).toNat v)) : Ev d mX8_name [.ref 1280, zI p, zI v] M Q := by
  obtain ⟨d, rfl, -⟩ := e_of 2 hd
  refine e_X8_name p v (v_X8_name_0 p v (c_X8_isPerson (by omega) p h0 (bz_br (fun q => hf (fun z => q z.1)) (fun q => c_X8_in (by omega) _ _ _ ?_))))
  rw [zq_m1, zq_11]
  refine bz_br (fun q2 => hf (fun z => q2 (by omega))) (fun q2 => ⟨by omega, by omega, by omega, by omega, ?_⟩)
  rintro _ rfl; exact ht ⟨q, by omega⟩
theorem p_name {d : Nat} {M : zM} (hd : 5 ≤ d) (p v : Int) (hI : Inv M) : Pr d mX7_name mX8_name [zI p, zI v] M := by
  obtain ⟨n, n1, n2, n3⟩ := Inv_n hI
  refine c_X7_name (by omega) p v (by omega) (fun q => ?_) (fun q => ?_)
  · exact c_X8_name (by omega) p v (by omega) (by omega) (fun _ => ⟨rfl, hI⟩) (fun g => absurd (by omega) q)
  · have e : ∀ a b, a ≠ 196 → zg (zs M 196 (zw p).toNat v) a b = zg M a b := fun a b h => zg_zsi _ _ _ _ h
    refine c_X8_name (by omega) p v (by rw [e _ _ (by omega)]; omega) (by rw [e _ _ (by omega)]; omega) (fun g => absurd (by rw [e _ _ (by omega)]; omega) g) (fun _ => ?_)
    obtain ⟨h1, h2, h3, h4, h5, h6, h7, h8, h9, h10, h11, h12, h13, h14⟩ := hI
    have hp := h3 (zw p).toNat (by omega)
    refine ⟨by rw [e _ _ (by omega)]; exact hp.1, (IP_zs rfl (IP_zs rfl h1)), (ID_zs rfl (ID_zs rfl h2)), ?_, (IM_zs rfl (IM_zs rfl h4)), (IH_zs rfl (IH_zs rfl h5)), (IW_zs rfl (IW_zs rfl h6)), (IF_zs rfl (IF_zs rfl h7)), (IC_zs rfl (IC_zs rfl h8)), (II_zs rfl (II_zs rfl h9)), (IT_zs rfl (IT_zs rfl h10)), (IL_zs rfl (IL_zs rfl h11)), (IG_zs rfl (IG_zs rfl h12)), (IR_zs rfl (IR_zs rfl h13)), (IS_zs rfl (IS_zs rfl h14))⟩
    intro x hx
    rw [zg_zsi _ _ _ _ (by omega), e _ _ (by omega)] at hx
    have hx2 := h3 x hx
    by_cases hxp : x = (zw p).toNat
    · subst hxp
      rw [zg_zs1, zg_zsi _ _ _ _ (by omega), zg_zs1]; omega
    · simp only [zg_zs, hxp, and_false, if_false]; exact hx2
theorem c_X7_fame {d : Nat} {M : zM} {Q : Int → zM → Prop} (hd : 3 ≤ d) (p v : Int) (hf : ¬ ((0 ≤ zw p ∧ zw p < 12) ∧ (0 ≤ zw v ∧ zw v ≤ 1)) → Q (-1) M) (ht : ((0 ≤ zw p ∧ zw p < 12) ∧ (0 ≤ zw v ∧ zw v ≤ 1)) → Q (zg M 206 (zw p).toNat) (zs M 206 (zw p).toNat v)) : Ev d mX7_fame [.ref 64, zI p, zI v] M Q := by
  obtain ⟨d, rfl, -⟩ := e_of 2 hd
  refine e_X7_fame p v (v_X7_fame_0 p v (c_X7_isName (by omega) p (bz_br (fun q => hf (fun z => q z.1)) (fun q => ⟨fun q2 => v_X7_fame_18 p v ⟨by omega, by omega, by omega, by omega, ?_⟩, fun q2 => ⟨fun q3 => v_X7_fame_18 p v ⟨by omega, by omega, by omega, by omega, ?_⟩, fun q3 => hf (by omega)⟩⟩))))
  · rintro _ rfl; exact ht ⟨q, by omega⟩
  · rintro _ rfl; exact ht ⟨q, by omega⟩
theorem c_X8_fame {d : Nat} {M : zM} {Q : Int → zM → Prop} (hd : 3 ≤ d) (p v : Int) (hf : ¬ ((0 ≤ zw p ∧ zw p < 12) ∧ (0 ≤ zw v ∧ zw v ≤ 1)) → Q (-1) M) (ht : ((0 ≤ zw p ∧ zw p < 12) ∧ (0 ≤ zw v ∧ zw v ≤ 1)) → Q (zg M 1292 (zw p).toNat) (zs M 1292 (zw p).toNat v)) : Ev d mX8_fame [.ref 1280, zI p, zI v] M Q := by
  obtain ⟨d, rfl, -⟩ := e_of 2 hd
  refine e_X8_fame p v (v_X8_fame_0 p v (c_X8_isName (by omega) p (bz_br (fun q => hf (fun z => q z.1)) (fun q => c_X8_in (by omega) _ _ _ ?_))))
  rw [zq_0, zq_1]
  refine bz_br (fun q2 => hf (fun z => q2 z.2)) (fun q2 => ⟨by omega, by omega, by omega, by omega, ?_⟩)
  rintro _ rfl; exact ht ⟨q, by omega⟩
theorem p_fame {d : Nat} {M : zM} (hd : 5 ≤ d) (p v : Int) (hI : Inv M) : Pr d mX7_fame mX8_fame [zI p, zI v] M := by
  refine c_X7_fame (by omega) p v (fun q => ?_) (fun q => ?_)
  · exact c_X8_fame (by omega) p v (fun _ => ⟨rfl, hI⟩) (fun g => absurd g q)
  · refine c_X8_fame (by omega) p v (fun g => absurd q g) (fun _ => ?_)
    obtain ⟨h1, h2, h3, h4, h5, h6, h7, h8, h9, h10, h11, h12, h13, h14⟩ := hI
    have hp := h7 (zw p).toNat (by omega)
    refine ⟨by rw [zg_zsi _ _ _ _ (by omega)]; exact hp.1, (IP_zs rfl (IP_zs rfl h1)), (ID_zs rfl (ID_zs rfl h2)), (IN_zs rfl (IN_zs rfl h3)), (IM_zs rfl (IM_zs rfl h4)), (IH_zs rfl (IH_zs rfl h5)), (IW_zs rfl (IW_zs rfl h6)), ?_, (IC_zs rfl (IC_zs rfl h8)), (II_zs rfl (II_zs rfl h9)), (IT_zs rfl (IT_zs rfl h10)), (IL_zs rfl (IL_zs rfl h11)), (IG_zs rfl (IG_zs rfl h12)), (IR_zs rfl (IR_zs rfl h13)), (IS_zs rfl (IS_zs rfl h14))⟩
    intro x hx
    have hx2 := h7 x hx
    by_cases hxp : x = (zw p).toNat
    · subst hxp
      rw [zg_zs1, zg_zsi _ _ _ _ (by omega), zg_zs1]; omega
    · simp only [zg_zs, hxp, and_false, if_false]; exact hx2
theorem z_bb (a : Int) : z_b (z_b a) = z_b a := by
  have e : Int32.ofInt (z_b a) = (Int32.ofInt a).toInt8.toInt32 := Int32.ofInt_toInt _
  have e2 : z_b (z_b a) = ((Int32.ofInt (z_b a)).toInt8.toInt32).toInt := rfl
  rw [e2, e, Int8.toInt8_toInt32]
  rfl
theorem p_feed {d : Nat} {M : zM} (hd : 5 ≤ d) (v : Int) (hI : Inv M) : Pr d mX7_feed mX8_feed [zI v] M := by
  obtain ⟨t, t1, t2, t3, t4⟩ := hI.2.2.2.2.2.2.2.2.2.1
  obtain ⟨d, rfl, -⟩ := e_of 4 hd
  have bad : ¬ (0 ≤ zw v ∧ zw v ≤ 255) → Ev (d + 1) mX8_feed [.ref 1280, zI v] M (fun r2 M2 => -1 = r2 ∧ Inv M2) := by
    intro q
    refine e_X8_feed v (v_X8_feed_0 v (c_X8_in (by omega) _ _ _ ?_))
    rw [zq_0, zq_255]
    exact bz_br (fun _ => ⟨rfl, hI⟩) (fun z => absurd z q)
  refine e_X7_feed v (v_X7_feed_0 v ⟨fun q => bad (by omega), fun q => ⟨fun q2 => bad (by omega), fun q2 => ?_⟩⟩)
  obtain ⟨d, rfl, -⟩ := e_of 3 (show 3 + 1 ≤ d by omega)
  refine e_X2_takeByte v (v_X2_takeByte_0 v ⟨fun q3 => ⟨by omega, by omega, ?_⟩, fun q3 => ?_⟩)
  · rintro _ rfl _ rfl
    have w1 : zw ((t : Int) + 1) = (t : Int) + 1 := zw_of (by omega) (by omega)
    have e1 : (zg M 128 1).toNat = t := by omega
    rw [zg_zs1, zw_zw, zg_zsi _ _ _ _ (by omega), t2, w1]
    refine e_X8_feed v (v_X8_feed_0 v (c_X8_in (by omega) _ _ _ ?_))
    rw [zq_0, zq_255]
    refine bz_br (fun z => absurd (by omega) z) (fun _ => ?_)
    have e2 : ∀ a b, a ≠ 128 → a ≠ 129 → zg (zs (zs M 129 (t : Int).toNat v) 128 1 ((t : Int) + 1)) a b = zg M a b := fun a b ha hb => by rw [zg_zsi _ _ _ _ ha, zg_zsi _ _ _ _ hb]
    refine ⟨fun z => absurd z (by rw [e2 _ _ (by omega) (by omega)]; omega), fun _ => ⟨by rw [e2 _ _ (by omega) (by omega)]; omega, by rw [e2 _ _ (by omega) (by omega)]; omega, ?_⟩⟩
    rintro _ rfl _ rfl
    rw [e2 1280 19 (by omega) (by omega), t3, z_bb]
    have e3 : ((t : Int)).toNat = t := by omega
    rw [e3]
    obtain ⟨h1, h2, h3, h4, h5, h6, h7, h8, h9, h10, h11, h12, h13, h14⟩ := hI
    refine ⟨by rw [zg_zs1, zg_zsi _ _ _ _ (by omega), zg_zsi _ _ _ _ (by omega), zg_zsi _ _ _ _ (by omega), t3, w1], (IP_zs rfl (IP_zs rfl (IP_zs rfl (IP_zs rfl h1)))), (ID_zs rfl (ID_zs rfl (ID_zs rfl (ID_zs rfl h2)))), (IN_zs rfl (IN_zs rfl (IN_zs rfl (IN_zs rfl h3)))), (IM_zs rfl (IM_zs rfl (IM_zs rfl (IM_zs rfl h4)))), (IH_zs rfl (IH_zs rfl (IH_zs rfl (IH_zs rfl h5)))), (IW_zs rfl (IW_zs rfl (IW_zs rfl (IW_zs rfl h6)))), (IF_zs rfl (IF_zs rfl (IF_zs rfl (IF_zs rfl h7)))), (IC_zs rfl (IC_zs rfl (IC_zs rfl (IC_zs rfl h8)))), (II_zs rfl (II_zs rfl (II_zs rfl (II_zs rfl h9)))), ?_, (IL_zs rfl (IL_zs rfl (IL_zs rfl (IL_zs rfl h11)))), (IG_zs rfl (IG_zs rfl (IG_zs rfl (IG_zs rfl h12)))), (IR_zs rfl (IR_zs rfl (IR_zs rfl (IR_zs rfl h13)))), (IS_zs rfl (IS_zs rfl (IS_zs rfl (IS_zs rfl h14))))⟩
    refine ⟨t + 1, by omega, ?_, ?_, fun i hi => ?_⟩
    · rw [zg_zsi _ _ _ _ (by omega), zg_zsi _ _ _ _ (by omega), zg_zs1, w1]; omega
    · rw [zg_zs1, zg_zsi _ _ _ _ (by omega), zg_zsi _ _ _ _ (by omega), zg_zsi _ _ _ _ (by omega), t3, w1]; omega
    · by_cases hit : i = t
      · subst hit
        rw [zg_zsi _ _ _ _ (show (129 : Nat) ≠ 1280 by omega), zg_zsi _ _ _ _ (show (129 : Nat) ≠ 1299 by omega), zg_zsi _ _ _ _ (show (129 : Nat) ≠ 128 by omega), zg_zs1, zg_zsi _ _ _ _ (show (1299 : Nat) ≠ 1280 by omega), zg_zs1, zx_b]
        refine ⟨by omega, by omega, ?_⟩
        show _ = z_b (zw v)
        unfold z_b; rw [ofi_zw]
      · have := t4 i (by omega)
        rw [zg_zsi _ _ _ _ (show (129 : Nat) ≠ 1280 by omega), zg_zsi _ _ _ _ (show (129 : Nat) ≠ 1299 by omega), zg_zsi _ _ _ _ (show (129 : Nat) ≠ 128 by omega), zg_zsj _ _ _ _ hit, zg_zsi _ _ _ _ (show (1299 : Nat) ≠ 1280 by omega), zg_zsj _ _ _ _ hit, zg_zsi _ _ _ _ (show (1299 : Nat) ≠ 128 by omega), zg_zsi _ _ _ _ (show (1299 : Nat) ≠ 129 by omega)]
        exact this
  · rw [zq_m3]
    refine e_X8_feed v (v_X8_feed_0 v (c_X8_in (by omega) _ _ _ ?_))
    rw [zq_0, zq_255]
    exact bz_br (fun z => absurd (by omega) z) (fun _ => ⟨fun _ => ⟨rfl, hI⟩, fun z => absurd (by omega) z⟩)
