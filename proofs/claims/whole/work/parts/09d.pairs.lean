/-! pairs: changes -/
theorem ID_upd {M M2 : zM} (p : Nat) (v : Int) (a1 : ∀ x, zg M2 195 x = if x = p then v else zg M 195 x) (a2 : ∀ x, zg M2 1284 x = if x = p then v else zg M 1284 x) (a3 : ∀ x, zg M2 1283 x = zg M 1283 x) (a4 : zg M2 1280 1 = zg M 1280 1) (hr : zg M 1283 p < v ∧ v ≤ 100) (hI : ID M) : ID M2 := by
  intro x hx
  rw [a4] at hx
  have h := hI x hx
  rw [a1, a2, a3]
  by_cases e : x = p
  · subst e; rw [if_pos rfl, if_pos rfl]; exact ⟨rfl, hr.1, hr.2⟩
  · rw [if_neg e, if_neg e]; exact h
theorem IW_upd {M M2 : zM} (p : Nat) (v : Int) (a1 : ∀ x, zg M2 205 x = if x = p then v else zg M 205 x) (a2 : ∀ x, zg M2 1291 x = if x = p then v else zg M 1291 x) (hr : 0 ≤ v ∧ v ≤ 9) (hI : IW M) : IW M2 := by
  intro x hx
  have h := hI x hx
  rw [a1, a2]
  by_cases e : x = p
  · subst e; rw [if_pos rfl, if_pos rfl]; exact ⟨rfl, hr.1, hr.2⟩
  · rw [if_neg e, if_neg e]; exact h
theorem IC_ptr {M M2 : zM} (h449 : ∀ p, zg M2 449 p = zg M 449 p) (h450 : ∀ p, zg M2 450 p = zg M 450 p) (h451 : ∀ p, zg M2 451 p = zg M 451 p) (h452 : ∀ p, zg M2 452 p = zg M 452 p) (h1295 : ∀ p, zg M2 1295 p = zg M 1295 p) (h1296 : ∀ p, zg M2 1296 p = zg M 1296 p) (h1297 : ∀ p, zg M2 1297 p = zg M 1297 p) (h1298 : ∀ p, zg M2 1298 p = zg M 1298 p) (h1283 : ∀ p, zg M2 1283 p = zg M 1283 p) (f1 : zg M2 1280 1 = zg M 1280 1) (k5 : zg M2 448 5 = zg M 448 5) (s : zg M2 448 4 = zg M2 1280 12) (t : zg M2 1280 12 + zg M2 1280 13 = zg M 1280 12 + zg M 1280 13) (l0 : 0 ≤ zg M2 1280 12) (l1 : 0 ≤ zg M2 1280 13) (hI : IC M) : IC M2 := by
  obtain ⟨dn, kp, a1, a2, a3, a4, a5, a6, a7⟩ := hI
  refine ⟨(zg M2 1280 12).toNat, kp, by omega, a2, by omega, by omega, by omega, by omega, fun i hi => ?_⟩
  rw [h449, h450, h451, h452, h1295, h1296, h1297, h1298, h1283, f1]
  exact a7 i hi
theorem c_X8_lays {d : Nat} {M : zM} {Q : Int → zM → Prop} (hd : 1 ≤ d) (w p v : Int) (h0 : 0 ≤ zw p) (h1 : zw p < 12) (ht : zw w = 0 → Q 0 (zs M 1284 (zw p).toNat v)) (hf : ¬ zw w = 0 → Q 0 (zs M 1291 (zw p).toNat v)) : Ev d mX8_lays [.ref 1280, zI w, zI p, zI v] M Q := by
  obtain ⟨d, rfl, -⟩ := e_of 0 hd
  refine e_X8_lays w p v (v_X8_lays_0 w p v ⟨fun q => ⟨h0, h1, ?_⟩, fun q => ⟨h0, h1, ?_⟩⟩)
  · rintro _ rfl; exact ht q
  · rintro _ rfl; exact hf q
theorem c_X7_setChanged {d : Nat} {M : zM} {Q : Int → zM → Prop} (hd : 1 ≤ d) (v : Int) (i : Nat) (hi : zg M 448 4 = (i : Int)) (hi2 : i < 40) (h0 : 0 ≤ zg M 450 i) (h1 : zg M 450 i < 12) (ht : zg M 449 i = 0 → Q 0 (zs M 195 (zg M 450 i).toNat v)) (hf : ¬ zg M 449 i = 0 → Q 0 (zs M 205 (zg M 450 i).toNat v)) : Ev d mX7_setChanged [.ref 64, zI v] M Q := by
  obtain ⟨d, rfl, -⟩ := e_of 0 hd
  refine e_X7_setChanged v (v_X7_setChanged_0 v ?_)
  rw [hi, show ((i : Int)).toNat = i by omega]
  refine ⟨by omega, by omega, by omega, by omega, fun q => ⟨h0, h1, ?_⟩, fun q => ⟨h0, h1, ?_⟩⟩
  · rintro _ rfl; exact ht q
  · rintro _ rfl; exact hf q
theorem p_undo {d : Nat} {M : zM} (hd : 4 ≤ d) (hI : Inv M) : Pr d mX7_undo mX8_undo [] M := by
  obtain ⟨n, n1, n2, n3⟩ := Inv_n hI
  obtain ⟨d, rfl, -⟩ := e_of 3 hd
  obtain ⟨d2, rfl, -⟩ := e_of 2 (show 2 + 1 ≤ d by omega)
  obtain ⟨dn, kp, a1, a2, a3, a4, a5, a6, a7⟩ := hI.2.2.2.2.2.2.2.1
  refine e_X7_undo (v_X7_undo_0 (e_X0_stepBack (v_X0_stepBack_0 ⟨fun q => ?_, fun q => ?_⟩)))
  · refine ⟨fun _ => ?_, fun z => absurd (by decide) z⟩
    exact e_X8_undo (v_X8_undo_0 ⟨fun _ => ⟨rfl, hI⟩, fun z => absurd (by omega) z⟩)
  · rintro _ rfl
    refine ⟨fun z => absurd z (by decide), fun _ => ?_⟩
    have w1 : zw ((dn : Int) - 1) = (dn : Int) - 1 := zw_of (by omega) (by omega)
    rw [zg_zs1, a3, w1]
    have e0 : ((dn : Int) - 1).toNat = dn - 1 := by omega
    rw [e0]
    obtain ⟨b1, b2, b3, b4, b5⟩ := a7 (dn - 1) (by omega)
    have g : ∀ a b, a ≠ 448 → zg (zs M 448 4 ((dn : Int) - 1)) a b = zg M a b := fun a b h => zg_zsi _ _ _ _ h
    refine ⟨by omega, by omega, ?_⟩
    have hnum : 0 ≤ zg M 1296 (dn - 1) ∧ zg M 1296 (dn - 1) < 12 := by rcases b5 with b5 | b5 <;> omega
    have wn : zw (zg M 1296 (dn - 1)) = zg M 1296 (dn - 1) := zw_zg _ _ _
    have wv : zw (zg M 1297 (dn - 1)) = zg M 1297 (dn - 1) := zw_zg _ _ _
    rw [g 451 _ (by omega), b3]
    refine c_X7_setChanged (by omega) _ (dn - 1) (by rw [zg_zs1, w1]; omega) (by omega) (by rw [g _ _ (by omega), b2]; exact hnum.1) (by rw [g _ _ (by omega), b2]; exact hnum.2) (fun q2 => ?_) (fun q2 => ?_)
    · rw [g _ _ (by omega), b1] at q2
      rw [g _ _ (by omega), b2]
      have hb : zg M 1296 (dn - 1) < zg M 1280 1 ∧ zg M 1283 (zg M 1296 (dn - 1)).toNat < zg M 1297 (dn - 1) ∧ zg M 1297 (dn - 1) ≤ 100 := by rcases b5 with b5 | b5 <;> omega
      refine e_X8_undo (v_X8_undo_0 ?_)
      simp [zg_zs, a5, a6, w1]
      refine ⟨fun z => absurd z (by omega), fun _ => ⟨by omega, by omega, by omega, by omega, by omega, by omega, ?_⟩⟩
      refine c_X8_lays (by omega) _ _ _ (by rw [wn]; omega) (by rw [wn]; omega) (fun _ => ?_) (fun z => absurd (by rw [zw_zg]; exact q2) z)
      rw [wn]
      have w2 : zw ((kp : Int) - dn + 1) = (kp : Int) - dn + 1 := zw_of (by omega) (by omega)
      obtain ⟨h1, h2, h3, h4, h5, h6, h7, h8, h9, h10, h11, h12, h13, h14⟩ := hI
      refine ⟨by simp [zg_zs, w1], (IP_zs rfl (IP_zs rfl (IP_zs rfl (IP_zs rfl (IP_zs rfl h1))))), ?_, (IN_zs rfl (IN_zs rfl (IN_zs rfl (IN_zs rfl (IN_zs rfl h3))))), (IM_zs rfl (IM_zs rfl (IM_zs rfl (IM_zs rfl (IM_zs rfl h4))))), (IH_zs rfl (IH_zs rfl (IH_zs rfl (IH_zs rfl (IH_zs rfl h5))))), (IW_zs rfl (IW_zs rfl (IW_zs rfl (IW_zs rfl (IW_zs rfl h6))))), (IF_zs rfl (IF_zs rfl (IF_zs rfl (IF_zs rfl (IF_zs rfl h7))))), ?_, (II_zs rfl (II_zs rfl (II_zs rfl (II_zs rfl (II_zs rfl h9))))), (IT_zs rfl (IT_zs rfl (IT_zs rfl (IT_zs rfl (IT_zs rfl h10))))), (IL_zs rfl (IL_zs rfl (IL_zs rfl (IL_zs rfl (IL_zs rfl h11))))), (IG_zs rfl (IG_zs rfl (IG_zs rfl (IG_zs rfl (IG_zs rfl h12))))), (IR_zs rfl (IR_zs rfl (IR_zs rfl (IR_zs rfl (IR_zs rfl h13))))), (IS_zs rfl (IS_zs rfl (IS_zs rfl (IS_zs rfl (IS_zs rfl h14)))))⟩
      · exact ID_upd (M := M) (zg M 1296 (dn - 1)).toNat (zg M 1297 (dn - 1)) (fun x => by simp [zg_zs, zw_zg]) (fun x => by simp [zg_zs, zw_zg]) (fun x => by simp [zg_zs]) (by simp [zg_zs]) hb.2 h2
      · exact IC_ptr (M := M) (fun x => by simp [zg_zs]) (fun x => by simp [zg_zs]) (fun x => by simp [zg_zs]) (fun x => by simp [zg_zs]) (fun x => by simp [zg_zs]) (fun x => by simp [zg_zs]) (fun x => by simp [zg_zs]) (fun x => by simp [zg_zs]) (fun x => by simp [zg_zs]) (by simp [zg_zs]) (by simp [zg_zs]) (by simp [zg_zs]) (by simp [zg_zs, w1, w2, a5, a6]; omega) (by simp [zg_zs, w1]; omega) (by simp [zg_zs, w2]; omega) h8
    · rw [g _ _ (by omega), b1] at q2
      rw [g _ _ (by omega), b2]
      have hb : 0 ≤ zg M 1297 (dn - 1) ∧ zg M 1297 (dn - 1) ≤ 9 := by rcases b5 with b5 | b5 <;> omega
      refine e_X8_undo (v_X8_undo_0 ?_)
      simp [zg_zs, a5, a6, w1]
      refine ⟨fun z => absurd z (by omega), fun _ => ⟨by omega, by omega, by omega, by omega, by omega, by omega, ?_⟩⟩
      refine c_X8_lays (by omega) _ _ _ (by rw [wn]; omega) (by rw [wn]; omega) (fun z => absurd (by rw [← z, zw_zg]) q2) (fun _ => ?_)
      rw [wn]
      have w2 : zw ((kp : Int) - dn + 1) = (kp : Int) - dn + 1 := zw_of (by omega) (by omega)
      obtain ⟨h1, h2, h3, h4, h5, h6, h7, h8, h9, h10, h11, h12, h13, h14⟩ := hI
      refine ⟨by simp [zg_zs, w1], (IP_zs rfl (IP_zs rfl (IP_zs rfl (IP_zs rfl (IP_zs rfl h1))))), (ID_zs rfl (ID_zs rfl (ID_zs rfl (ID_zs rfl (ID_zs rfl h2))))), (IN_zs rfl (IN_zs rfl (IN_zs rfl (IN_zs rfl (IN_zs rfl h3))))), (IM_zs rfl (IM_zs rfl (IM_zs rfl (IM_zs rfl (IM_zs rfl h4))))), (IH_zs rfl (IH_zs rfl (IH_zs rfl (IH_zs rfl (IH_zs rfl h5))))), ?_, (IF_zs rfl (IF_zs rfl (IF_zs rfl (IF_zs rfl (IF_zs rfl h7))))), ?_, (II_zs rfl (II_zs rfl (II_zs rfl (II_zs rfl (II_zs rfl h9))))), (IT_zs rfl (IT_zs rfl (IT_zs rfl (IT_zs rfl (IT_zs rfl h10))))), (IL_zs rfl (IL_zs rfl (IL_zs rfl (IL_zs rfl (IL_zs rfl h11))))), (IG_zs rfl (IG_zs rfl (IG_zs rfl (IG_zs rfl (IG_zs rfl h12))))), (IR_zs rfl (IR_zs rfl (IR_zs rfl (IR_zs rfl (IR_zs rfl h13))))), (IS_zs rfl (IS_zs rfl (IS_zs rfl (IS_zs rfl (IS_zs rfl h14)))))⟩
      · exact IW_upd (M := M) (zg M 1296 (dn - 1)).toNat (zg M 1297 (dn - 1)) (fun x => by simp [zg_zs, zw_zg]) (fun x => by simp [zg_zs, zw_zg]) hb h6
      · exact IC_ptr (M := M) (fun x => by simp [zg_zs]) (fun x => by simp [zg_zs]) (fun x => by simp [zg_zs]) (fun x => by simp [zg_zs]) (fun x => by simp [zg_zs]) (fun x => by simp [zg_zs]) (fun x => by simp [zg_zs]) (fun x => by simp [zg_zs]) (fun x => by simp [zg_zs]) (by simp [zg_zs]) (by simp [zg_zs]) (by simp [zg_zs]) (by simp [zg_zs, w1, w2, a5, a6]; omega) (by simp [zg_zs, w1]; omega) (by simp [zg_zs, w2]; omega) h8
theorem p_redo {d : Nat} {M : zM} (hd : 4 ≤ d) (hI : Inv M) : Pr d mX7_redo mX8_redo [] M := by
  obtain ⟨n, n1, n2, n3⟩ := Inv_n hI
  obtain ⟨d, rfl, -⟩ := e_of 3 hd
  obtain ⟨d2, rfl, -⟩ := e_of 2 (show 2 + 1 ≤ d by omega)
  obtain ⟨dn, kp, a1, a2, a3, a4, a5, a6, a7⟩ := hI.2.2.2.2.2.2.2.1
  refine e_X7_redo (v_X7_redo_0 (e_X0_hasUndone (v_X0_hasUndone_0 ⟨fun q => ?_, fun q => ?_⟩)))
  · refine ⟨fun z => absurd z (by decide), fun _ => ?_⟩
    rw [a3]
    have e0 : ((dn : Int)).toNat = dn := by omega
    rw [e0]
    obtain ⟨b1, b2, b3, b4, b5⟩ := a7 dn (by omega)
    refine ⟨by omega, by omega, ?_⟩
    have hnum : 0 ≤ zg M 1296 dn ∧ zg M 1296 dn < 12 := by rcases b5 with b5 | b5 <;> omega
    have wn : zw (zg M 1296 dn) = zg M 1296 dn := zw_zg _ _ _
    have wv : zw (zg M 1298 dn) = zg M 1298 dn := zw_zg _ _ _
    have w1 : zw ((dn : Int) + 1) = (dn : Int) + 1 := zw_of (by omega) (by omega)
    have w2 : zw ((kp : Int) - dn - 1) = (kp : Int) - dn - 1 := zw_of (by omega) (by omega)
    have w3 : zw ((kp : Int) - ((dn : Int) + 1)) = (kp : Int) - ((dn : Int) + 1) := zw_of (by omega) (by omega)
    rw [b4]
    refine c_X7_setChanged (by omega) _ dn a3 (by omega) (by rw [b2]; exact hnum.1) (by rw [b2]; exact hnum.2) (fun q2 => ?_) (fun q2 => ?_)
    · rw [b1] at q2
      rw [b2]
      have hb : zg M 1296 dn < zg M 1280 1 ∧ zg M 1283 (zg M 1296 dn).toNat < zg M 1298 dn ∧ zg M 1298 dn ≤ 100 := by rcases b5 with b5 | b5 <;> omega
      refine e_X0_stepOn (v_X0_stepOn_0 ?_)
      rintro _ rfl
      refine e_X8_redo (v_X8_redo_0 ?_)
      simp [zg_zs, a3, a4, a5, a6, w1]
      refine ⟨fun z => absurd z (by omega), fun _ => ?_⟩
      repeat (refine ⟨by omega, ?_⟩)
      refine c_X8_lays (by omega) _ _ _ (by rw [wn]; omega) (by rw [wn]; omega) (fun _ => ?_) (fun z => absurd (by rw [zw_zg]; exact q2) z)
      rw [wn]
      simp [zg_zs, a5, a6, w2, w3]
      obtain ⟨h1, h2, h3, h4, h5, h6, h7, h8, h9, h10, h11, h12, h13, h14⟩ := hI
      refine ⟨by omega, (IP_zs rfl (IP_zs rfl (IP_zs rfl (IP_zs rfl (IP_zs rfl h1))))), ?_, (IN_zs rfl (IN_zs rfl (IN_zs rfl (IN_zs rfl (IN_zs rfl h3))))), (IM_zs rfl (IM_zs rfl (IM_zs rfl (IM_zs rfl (IM_zs rfl h4))))), (IH_zs rfl (IH_zs rfl (IH_zs rfl (IH_zs rfl (IH_zs rfl h5))))), (IW_zs rfl (IW_zs rfl (IW_zs rfl (IW_zs rfl (IW_zs rfl h6))))), (IF_zs rfl (IF_zs rfl (IF_zs rfl (IF_zs rfl (IF_zs rfl h7))))), ?_, (II_zs rfl (II_zs rfl (II_zs rfl (II_zs rfl (II_zs rfl h9))))), (IT_zs rfl (IT_zs rfl (IT_zs rfl (IT_zs rfl (IT_zs rfl h10))))), (IL_zs rfl (IL_zs rfl (IL_zs rfl (IL_zs rfl (IL_zs rfl h11))))), (IG_zs rfl (IG_zs rfl (IG_zs rfl (IG_zs rfl (IG_zs rfl h12))))), (IR_zs rfl (IR_zs rfl (IR_zs rfl (IR_zs rfl (IR_zs rfl h13))))), (IS_zs rfl (IS_zs rfl (IS_zs rfl (IS_zs rfl (IS_zs rfl h14)))))⟩
      · exact ID_upd (M := M) (zg M 1296 dn).toNat (zg M 1298 dn) (fun x => by simp [zg_zs, zw_zg]) (fun x => by simp [zg_zs, zw_zg]) (fun x => by simp [zg_zs]) (by simp [zg_zs]) hb.2 h2
      · exact IC_ptr (M := M) (fun x => by simp [zg_zs]) (fun x => by simp [zg_zs]) (fun x => by simp [zg_zs]) (fun x => by simp [zg_zs]) (fun x => by simp [zg_zs]) (fun x => by simp [zg_zs]) (fun x => by simp [zg_zs]) (fun x => by simp [zg_zs]) (fun x => by simp [zg_zs]) (by simp [zg_zs]) (by simp [zg_zs]) (by simp [zg_zs]) (by simp [zg_zs, w1, w2, a5, a6]; omega) (by simp [zg_zs, w1]; omega) (by simp [zg_zs, w2]; omega) h8
    · rw [b1] at q2
      rw [b2]
      have hb : 0 ≤ zg M 1298 dn ∧ zg M 1298 dn ≤ 9 := by rcases b5 with b5 | b5 <;> omega
      refine e_X0_stepOn (v_X0_stepOn_0 ?_)
      rintro _ rfl
      refine e_X8_redo (v_X8_redo_0 ?_)
      simp [zg_zs, a3, a4, a5, a6, w1]
      refine ⟨fun z => absurd z (by omega), fun _ => ?_⟩
      repeat (refine ⟨by omega, ?_⟩)
      refine c_X8_lays (by omega) _ _ _ (by rw [wn]; omega) (by rw [wn]; omega) (fun z => absurd (by rw [← z, zw_zg]) q2) (fun _ => ?_)
      rw [wn]
      simp [zg_zs, a5, a6, w2, w3]
      obtain ⟨h1, h2, h3, h4, h5, h6, h7, h8, h9, h10, h11, h12, h13, h14⟩ := hI
      refine ⟨by omega, (IP_zs rfl (IP_zs rfl (IP_zs rfl (IP_zs rfl (IP_zs rfl h1))))), (ID_zs rfl (ID_zs rfl (ID_zs rfl (ID_zs rfl (ID_zs rfl h2))))), (IN_zs rfl (IN_zs rfl (IN_zs rfl (IN_zs rfl (IN_zs rfl h3))))), (IM_zs rfl (IM_zs rfl (IM_zs rfl (IM_zs rfl (IM_zs rfl h4))))), (IH_zs rfl (IH_zs rfl (IH_zs rfl (IH_zs rfl (IH_zs rfl h5))))), ?_, (IF_zs rfl (IF_zs rfl (IF_zs rfl (IF_zs rfl (IF_zs rfl h7))))), ?_, (II_zs rfl (II_zs rfl (II_zs rfl (II_zs rfl (II_zs rfl h9))))), (IT_zs rfl (IT_zs rfl (IT_zs rfl (IT_zs rfl (IT_zs rfl h10))))), (IL_zs rfl (IL_zs rfl (IL_zs rfl (IL_zs rfl (IL_zs rfl h11))))), (IG_zs rfl (IG_zs rfl (IG_zs rfl (IG_zs rfl (IG_zs rfl h12))))), (IR_zs rfl (IR_zs rfl (IR_zs rfl (IR_zs rfl (IR_zs rfl h13))))), (IS_zs rfl (IS_zs rfl (IS_zs rfl (IS_zs rfl (IS_zs rfl h14)))))⟩
      · exact IW_upd (M := M) (zg M 1296 dn).toNat (zg M 1298 dn) (fun x => by simp [zg_zs, zw_zg]) (fun x => by simp [zg_zs, zw_zg]) hb h6
      · exact IC_ptr (M := M) (fun x => by simp [zg_zs]) (fun x => by simp [zg_zs]) (fun x => by simp [zg_zs]) (fun x => by simp [zg_zs]) (fun x => by simp [zg_zs]) (fun x => by simp [zg_zs]) (fun x => by simp [zg_zs]) (fun x => by simp [zg_zs]) (fun x => by simp [zg_zs]) (by simp [zg_zs]) (by simp [zg_zs]) (by simp [zg_zs]) (by simp [zg_zs, w1, w2, a5, a6]; omega) (by simp [zg_zs, w1]; omega) (by simp [zg_zs, w2]; omega) h8
  · refine ⟨fun _ => ?_, fun z => absurd (by decide) z⟩
    exact e_X8_redo (v_X8_redo_0 ⟨fun _ => ⟨rfl, hI⟩, fun z => absurd (by omega) z⟩)
