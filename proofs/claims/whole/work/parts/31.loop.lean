/-! the law's loop, out of the 36 pairs -/
def PA (d : Nat) : Prop := (∀ (M : zM) (a1 a2 : Int), zw a1 = a1 → zw a2 = a2 → Inv M → Pr d mX7_person mX8_person [zI a1, zI a2] M) ∧
  (∀ (M : zM) (a1 a2 a3 : Int), zw a1 = a1 → zw a2 = a2 → zw a3 = a3 → Inv M → Pr d mX7_people mX8_people [zI a1, zI a2, zI a3] M) ∧
  (∀ (M : zM) (a1 a2 : Int), zw a1 = a1 → zw a2 = a2 → Inv M → Pr d mX7_meet mX8_meet [zI a1, zI a2] M) ∧
  (∀ (M : zM) (a1 : Int), zw a1 = a1 → Inv M → Pr d mX7_hearing mX8_hearing [zI a1] M) ∧
  (∀ (M : zM) (a1 a2 : Int), zw a1 = a1 → zw a2 = a2 → Inv M → Pr d mX7_name mX8_name [zI a1, zI a2] M) ∧
  (∀ (M : zM) (a1 a2 : Int), zw a1 = a1 → zw a2 = a2 → Inv M → Pr d mX7_fame mX8_fame [zI a1, zI a2] M) ∧
  (∀ (M : zM) (a1 a2 a3 : Int), zw a1 = a1 → zw a2 = a2 → zw a3 = a3 → Inv M → Pr d mX7_mend mX8_mend [zI a1, zI a2, zI a3] M) ∧
  (∀ (M : zM) (a1 a2 : Int), zw a1 = a1 → zw a2 = a2 → Inv M → Pr d mX7_of mX8_of [zI a1, zI a2] M) ∧
  (∀ (M : zM) (a1 : Int), zw a1 = a1 → Inv M → Pr d mX7_feed mX8_feed [zI a1] M) ∧
  (∀ (M : zM), Inv M → Pr d mX7_law mX8_law [] M) ∧
  (∀ (M : zM) (a1 a2 : Int), zw a1 = a1 → zw a2 = a2 → Inv M → Pr d mX7_knows mX8_knows [zI a1, zI a2] M) ∧
  (∀ (M : zM) (a1 a2 a3 : Int), zw a1 = a1 → zw a2 = a2 → zw a3 = a3 → Inv M → Pr d mX7_held mX8_held [zI a1, zI a2, zI a3] M) ∧
  (∀ (M : zM) (a1 : Int), zw a1 = a1 → Inv M → Pr d mX7_free mX8_free [zI a1] M) ∧
  (∀ (M : zM) (a1 : Int), zw a1 = a1 → Inv M → Pr d mX7_most mX8_most [zI a1] M) ∧
  (∀ (M : zM), Inv M → Pr d mX7_judge mX8_judge [] M) ∧
  (∀ (M : zM) (a1 a2 : Int), zw a1 = a1 → zw a2 = a2 → Inv M → Pr d mX7_give mX8_give [zI a1, zI a2] M) ∧
  (∀ (M : zM) (a1 a2 : Int), zw a1 = a1 → zw a2 = a2 → Inv M → Pr d mX7_run mX8_run [zI a1, zI a2] M) ∧
  (∀ (M : zM) (a1 a2 : Int), zw a1 = a1 → zw a2 = a2 → Inv M → Pr d mX7_used mX8_used [zI a1, zI a2] M) ∧
  (∀ (M : zM) (a1 a2 : Int), zw a1 = a1 → zw a2 = a2 → Inv M → Pr d mX7_apart mX8_apart [zI a1, zI a2] M) ∧
  (∀ (M : zM) (a1 a2 : Int), zw a1 = a1 → zw a2 = a2 → Inv M → Pr d mX7_freed mX8_freed [zI a1, zI a2] M) ∧
  (∀ (M : zM) (a1 : Int), zw a1 = a1 → Inv M → Pr d mX7_never mX8_never [zI a1] M) ∧
  (∀ (M : zM) (a1 a2 a3 : Int), zw a1 = a1 → zw a2 = a2 → zw a3 = a3 → Inv M → Pr d mX7_needs mX8_needs [zI a1, zI a2, zI a3] M) ∧
  (∀ (M : zM), Inv M → Pr d mX7_image mX8_image [] M) ∧
  (∀ (M : zM), Inv M → Pr d mX7_back mX8_back [] M) ∧
  (∀ (M : zM), Inv M → Pr d mX7_undo mX8_undo [] M) ∧
  (∀ (M : zM), Inv M → Pr d mX7_redo mX8_redo [] M) ∧
  (∀ (M : zM) (a1 : Int), zw a1 = a1 → Inv M → Pr d mX7_body mX8_body [zI a1] M) ∧
  (∀ (M : zM) (a1 a2 a3 : Int), zw a1 = a1 → zw a2 = a2 → zw a3 = a3 → Inv M → Pr d mX7_act mX8_act [zI a1, zI a2, zI a3] M) ∧
  (∀ (M : zM) (a1 : Int), zw a1 = a1 → Inv M → Pr d mX7_trace mX8_trace [zI a1] M) ∧
  (∀ (M : zM) (a1 a2 : Int), zw a1 = a1 → zw a2 = a2 → Inv M → Pr d mX7_keep mX8_keep [zI a1, zI a2] M) ∧
  (∀ (M : zM) (a1 a2 a3 : Int), zw a1 = a1 → zw a2 = a2 → zw a3 = a3 → Inv M → Pr d mX7_row mX8_row [zI a1, zI a2, zI a3] M) ∧
  (∀ (M : zM) (a1 a2 a3 : Int), zw a1 = a1 → zw a2 = a2 → Inv M → Pr d mX7_put mX8_put [zI a1, zI a2, zJ a3] M) ∧
  (∀ (M : zM) (a1 a2 : Int), zw a1 = a1 → zw a2 = a2 → Inv M → Pr d mX7_element mX8_element [zI a1, zI a2] M) ∧
  (∀ (M : zM) (a1 a2 a3 a4 a5 : Int), zw a1 = a1 → zw a2 = a2 → zw a3 = a3 → zw a4 = a4 → zw a5 = a5 → Inv M → Pr d mX7_shift mX8_shift [zI a1, zI a2, zI a3, zI a4, zI a5] M) ∧
  (∀ (M : zM) (a1 a2 : Int), zw a1 = a1 → zw a2 = a2 → Inv M → Pr d mX7_taken mX8_taken [zI a1, zI a2] M) ∧
  (∀ (M : zM) (a1 : Int), zw a1 = a1 → Inv M → Pr d mX7_count mX8_count [zI a1] M)
theorem z_lc_self (a : Int) : zw (z_lc a a) = 0 := by unfold z_lc; rw [if_neg (Int.lt_irrefl _), if_pos rfl]; decide
set_option maxHeartbeats 4000000 in
theorem law_loop {d : Nat} {xs : Nat → Int32} {SL : Nat} (hSL : SL ≤ 384) (hPA : PA d) : ∀ (n i : Nat) (M : zM), SL + 6 - i ≤ n → i ≤ SL + 6 → Inv M → wpL (Ev d) xs SL cL_law 18 [some (.ref 3), some (.ref 64), some (.ref 1280), some (zI (i : Int))] [] M := by
  intro n
  induction n with
  | zero =>
    intro i M hn hi hI
    refine v_L_law_18 _ ⟨fun _ => trivial, fun q => absurd ?_ q⟩
    rw [zw_of (by omega) (by omega), zw_of (by omega) (by omega)]
    omega
  | succ n ih =>
    intro i M hn hi hI
    have w0 : zw (i : Int) = (i : Int) := zw_of (by omega) (by omega)
    have wS : zw ((SL : Int) - 6) = (SL : Int) - 6 := zw_of (by omega) (by omega)
    refine v_L_law_18 _ ⟨fun _ => trivial, fun q => ?_⟩
    rw [w0, wS] at q
    have w1 : zw ((i : Int) + 1) = (i : Int) + 1 := zw_of (by omega) (by omega)
    have w2 : zw ((i : Int) + 2) = (i : Int) + 2 := zw_of (by omega) (by omega)
    have w3 : zw ((i : Int) + 3) = (i : Int) + 3 := zw_of (by omega) (by omega)
    have w4 : zw ((i : Int) + 4) = (i : Int) + 4 := zw_of (by omega) (by omega)
    have w5 : zw ((i : Int) + 5) = (i : Int) + 5 := zw_of (by omega) (by omega)
    simp only [w0, w1, w2, w3, w4, w5]
    have nx : ∀ M2, Inv M2 → wpL (Ev d) xs SL cL_law 18 [some (.ref 3), some (.ref 64), some (.ref 1280), some (zI ((i : Int) + 6))] [] M2 := fun M2 h => by
      have := ih (i + 6) M2 (by omega) (by omega) h
      rw [show ((i + 6 : Nat) : Int) = (i : Int) + 6 by omega] at this
      exact this
    obtain ⟨H0, H1, H2, H3, H4, H5, H6, H7, H8, H9, H10, H11, H12, H13, H14, H15, H16, H17, H18, H19, H20, H21, H22, H23, H24, H25, H26, H27, H28, H29, H30, H31, H32, H33, H34, H35⟩ := hPA
    refine ⟨by omega, by omega, fun _ => ?_, fun _ => ?_, fun _ => ?_, fun _ => ?_, fun _ => ?_, fun _ => ?_, fun _ => ?_, fun _ => ?_, fun _ => ?_, fun _ => ?_, fun _ => ?_, fun _ => ?_, fun _ => ?_, fun _ => ?_, fun _ => ?_, fun _ => ?_, fun _ => ?_, fun _ => ?_, fun _ => ?_, fun _ => ?_, fun _ => ?_, fun _ => ?_, fun _ => ?_, fun _ => ?_, fun _ => ?_, fun _ => ?_, fun _ => ?_, fun _ => ?_, fun _ => ?_, fun _ => ?_, fun _ => ?_, fun _ => ?_, fun _ => ?_, fun _ => ?_, fun _ => ?_, fun _ => ?_, fun _ _ _ _ _ _ _ _ _ _ _ _ _ _ _ _ _ _ _ _ _ _ _ _ _ _ _ _ _ _ _ _ _ _ _ _ => nx M hI⟩
    · exact ⟨by omega, by omega, by omega, by omega, Ev_mono (Nat.le_refl _) (fun r M1 h => ⟨by omega, by omega, by omega, by omega, Ev_mono (Nat.le_refl _) (fun r2 M2 h2 => by obtain ⟨rfl, hI2⟩ := h2; exact ⟨fun _ => nx M2 hI2, fun z => z rfl⟩) h⟩) (H0 M _ _ (zw_xs _) (zw_xs _) hI)⟩
    · exact ⟨by omega, by omega, by omega, by omega, by omega, by omega, Ev_mono (Nat.le_refl _) (fun r M1 h => ⟨by omega, by omega, by omega, by omega, by omega, by omega, Ev_mono (Nat.le_refl _) (fun r2 M2 h2 => by obtain ⟨rfl, hI2⟩ := h2; exact ⟨fun _ => nx M2 hI2, fun z => z rfl⟩) h⟩) (H1 M _ _ _ (zw_xs _) (zw_xs _) (zw_xs _) hI)⟩
    · exact ⟨by omega, by omega, by omega, by omega, Ev_mono (Nat.le_refl _) (fun r M1 h => ⟨by omega, by omega, by omega, by omega, Ev_mono (Nat.le_refl _) (fun r2 M2 h2 => by obtain ⟨rfl, hI2⟩ := h2; exact ⟨fun _ => nx M2 hI2, fun z => z rfl⟩) h⟩) (H2 M _ _ (zw_xs _) (zw_xs _) hI)⟩
    · exact ⟨by omega, by omega, Ev_mono (Nat.le_refl _) (fun r M1 h => ⟨by omega, by omega, Ev_mono (Nat.le_refl _) (fun r2 M2 h2 => by obtain ⟨rfl, hI2⟩ := h2; exact ⟨fun _ => nx M2 hI2, fun z => z rfl⟩) h⟩) (H3 M _ (zw_xs _) hI)⟩
    · exact ⟨by omega, by omega, by omega, by omega, Ev_mono (Nat.le_refl _) (fun r M1 h => ⟨by omega, by omega, by omega, by omega, Ev_mono (Nat.le_refl _) (fun r2 M2 h2 => by obtain ⟨rfl, hI2⟩ := h2; exact ⟨fun _ => nx M2 hI2, fun z => z rfl⟩) h⟩) (H4 M _ _ (zw_xs _) (zw_xs _) hI)⟩
    · exact ⟨by omega, by omega, by omega, by omega, Ev_mono (Nat.le_refl _) (fun r M1 h => ⟨by omega, by omega, by omega, by omega, Ev_mono (Nat.le_refl _) (fun r2 M2 h2 => by obtain ⟨rfl, hI2⟩ := h2; exact ⟨fun _ => nx M2 hI2, fun z => z rfl⟩) h⟩) (H5 M _ _ (zw_xs _) (zw_xs _) hI)⟩
    · exact ⟨by omega, by omega, by omega, by omega, by omega, by omega, Ev_mono (Nat.le_refl _) (fun r M1 h => ⟨by omega, by omega, by omega, by omega, by omega, by omega, Ev_mono (Nat.le_refl _) (fun r2 M2 h2 => by obtain ⟨rfl, hI2⟩ := h2; exact ⟨fun _ => nx M2 hI2, fun z => z rfl⟩) h⟩) (H6 M _ _ _ (zw_xs _) (zw_xs _) (zw_xs _) hI)⟩
    · exact ⟨by omega, by omega, by omega, by omega, Ev_mono (Nat.le_refl _) (fun r M1 h => ⟨by omega, by omega, by omega, by omega, Ev_mono (Nat.le_refl _) (fun r2 M2 h2 => by obtain ⟨rfl, hI2⟩ := h2; exact ⟨fun _ => nx M2 hI2, fun z => z rfl⟩) h⟩) (H7 M _ _ (zw_xs _) (zw_xs _) hI)⟩
    · exact ⟨by omega, by omega, Ev_mono (Nat.le_refl _) (fun r M1 h => ⟨by omega, by omega, Ev_mono (Nat.le_refl _) (fun r2 M2 h2 => by obtain ⟨rfl, hI2⟩ := h2; exact ⟨fun _ => nx M2 hI2, fun z => z rfl⟩) h⟩) (H8 M _ (zw_xs _) hI)⟩
    · exact Ev_mono (Nat.le_refl _) (fun r M1 h => Ev_mono (Nat.le_refl _) (fun r2 M2 h2 => by obtain ⟨rfl, hI2⟩ := h2; exact ⟨fun _ => nx M2 hI2, fun z => z rfl⟩) h) (H9 M hI)
    · exact ⟨by omega, by omega, by omega, by omega, Ev_mono (Nat.le_refl _) (fun r M1 h => ⟨by omega, by omega, by omega, by omega, Ev_mono (Nat.le_refl _) (fun r2 M2 h2 => by obtain ⟨rfl, hI2⟩ := h2; exact ⟨fun _ => nx M2 hI2, fun z => z rfl⟩) h⟩) (H10 M _ _ (zw_xs _) (zw_xs _) hI)⟩
    · exact ⟨by omega, by omega, by omega, by omega, by omega, by omega, Ev_mono (Nat.le_refl _) (fun r M1 h => ⟨by omega, by omega, by omega, by omega, by omega, by omega, Ev_mono (Nat.le_refl _) (fun r2 M2 h2 => by obtain ⟨rfl, hI2⟩ := h2; exact ⟨fun _ => nx M2 hI2, fun z => z rfl⟩) h⟩) (H11 M _ _ _ (zw_xs _) (zw_xs _) (zw_xs _) hI)⟩
    · exact ⟨by omega, by omega, Ev_mono (Nat.le_refl _) (fun r M1 h => ⟨by omega, by omega, Ev_mono (Nat.le_refl _) (fun r2 M2 h2 => by obtain ⟨rfl, hI2⟩ := h2; exact ⟨fun _ => nx M2 hI2, fun z => z rfl⟩) h⟩) (H12 M _ (zw_xs _) hI)⟩
    · exact ⟨by omega, by omega, Ev_mono (Nat.le_refl _) (fun r M1 h => ⟨by omega, by omega, Ev_mono (Nat.le_refl _) (fun r2 M2 h2 => by obtain ⟨rfl, hI2⟩ := h2; exact ⟨fun _ => nx M2 hI2, fun z => z rfl⟩) h⟩) (H13 M _ (zw_xs _) hI)⟩
    · exact Ev_mono (Nat.le_refl _) (fun r M1 h => Ev_mono (Nat.le_refl _) (fun r2 M2 h2 => by obtain ⟨rfl, hI2⟩ := h2; exact ⟨fun _ => nx M2 hI2, fun z => z rfl⟩) h) (H14 M hI)
    · exact ⟨by omega, by omega, by omega, by omega, Ev_mono (Nat.le_refl _) (fun r M1 h => ⟨by omega, by omega, by omega, by omega, Ev_mono (Nat.le_refl _) (fun r2 M2 h2 => by obtain ⟨rfl, hI2⟩ := h2; exact ⟨fun _ => nx M2 hI2, fun z => z rfl⟩) h⟩) (H15 M _ _ (zw_xs _) (zw_xs _) hI)⟩
    · exact ⟨by omega, by omega, by omega, by omega, Ev_mono (Nat.le_refl _) (fun r M1 h => ⟨by omega, by omega, by omega, by omega, Ev_mono (Nat.le_refl _) (fun r2 M2 h2 => by obtain ⟨rfl, hI2⟩ := h2; exact ⟨fun _ => nx M2 hI2, fun z => z rfl⟩) h⟩) (H16 M _ _ (zw_xs _) (zw_xs _) hI)⟩
    · exact ⟨by omega, by omega, by omega, by omega, Ev_mono (Nat.le_refl _) (fun r M1 h => ⟨by omega, by omega, by omega, by omega, Ev_mono (Nat.le_refl _) (fun r2 M2 h2 => by obtain ⟨rfl, hI2⟩ := h2; exact ⟨fun _ => nx M2 hI2, fun z => z rfl⟩) h⟩) (H17 M _ _ (zw_xs _) (zw_xs _) hI)⟩
    · exact ⟨by omega, by omega, by omega, by omega, Ev_mono (Nat.le_refl _) (fun r M1 h => ⟨by omega, by omega, by omega, by omega, Ev_mono (Nat.le_refl _) (fun r2 M2 h2 => by obtain ⟨rfl, hI2⟩ := h2; exact ⟨fun _ => nx M2 hI2, fun z => z rfl⟩) h⟩) (H18 M _ _ (zw_xs _) (zw_xs _) hI)⟩
    · exact ⟨by omega, by omega, by omega, by omega, Ev_mono (Nat.le_refl _) (fun r M1 h => ⟨by omega, by omega, by omega, by omega, Ev_mono (Nat.le_refl _) (fun r2 M2 h2 => by obtain ⟨rfl, hI2⟩ := h2; exact ⟨fun _ => nx M2 hI2, fun z => z rfl⟩) h⟩) (H19 M _ _ (zw_xs _) (zw_xs _) hI)⟩
    · exact ⟨by omega, by omega, Ev_mono (Nat.le_refl _) (fun r M1 h => ⟨by omega, by omega, Ev_mono (Nat.le_refl _) (fun r2 M2 h2 => by obtain ⟨rfl, hI2⟩ := h2; exact ⟨fun _ => nx M2 hI2, fun z => z rfl⟩) h⟩) (H20 M _ (zw_xs _) hI)⟩
    · exact ⟨by omega, by omega, by omega, by omega, by omega, by omega, Ev_mono (Nat.le_refl _) (fun r M1 h => ⟨by omega, by omega, by omega, by omega, by omega, by omega, Ev_mono (Nat.le_refl _) (fun r2 M2 h2 => by obtain ⟨rfl, hI2⟩ := h2; exact ⟨fun _ => nx M2 hI2, fun z => z rfl⟩) h⟩) (H21 M _ _ _ (zw_xs _) (zw_xs _) (zw_xs _) hI)⟩
    · exact Ev_mono (Nat.le_refl _) (fun r M1 h => Ev_mono (Nat.le_refl _) (fun r2 M2 h2 => by obtain ⟨rfl, hI2⟩ := h2; exact ⟨fun _ => nx M2 hI2, fun z => z rfl⟩) h) (H22 M hI)
    · exact Ev_mono (Nat.le_refl _) (fun r M1 h => Ev_mono (Nat.le_refl _) (fun r2 M2 h2 => by obtain ⟨rfl, hI2⟩ := h2; exact ⟨fun _ => nx M2 hI2, fun z => z rfl⟩) h) (H23 M hI)
    · exact Ev_mono (Nat.le_refl _) (fun r M1 h => Ev_mono (Nat.le_refl _) (fun r2 M2 h2 => by obtain ⟨rfl, hI2⟩ := h2; exact ⟨fun _ => nx M2 hI2, fun z => z rfl⟩) h) (H24 M hI)
    · exact Ev_mono (Nat.le_refl _) (fun r M1 h => Ev_mono (Nat.le_refl _) (fun r2 M2 h2 => by obtain ⟨rfl, hI2⟩ := h2; exact ⟨fun _ => nx M2 hI2, fun z => z rfl⟩) h) (H25 M hI)
    · exact ⟨by omega, by omega, Ev_mono (Nat.le_refl _) (fun r M1 h => ⟨by omega, by omega, Ev_mono (Nat.le_refl _) (fun r2 M2 h2 => by obtain ⟨rfl, hI2⟩ := h2; exact ⟨fun _ => nx M2 hI2, fun z => z rfl⟩) h⟩) (H26 M _ (zw_xs _) hI)⟩
    · exact ⟨by omega, by omega, by omega, by omega, by omega, by omega, Ev_mono (Nat.le_refl _) (fun r M1 h => ⟨by omega, by omega, by omega, by omega, by omega, by omega, Ev_mono (Nat.le_refl _) (fun r2 M2 h2 => by obtain ⟨rfl, hI2⟩ := h2; exact ⟨fun _ => nx M2 hI2, fun z => z rfl⟩) h⟩) (H27 M _ _ _ (zw_xs _) (zw_xs _) (zw_xs _) hI)⟩
    · exact ⟨by omega, by omega, Ev_mono (Nat.le_refl _) (fun r M1 h => ⟨by omega, by omega, Ev_mono (Nat.le_refl _) (fun r2 M2 h2 => by obtain ⟨rfl, hI2⟩ := h2; exact ⟨fun _ => nx M2 hI2, fun z => z rfl⟩) h⟩) (H28 M _ (zw_xs _) hI)⟩
    · exact ⟨by omega, by omega, by omega, by omega, Ev_mono (Nat.le_refl _) (fun r M1 h => ⟨by omega, by omega, by omega, by omega, Ev_mono (Nat.le_refl _) (fun r2 M2 h2 => by obtain ⟨rfl, hI2⟩ := h2; exact ⟨fun _ => nx M2 hI2, fun z => z rfl⟩) h⟩) (H29 M _ _ (zw_xs _) (zw_xs _) hI)⟩
    · exact ⟨by omega, by omega, by omega, by omega, by omega, by omega, Ev_mono (Nat.le_refl _) (fun r M1 h => ⟨by omega, by omega, by omega, by omega, by omega, by omega, Ev_mono (Nat.le_refl _) (fun r2 M2 h2 => by obtain ⟨rfl, hI2⟩ := h2; exact ⟨fun _ => nx M2 hI2, fun z => z rfl⟩) h⟩) (H30 M _ _ _ (zw_xs _) (zw_xs _) (zw_xs _) hI)⟩
    · exact ⟨by omega, by omega, by omega, by omega, by omega, by omega, by omega, by omega, Ev_mono (Nat.le_refl _) (fun r M1 h => ⟨by omega, by omega, by omega, by omega, by omega, by omega, by omega, by omega, Ev_mono (Nat.le_refl _) (fun r2 M2 h2 => by obtain ⟨rfl, hI2⟩ := h2; exact ⟨fun _ => nx M2 hI2, fun z => z rfl⟩) h⟩) (H31 M _ _ _ (zw_xs _) (zw_xs _) hI)⟩
    · exact ⟨by omega, by omega, by omega, by omega, Ev_mono (Nat.le_refl _) (fun r M1 h => ⟨by omega, by omega, by omega, by omega, Ev_mono (Nat.le_refl _) (fun r2 M2 h2 => by obtain ⟨rfl, hI2⟩ := h2; exact ⟨fun _ => nx M2 hI2, fun z => z (z_lc_self _)⟩) h⟩) (H32 M _ _ (zw_xs _) (zw_xs _) hI)⟩
    · exact ⟨by omega, by omega, by omega, by omega, by omega, by omega, by omega, by omega, by omega, by omega, Ev_mono (Nat.le_refl _) (fun r M1 h => ⟨by omega, by omega, by omega, by omega, by omega, by omega, by omega, by omega, by omega, by omega, Ev_mono (Nat.le_refl _) (fun r2 M2 h2 => by obtain ⟨rfl, hI2⟩ := h2; exact ⟨fun _ => nx M2 hI2, fun z => z rfl⟩) h⟩) (H33 M _ _ _ _ _ (zw_xs _) (zw_xs _) (zw_xs _) (zw_xs _) (zw_xs _) hI)⟩
    · exact ⟨by omega, by omega, by omega, by omega, Ev_mono (Nat.le_refl _) (fun r M1 h => ⟨by omega, by omega, by omega, by omega, Ev_mono (Nat.le_refl _) (fun r2 M2 h2 => by obtain ⟨rfl, hI2⟩ := h2; exact ⟨fun _ => nx M2 hI2, fun z => z rfl⟩) h⟩) (H34 M _ _ (zw_xs _) (zw_xs _) hI)⟩
    · exact ⟨by omega, by omega, Ev_mono (Nat.le_refl _) (fun r M1 h => ⟨by omega, by omega, Ev_mono (Nat.le_refl _) (fun r2 M2 h2 => by obtain ⟨rfl, hI2⟩ := h2; exact ⟨fun _ => nx M2 hI2, fun z => z rfl⟩) h⟩) (H35 M _ (zw_xs _) hI)⟩
