/-! law -/
theorem Inv_law {M M2 : zM} (hF : ∀ i j, ¬ (i = 128 ∧ (j = 1 ∨ j = 3 ∨ j = 4 ∨ j = 5 ∨ j = 7)) → i ≠ 131 → i ≠ 135 → ¬ (i = 1280 ∧ ((19 ≤ j ∧ j ≤ 23) ∨ j = 31)) → ¬ (1305 ≤ i ∧ i ≤ 1309) → zg M2 i j = zg M i j) (hZ : ∀ i j, zh M2 i j = zh M i j) (hT : IT M2) (hL : IL M2) (hI : Inv M) : Inv M2 := by
  obtain ⟨h1, h2, h3, h4, h5, h6, h7, h8, h9, h10, h11, h12, h13, h14⟩ := hI
  refine ⟨IP_fr (fun i j h => hF i j ?_ ?_ ?_ ?_ ?_) h1, ID_fr (fun i j h => hF i j ?_ ?_ ?_ ?_ ?_) h2, IN_fr (fun i j h => hF i j ?_ ?_ ?_ ?_ ?_) h3, IM_fr (fun i j h => hF i j ?_ ?_ ?_ ?_ ?_) h4, IH_fr (fun i j h => hF i j ?_ ?_ ?_ ?_ ?_) h5, IW_fr (fun i j h => hF i j ?_ ?_ ?_ ?_ ?_) h6, IF_fr (fun i j h => hF i j ?_ ?_ ?_ ?_ ?_) h7, IC_fr (fun i j h => hF i j ?_ ?_ ?_ ?_ ?_) h8, II_fr (fun i j h => hF i j ?_ ?_ ?_ ?_ ?_) h9, hT, hL, IG_fr (fun i j h => hF i j ?_ ?_ ?_ ?_ ?_) h12, IR_fr (fun i j h => hF i j ?_ ?_ ?_ ?_ ?_) h13, IS_fr (fun i j h => hF i j ?_ ?_ ?_ ?_ ?_) (fun i j _ => hZ i j) h14⟩ <;>
  · simp [cIP, cID, cIN, cIM, cIH, cIW, cIF, cIC, cII, cIT, cIL, cIG, cIR, cIS] at h; omega
theorem p_law {d : Nat} {M : zM} (hd : 75 ≤ d) (hI : Inv M) : Pr d mX7_law mX8_law [] M := by
  obtain ⟨t, t1, t2, t3, t4⟩ := hI.2.2.2.2.2.2.2.2.2.1
  obtain ⟨d, rfl, hdd⟩ := e_of 74 hd; replace hd := hdd
  have gc : TPc M t (fun i => zg M 129 i) := ⟨t2, t1, fun i hi => ⟨rfl, (t4 i hi).1, (t4 i hi).2.1⟩⟩
  have gr : ∀ M1 : zM, (∀ i j, 1280 ≤ i → zg M1 i j = zg M i j) → TPr M1 t (fun i => zg M 129 i) := fun M1 a => ⟨by rw [a _ _ (by omega)]; exact t3, t1, fun i hi => ⟨by rw [a _ _ (by omega)]; exact (t4 i hi).2.2, (t4 i hi).1, (t4 i hi).2.1⟩⟩
  refine e_X7_law (v_X7_law_0 (c_X2_takeTape (by omega) t _ gc (fun e M2 f1 z1 lc => ?_) (fun f e M2 f1 z1 k1 k2 => ?_)))
  · have hA : ∀ i j, 1280 ≤ i → zg M2 i j = zg M i j := fun i j q => f1.1 i j (by omega) (by omega) (by omega)
    rw [zq_m1]
    refine ⟨fun _ => ?_, fun y => absurd rfl y⟩
    refine e_X8_law (v_X8_law_0 (c_X8_readText (by omega) t _ (gr M2 hA) (fun _ M3 g1 g2 g3 up => ⟨fun _ => ?_, fun y => absurd (by decide) y⟩) (fun f e2 => by rw [e] at e2; cases e2)))
    rintro _ rfl
    obtain ⟨h, l1, l2, l3, l4, l5, l6⟩ := tx_ok e
    have sl := lwSs_le (txS t (fun i => zg M 129 i)).1
    obtain ⟨⟨lc1, lc2⟩, lc3, lc4, lc5⟩ := lc
    have q1 : ∀ i j, i < 1280 → zg (zs M3 1280 31 1) i j = zg M2 i j := fun i j q => by rw [zg_zsi _ _ _ _ (by omega), g1 i j (by omega) (by omega)]
    refine ⟨rfl, Inv_law (fun i j a1 a2 a3 a4 a5 => ?_) (fun i j => by rw [zh_zs, g2, f1.2]) ⟨0, by omega, ?_, ?_, fun i hi => absurd hi (by omega)⟩ ?_ hI⟩
    · rw [zg_zs, if_neg (by omega), g1 i j (by omega) a5, f1.1 i j a1 a2 a3]
    · rw [q1 _ _ (by omega), z1]; rfl
    · rw [zg_zsj _ _ _ _ (by omega), g3]; rfl
    · refine Or.inr ⟨by rw [zg_zs1]; decide, (txS t (fun i => zg M 129 i)).1, ⟨l1, l2⟩, by rw [q1 _ _ (by omega)]; exact lc3, lc4, fun i hi => ?_, by rw [zg_zsi _ _ _ _ (by omega)]; exact up.1, by omega, by omega, fun i _ hi => by rw [zg_zsi _ _ _ _ (by omega), zg_zsi _ _ _ _ (by omega)]; exact up.2.1 i hi, fun k _ hk => by rw [zg_zsi _ _ _ _ (by omega), zg_zsi _ _ _ _ (by omega)]; exact up.2.2 k hk⟩
      rw [q1 _ _ (by omega)]
      have := CdA_to 0 _ lc5 i hi
      rw [Nat.zero_add] at this
      exact this
  · have hA : ∀ i j, 1280 ≤ i → zg M2 i j = zg M i j := fun i j q => f1.1 i j (by omega) (by omega) (by omega)
    have fb : f ≤ t := tx_f e
    have wf : zw (f : Int) = (f : Int) := zw_n (by omega)
    rw [wf]
    refine ⟨fun y => absurd y (by omega), fun _ => ?_⟩
    refine e_X8_law (v_X8_law_0 (c_X8_readText (by omega) t _ (gr M2 hA) (fun e2 => by rw [e] at e2; cases e2) (fun f2 e2 M3 g1 g2 g3 => ?_)))
    have ef : f2 = f := by rw [e] at e2; cases e2; rfl
    subst ef
    rw [wf]
    refine ⟨fun y => absurd y (by omega), fun _ => ⟨rfl, Inv_law (fun i j a1 a2 a3 a4 a5 => ?_) (fun i j => by rw [g2, f1.2]) ⟨0, by omega, ?_, by rw [g3]; rfl, fun i hi => absurd hi (by omega)⟩ (IL_fr (fun i j c => ?_) hI.2.2.2.2.2.2.2.2.2.2.1) hI⟩⟩
    · rw [g1 i j (by omega) (by omega) (by omega) (by omega), f1.1 i j a1 a2 a3]
    · rw [g1 _ _ (by omega) (by omega) (by omega) (by omega), z1]; rfl
    · have cc : i = 135 ∨ ((i = 1305 ∨ i = 1306) ∧ j < 130) ∨ (i = 1307 ∧ j = 0) ∨ ((i = 1308 ∨ i = 1309) ∧ j < 61) ∨ (i = 128 ∧ j = 7) ∨ (i = 1280 ∧ j = 31) := by
        simp [cIL] at c; omega
      rw [g1 i j (by omega) (by omega) (by omega) (by omega)]
      by_cases y1 : i = 135
      · subst y1; exact k1 j
      · by_cases y2 : i = 128
        · have : j = 7 := by omega
          subst y2; subst this; exact k2
        · exact f1.1 i j (by omega) (by omega) y1
