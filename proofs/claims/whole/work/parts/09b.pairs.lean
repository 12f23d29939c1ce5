/-! pairs: class and reference answer alike and stay alike -/
def Pr (d : Nat) (mc mr : zRow) (as : List Value) (M : zM) : Prop := Ev d mc (.ref 64 :: as) M (fun r M1 => Ev d mr (.ref 1280 :: as) M1 (fun r2 M2 => r = r2 ∧ Inv M2))
theorem Inv_n {M : zM} (hI : Inv M) : ∃ n : Nat, n ≤ 12 ∧ zg M 192 5 = (n : Int) ∧ zg M 1280 1 = (n : Int) := by
  obtain ⟨n, h1, h2, h3, -⟩ := hI.1
  exact ⟨n, h1, h2, h3⟩
theorem c_X7_hearing {d : Nat} {M : zM} {Q : Int → zM → Prop} (hd : 1 ≤ d) (v : Int) (hf : ¬ (0 ≤ zw v ∧ zw v ≤ 1) → Q (-1) M) (ht : (0 ≤ zw v ∧ zw v ≤ 1) → Q (zg M 192 11) (zs M 192 11 v)) : Ev d mX7_hearing [.ref 64, zI v] M Q := by
  obtain ⟨d, rfl, -⟩ := e_of 0 hd
  refine e_X7_hearing v (v_X7_hearing_0 v ⟨fun q => v_X7_hearing_11 v ?_, fun q => ⟨fun q2 => v_X7_hearing_11 v ?_, fun q2 => hf (by omega)⟩⟩)
  · rintro _ rfl; exact ht (by omega)
  · rintro _ rfl; exact ht (by omega)
theorem c_X8_hearing {d : Nat} {M : zM} {Q : Int → zM → Prop} (hd : 2 ≤ d) (v : Int) (hf : ¬ (0 ≤ zw v ∧ zw v ≤ 1) → Q (-1) M) (ht : (0 ≤ zw v ∧ zw v ≤ 1) → Q (zg M 1280 9) (zs M 1280 9 v)) : Ev d mX8_hearing [.ref 1280, zI v] M Q := by
  obtain ⟨d, rfl, hd⟩ := e_of 1 hd
  refine e_X8_hearing v (v_X8_hearing_0 v (c_in3 (F := fun M2 => Q (-1) M2) (G := fun M2 => ∀ M3 : zM, M3 = zs M2 1280 9 v → Q (zg M2 1280 9) M3) (by omega) v 0 1 (by rw [zq_0, zq_1]) hf ?_))
  rintro q _ rfl; exact ht q
theorem p_hearing {d : Nat} {M : zM} (hd : 3 ≤ d) (v : Int) (hI : Inv M) : Pr d mX7_hearing mX8_hearing [zI v] M := by
  refine c_X7_hearing (by omega) v (fun q => ?_) (fun q => ?_)
  · exact c_X8_hearing (by omega) v (fun _ => ⟨rfl, hI⟩) (fun g => absurd g q)
  · refine c_X8_hearing (by omega) v (fun g => absurd q g) (fun _ => ?_)
    obtain ⟨h1, h2, h3, h4, h5, h6, h7, h8, h9, h10, h11, h12, h13, h14⟩ := hI
    refine ⟨by rw [zg_zsi _ _ _ _ (by omega)]; exact h5.1, IP_zs rfl (IP_zs rfl h1), ID_zs rfl (ID_zs rfl h2), IN_zs rfl (IN_zs rfl h3), IM_zs rfl (IM_zs rfl h4), ?_, IW_zs rfl (IW_zs rfl h6), IF_zs rfl (IF_zs rfl h7), IC_zs rfl (IC_zs rfl h8), II_zs rfl (II_zs rfl h9), IT_zs rfl (IT_zs rfl h10), IL_zs rfl (IL_zs rfl h11), IG_zs rfl (IG_zs rfl h12), IR_zs rfl (IR_zs rfl h13), IS_zs rfl (IS_zs rfl h14)⟩
    refine ⟨?_, ?_⟩
    · rw [zg_zsi _ _ _ _ (by omega), zg_zs1, zg_zs1]
    · rw [zg_zs1]; omega
