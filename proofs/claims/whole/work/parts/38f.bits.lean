/-! how many bits -/
def pcN : Nat → Nat → Nat
  | 0, _ => 0
  | f + 1, v => if v = 0 then 0 else pcN f (v &&& (v - 1)) + 1
def pcv (v : Nat) : Nat := pcN v v
theorem pcN_f : ∀ (v f : Nat), v ≤ f → pcN f v = pcN v v := by
  intro v
  induction v using Nat.strongRecOn with
  | _ v ih =>
    intro f hf
    by_cases h : v = 0
    · subst h
      match f with
      | 0 => rfl
      | f + 1 => rfl
    · have l : v &&& (v - 1) ≤ v - 1 := Nat.and_le_right
      obtain ⟨g, rfl⟩ : ∃ g, f = g + 1 := ⟨f - 1, by omega⟩
      obtain ⟨w, hw⟩ : ∃ w, v = w + 1 := ⟨v - 1, by omega⟩
      have a1 := ih (v &&& (v - 1)) (by omega) g (by omega)
      have a2 := ih (v &&& (v - 1)) (by omega) w (by omega)
      rw [pcN, if_neg h, a1]
      have : pcN v v = pcN (w + 1) v := by rw [← hw]
      rw [this, pcN, if_neg h, a2]
theorem pcv_s {v : Nat} (h : v ≠ 0) : pcv v = pcv (v &&& (v - 1)) + 1 := by
  have l : v &&& (v - 1) ≤ v - 1 := Nat.and_le_right
  obtain ⟨w, hw⟩ : ∃ w, v = w + 1 := ⟨v - 1, by omega⟩
  unfold pcv
  have : pcN v v = pcN (w + 1) v := by rw [← hw]
  rw [this, pcN, if_neg h, pcN_f _ w (by omega)]
theorem pcN_le : ∀ (f v : Nat), pcN f v ≤ f
  | 0, _ => Nat.le_refl _
  | f + 1, v => by
    rw [pcN]
    split
    · omega
    · have := pcN_le f (v &&& (v - 1)); omega
theorem l_X8_bits {E : zE} {M : zM} {Q : Int → zM → Prop} : ∀ (v c : Nat), v < 65536 → c + pcv v < 200000 → Q ((c + pcv v : Nat) : Int) M → wp E 8 cX8_bitsOf (some .int) Q 4 [none, some (zI (c : Int)), some (zI (v : Int))] [] M := by
  intro v
  induction v using Nat.strongRecOn with
  | _ v ih =>
    intro c hv hc h
    refine v_X8_bitsOf_4 _ _ ?_
    rw [zw_n (a := v) (by omega), zw_n (a := c) (by omega)]
    refine ⟨fun q => ?_, fun q => ?_⟩
    · have e : v = 0 := by omega
      subst e
      exact h
    · have l : v &&& (v - 1) ≤ v - 1 := Nat.and_le_right
      have s := pcv_s (v := v) (by omega)
      rw [show (v : Int) - 1 = ((v - 1 : Nat) : Int) by omega, zb_and (by omega) (by omega), show (c : Int) + 1 = ((c + 1 : Nat) : Int) by omega]
      refine ih _ (by omega) (c + 1) (by omega) (by omega) ?_
      rw [show c + 1 + pcv (v &&& (v - 1)) = c + pcv v by omega]
      exact h
theorem c_X8_bitsOf {d : Nat} {M : zM} {Q : Int → zM → Prop} (hd : 1 ≤ d) (v : Nat) (hv : v < 65536) (h : Q (pcv v : Int) M) : Ev d mX8_bitsOf [zI (v : Int)] M Q := by
  obtain ⟨d, rfl, -⟩ := e_of 0 hd
  have l := pcN_le v v
  refine e_X8_bitsOf _ (v_X8_bitsOf_0 _ (l_X8_bits v 0 hv (by unfold pcv; omega) ?_))
  rw [Nat.zero_add]; exact h
def bcE (v0 : Int) : Int := (z_and (((z_and (((z_and (v0 - (z_and (z_ushr v0 1) 1431655765)) 858993459) + (z_and (z_ushr (v0 - (z_and (z_ushr v0 1) 1431655765)) 2) 858993459)) + (z_ushr ((z_and (v0 - (z_and (z_ushr v0 1) 1431655765)) 858993459) + (z_and (z_ushr (v0 - (z_and (z_ushr v0 1) 1431655765)) 2) 858993459)) 4)) 252645135) + (z_ushr (z_and (((z_and (v0 - (z_and (z_ushr v0 1) 1431655765)) 858993459) + (z_and (z_ushr (v0 - (z_and (z_ushr v0 1) 1431655765)) 2) 858993459)) + (z_ushr ((z_and (v0 - (z_and (z_ushr v0 1) 1431655765)) 858993459) + (z_and (z_ushr (v0 - (z_and (z_ushr v0 1) 1431655765)) 2) 858993459)) 4)) 252645135) 8)) + (z_ushr ((z_and (((z_and (v0 - (z_and (z_ushr v0 1) 1431655765)) 858993459) + (z_and (z_ushr (v0 - (z_and (z_ushr v0 1) 1431655765)) 2) 858993459)) + (z_ushr ((z_and (v0 - (z_and (z_ushr v0 1) 1431655765)) 858993459) + (z_and (z_ushr (v0 - (z_and (z_ushr v0 1) 1431655765)) 2) 858993459)) 4)) 252645135) + (z_ushr (z_and (((z_and (v0 - (z_and (z_ushr v0 1) 1431655765)) 858993459) + (z_and (z_ushr (v0 - (z_and (z_ushr v0 1) 1431655765)) 2) 858993459)) + (z_ushr ((z_and (v0 - (z_and (z_ushr v0 1) 1431655765)) 858993459) + (z_and (z_ushr (v0 - (z_and (z_ushr v0 1) 1431655765)) 2) 858993459)) 4)) 252645135) 8)) 16)) 63)
theorem bcE_eq (v : Nat) (hv : v < 4096) : bcE (v : Int) = (pcv v : Int) := by
  have : ∀ a : Nat, a < 64 → ∀ b : Nat, b < 64 → bcE ((64 * a + b : Nat) : Int) = (pcv (64 * a + b) : Int) := by decide +kernel
  have := this (v / 64) (by omega) (v % 64) (by omega)
  rw [show 64 * (v / 64) + v % 64 = v by omega] at this
  exact this
theorem c_J6_bitCount {d : Nat} {M : zM} {Q : Int → zM → Prop} (hd : 1 ≤ d) (v : Nat) (hv : v < 4096) (h : Q (pcv v : Int) M) : Ev d mJ6_bitCount_0f7a4 [zI (v : Int)] M Q := by
  obtain ⟨d, rfl, -⟩ := e_of 0 hd
  refine e_J6_bitCount_0f7a4 _ (v_J6_bitCount_0f7a4_0 _ ?_)
  rw [← bcE_eq v hv] at h
  exact h
