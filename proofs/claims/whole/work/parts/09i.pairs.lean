/-! pairs: image, back, body, trace, count -/
/-- only row a has changed -/
def FrA (a : Nat) (M N : zM) : Prop := (∀ x b, x ≠ a → zg N x b = zg M x b) ∧ ∀ x b, zh N x b = zh M x b
theorem FrA_rf {a : Nat} {M : zM} : FrA a M M := ⟨fun _ _ _ => rfl, fun _ _ => rfl⟩
theorem FrA_zs {a : Nat} {M N : zM} {b : Nat} {v : Int} (h : FrA a M N) : FrA a M (zs N a b v) := ⟨fun x y hx => by rw [zg_zsi _ _ _ _ hx]; exact h.1 x y hx, fun x y => h.2 x y⟩
theorem l_X8_image {E : zE} {M : zM} {Q : Int → zM → Prop} (n : Nat) (hn : n ≤ 12) (hM : zg M 1280 1 = (n : Int)) (hQ : ∀ N, FrA 1319 M N → (∀ j, j < n → zg N 1319 j = zg M 1285 j) → Q (n : Int) N) : ∀ (j k : Nat) (N : zM), k + j = n → FrA 1319 M N → (∀ i, i < k → zg N 1319 i = zg M 1285 i) → wp E 8 cX8_image (some .int) Q 15 [some (.ref 1280), some (zI (k : Int))] [] N := by
  intro j
  induction j with
  | zero =>
    intro k N hk hF hc
    have wk : zw (k : Int) = (k : Int) := zw_of (by omega) (by omega)
    refine v_X8_image_15 _ ?_
    rw [wk, hF.1 _ _ (by omega), hM]
    refine ⟨fun q => absurd q (by omega), fun _ => hQ N hF (fun i hi => hc i (by omega))⟩
  | succ j ih =>
    intro k N hk hF hc
    have wk : zw (k : Int) = (k : Int) := zw_of (by omega) (by omega)
    refine v_X8_image_15 _ ?_
    rw [wk, hF.1 _ _ (by omega), hM]
    refine ⟨fun _ => ⟨by omega, by omega, by omega, by omega, ?_⟩, fun q => absurd (by omega) q⟩
    rintro _ rfl
    rw [show ((k : Int) + 1) = ((k + 1 : Nat) : Int) by omega, show ((k : Int)).toNat = k by omega]
    refine ih (k + 1) _ (by omega) (FrA_zs hF) (fun i hi => ?_)
    by_cases e : i = k
    · subst e; rw [zg_zs1, zw_zg]; exact hF.1 _ _ (by omega)
    · rw [zg_zsj _ _ _ _ e]; exact hc i (by omega)
theorem p_image {d : Nat} {M : zM} (hd : 2 ≤ d) (hI : Inv M) : Pr d mX7_image mX8_image [] M := by
  obtain ⟨n, n1, n2, n3⟩ := Inv_n hI
  obtain ⟨d, rfl, -⟩ := e_of 1 hd
  have wn : zw (n : Int) = (n : Int) := zw_of (by omega) (by omega)
  have w1 : zw 1 = 1 := by decide
  refine e_X7_image (v_X7_image_0 ?_)
  rintro _ rfl _ rfl
  rw [zg_zci, if_neg (by omega), zg_zs1, n2, wn]
  refine e_X8_image (v_X8_image_0 ?_)
  rintro _ rfl _ rfl
  have e1 : ∀ a b, (a = 1280 ∧ b = 1) ∨ (a ≠ 64 ∧ a ≠ 72 ∧ a ≠ 1280) → zg (zs (zs (zci (zs M 64 8 (n : Int)) 196 72 0 0 12) 1280 36 1) 1280 37 (zg (zs (zci (zs M 64 8 (n : Int)) 196 72 0 0 12) 1280 36 1) 1280 1)) a b = zg M a b := by
    intro a b h
    simp only [zg_zs, zg_zci]
    rw [if_neg (by omega), if_neg (by omega), if_neg (by omega), if_neg (by omega)]
  refine l_X8_image n n1 (by rw [e1 _ _ (by omega)]; exact n3) (fun N hF hc => ?_) n 0 _ (by omega) FrA_rf (fun i hi => absurd hi (by omega))
  have g : ∀ a b, (a = 1280 ∧ b ≠ 36 ∧ b ≠ 37) ∨ (a ≠ 64 ∧ a ≠ 72 ∧ a ≠ 1280 ∧ a ≠ 1319) → zg N a b = zg M a b := by
    intro a b h
    rw [hF.1 a b (by omega)]
    simp only [zg_zs, zg_zci]
    rw [if_neg (by omega), if_neg (by omega), if_neg (by omega), if_neg (by omega)]
  refine ⟨rfl, ?_⟩
  obtain ⟨h1, h2, h3, h4, h5, h6, h7, h8, h9, h10, h11, h12, h13, h14⟩ := hI
  refine ⟨IP_fr (fun a b h => g a b (by simp [cIP] at h; omega)) h1, ID_fr (fun a b h => g a b (by simp [cID] at h; omega)) h2, IN_fr (fun a b h => g a b (by simp [cIN] at h; omega)) h3, IM_fr (fun a b h => g a b (by simp [cIM] at h; omega)) h4, IH_fr (fun a b h => g a b (by simp [cIH] at h; omega)) h5, IW_fr (fun a b h => g a b (by simp [cIW] at h; omega)) h6, IF_fr (fun a b h => g a b (by simp [cIF] at h; omega)) h7, IC_fr (fun a b h => g a b (by simp [cIC] at h; omega)) h8, Or.inr ⟨n, ?_, ?_, ?_, ?_, fun p hp => ?_⟩, IT_fr (fun a b h => g a b (by simp [cIT] at h; omega)) h10, IL_fr (fun a b h => g a b (by simp [cIL] at h; omega)) h11, IG_fr (fun a b h => g a b (by simp [cIG] at h; omega)) h12, IR_fr (fun a b h => g a b (by simp [cIR] at h; omega)) h13, IS_fr (fun a b h => g a b (by simp [cIS] at h; omega)) (fun a b _ => hF.2 a b) h14⟩
  · rw [hF.1 _ _ (by omega)]; simp [zg_zs, zg_zci, wn]
  · rw [hF.1 _ _ (by omega)]; simp [zg_zs, zg_zci, w1]
  · rw [hF.1 _ _ (by omega)]; simp [zg_zs, zg_zci, n3, wn]
  · rw [g _ _ (by omega)]; omega
  · have hp12 : p < 12 := by omega
    have hNp := h3 p (by omega)
    rw [hc p hp, e1 _ _ (by omega), hF.1 _ _ (by omega)]
    simp [zg_zs, zg_zci, hp12]
    exact hNp
theorem l_X8_back {E : zE} {M : zM} {Q : Int → zM → Prop} (n : Nat) (hn : n ≤ 12) (hM : zg M 1280 37 = (n : Int)) (hQ : ∀ N, FrA 1285 M N → (∀ j, zg N 1285 j = if j < n then zg M 1319 j else zg M 1285 j) → Q (n : Int) N) : ∀ (j k : Nat) (N : zM), k + j = n → FrA 1285 M N → (∀ i, zg N 1285 i = if i < k then zg M 1319 i else zg M 1285 i) → wp E 8 cX8_back (some .int) Q 12 [some (.ref 1280), some (zI (k : Int))] [] N := by
  intro j
  induction j with
  | zero =>
    intro k N hk hF hc
    have wk : zw (k : Int) = (k : Int) := zw_of (by omega) (by omega)
    refine v_X8_back_12 _ ?_
    rw [wk, hF.1 _ _ (by omega), hM]
    have hkn : k = n := by omega
    subst hkn
    refine ⟨fun q => absurd q (by omega), fun _ => hQ N hF hc⟩
  | succ j ih =>
    intro k N hk hF hc
    have wk : zw (k : Int) = (k : Int) := zw_of (by omega) (by omega)
    refine v_X8_back_12 _ ?_
    rw [wk, hF.1 _ _ (by omega), hM]
    refine ⟨fun _ => ⟨by omega, by omega, by omega, by omega, ?_⟩, fun q => absurd (by omega) q⟩
    rintro _ rfl
    rw [show ((k : Int) + 1) = ((k + 1 : Nat) : Int) by omega, show ((k : Int)).toNat = k by omega]
    refine ih (k + 1) _ (by omega) (FrA_zs hF) (fun i => ?_)
    by_cases e : i = k
    · subst e; rw [zg_zs1, zw_zg, if_pos (by omega)]; exact hF.1 _ _ (by omega)
    · rw [zg_zsj _ _ _ _ e, hc i]
      by_cases e2 : i < k
      · rw [if_pos e2, if_pos (by omega)]
      · rw [if_neg e2, if_neg (by omega)]
theorem p_back {d : Nat} {M : zM} (hd : 2 ≤ d) (hI : Inv M) : Pr d mX7_back mX8_back [] M := by
  obtain ⟨n, n1, n2, n3⟩ := Inv_n hI
  obtain ⟨d, rfl, -⟩ := e_of 1 hd
  rcases hI.2.2.2.2.2.2.2.2.1 with ⟨b1, b2⟩ | ⟨q, b1, b2, b3, b4, b5⟩
  · refine e_X7_back (v_X7_back_0 ⟨fun _ => ?_, fun z => absurd b1 z⟩)
    exact e_X8_back (v_X8_back_0 ⟨fun _ => ⟨rfl, hI⟩, fun z => absurd b2 z⟩)
  · refine e_X7_back (v_X7_back_0 ⟨fun z => absurd z (by omega), fun _ => ⟨by omega, by omega, by omega, ?_⟩⟩)
    rintro _ rfl
    rw [b1, show ((q : Int)).toNat = q by omega, zg_zci, if_neg (by omega), b1]
    refine e_X8_back (v_X8_back_0 ⟨fun z => ?_, fun _ => ?_⟩)
    · rw [zg_zci, if_neg (by omega), b2] at z; omega
    · refine l_X8_back q (by omega) (by rw [zg_zci, if_neg (by omega)]; exact b3) (fun N hF hc => ?_) q 0 _ (by omega) FrA_rf (fun i => by rw [if_neg (by omega)])
      have g : ∀ a b, a ≠ 196 ∧ a ≠ 1285 → zg N a b = zg M a b := by
        intro a b h
        rw [hF.1 a b (by omega), zg_zci, if_neg (by omega)]
      refine ⟨rfl, ?_⟩
      obtain ⟨h1, h2, h3, h4, h5, h6, h7, h8, h9, h10, h11, h12, h13, h14⟩ := hI
      refine ⟨IP_fr (fun a b h => g a b (by simp [cIP] at h; omega)) h1, ID_fr (fun a b h => g a b (by simp [cID] at h; omega)) h2, fun p hp => ?_, IM_fr (fun a b h => g a b (by simp [cIM] at h; omega)) h4, IH_fr (fun a b h => g a b (by simp [cIH] at h; omega)) h5, IW_fr (fun a b h => g a b (by simp [cIW] at h; omega)) h6, IF_fr (fun a b h => g a b (by simp [cIF] at h; omega)) h7, IC_fr (fun a b h => g a b (by simp [cIC] at h; omega)) h8, II_fr (fun a b h => g a b (by simp [cII] at h; omega)) h9, IT_fr (fun a b h => g a b (by simp [cIT] at h; omega)) h10, IL_fr (fun a b h => g a b (by simp [cIL] at h; omega)) h11, IG_fr (fun a b h => g a b (by simp [cIG] at h; omega)) h12, IR_fr (fun a b h => g a b (by simp [cIR] at h; omega)) h13, IS_fr (fun a b h => g a b (by simp [cIS] at h; omega)) (fun a b _ => hF.2 a b) h14⟩
      rw [g 1280 1 (by omega)] at hp
      have h := h3 p hp
      have hcp := hc p
      have h196 := hF.1 196 p (by omega)
      simp only [zg_zci] at hcp h196
      by_cases hq : p < q
      · have hb := b5 p hq
        simp [hq] at hcp h196
        rw [hcp, h196]; exact hb
      · simp [hq] at hcp h196
        rw [hcp, h196]; exact h
