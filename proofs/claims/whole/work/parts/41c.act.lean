/-! act: the reference -/
def TrR (M : zM) (tr : List Int) : Prop := zg M 1280 41 = (tr.length : Int) ∧ ∀ i : Nat, i < tr.length → i < 24 → zg M 1323 i = tr.getD i 0
def FrM (M M2 : zM) : Prop := (∀ i j, i ≠ 1323 → ¬ (i = 1280 ∧ j = 41) → zg M2 i j = zg M i j) ∧ (∀ i j, zh M2 i j = zh M i j)
theorem FrM_rf (M : zM) : FrM M M := ⟨fun _ _ _ _ => rfl, fun _ _ => rfl⟩
theorem FrM_tr {M M2 M3 : zM} (h : FrM M M2) (g : FrM M2 M3) : FrM M M3 := ⟨fun i j a b => by rw [g.1 i j a b, h.1 i j a b], fun i j => by rw [g.2, h.2]⟩
def KR (M : zM) (b K : Nat) : Prop := b < 50 ∧ zg M 1321 b = (K : Int) ∧ K < 8
theorem KR_fr {M M2 : zM} {b K : Nat} (h : FrM M M2) (g : KR M b K) : KR M2 b K := ⟨g.1, by rw [h.1 _ _ (by omega) (by omega)]; exact g.2.1, g.2.2⟩
theorem c_X8_ran {d : Nat} {M : zM} {Q : Int → zM → Prop} (hd : 1 ≤ d) (v : Int) (hv : zw v = v) (tr : List Int) (hl : tr.length < 1000) (hT : TrR M tr) (h : ∀ M2 : zM, FrM M M2 → TrR M2 (tr ++ [v]) → Q 0 M2) : Ev d mX8_ran [.ref 1280, zI v] M Q := by
  obtain ⟨d, rfl, -⟩ := e_of 0 hd
  obtain ⟨t1, t2⟩ := hT
  have wl : zw ((tr.length : Int) + 1) = (tr.length : Int) + 1 := zw_of (by omega) (by omega)
  have ll : (tr ++ [v]).length = tr.length + 1 := by simp
  refine e_X8_ran _ (v_X8_ran_0 _ ?_)
  rw [t1, show ((tr.length : Int)).toNat = tr.length by omega]
  refine ⟨fun q => ⟨by omega, by omega, ?_⟩, fun q => ?_⟩
  · rintro _ rfl _ rfl
    rw [zg_zsi _ _ _ _ (by omega), t1]
    refine h _ ⟨fun i j a b => by rw [zg_zs, if_neg b, zg_zsi _ _ _ _ a], fun _ _ => rfl⟩ ⟨by rw [zg_zs1, wl, ll]; omega, fun i hi h24 => ?_⟩
    rw [zg_zsi _ _ _ _ (by omega)]
    by_cases e : i = tr.length
    · subst e; rw [zg_zs1, hv, getD_la]
    · rw [zg_zsj _ _ _ _ e, getD_ap i (by omega)]; exact t2 i (by omega) h24
  · rintro _ rfl
    refine h _ ⟨fun i j a b => by rw [zg_zs, if_neg b], fun _ _ => rfl⟩ ⟨by rw [zg_zs1, wl, ll]; omega, fun i hi h24 => ?_⟩
    rw [zg_zsi _ _ _ _ (by omega), getD_ap i (by omega)]; exact t2 i (by omega) h24
def rgP (b x : Int) : Int × List Int := (zw (x + b), [1])
def rgT (b x : Int) : Int × List Int := (zw ((rgP b x).1 * 2), 70 :: (rgP b x).2)
def rG (b : Int) (K : Nat) (x : Int) : Int × List Int := if K = 1 ∨ K = 4 then (zw ((rgP b x).1 + 3), 20 :: (rgP b x).2) else if K = 7 then (zw ((rgT b x).1 - 1), 81 :: (rgT b x).2) else if K = 6 then rgT b x else rgP b x
def rhP (b : Int) (K : Nat) (x : Int) : Int × List Int := (zw ((rG b K x).1 * 2), 10 :: (rG b K x).2)
def rhS (b : Int) (K : Nat) (x : Int) : Int × List Int := (zw (-(rhP b K x).1), 30 :: (rhP b K x).2)
def rkP (b x : Int) : Int × List Int := (z_xor x b, [11])
def rkW (b x : Int) : Int × List Int := (zw ((rkP b x).1 * 3), 40 :: (rkP b x).2)
def rK (b : Int) (K : Nat) (x : Int) : Int × List Int := if K = 5 then (zw ((rkW b x).1 - (rG b K 2).1), 60 :: ((rkW b x).2 ++ (rG b K 2).2)) else if K = 3 then rkW b x else rkP b x
def rH (b : Int) (K : Nat) (x : Int) : Int × List Int := if K = 3 ∨ K = 5 then (zw (rhS b K (x + 1)).1, 41 :: (rhS b K (x + 1)).2) else if K = 7 then (zw ((rhP b K x).1 + (rK b K 2).1), 80 :: ((rhP b K x).2 ++ (rK b K 2).2)) else if K = 2 then rhS b K x else rhP b K x
def rtP (b : Int) (K : Nat) (x : Int) : Int × List Int := (zw ((rH b K x).1 - (rK b K 1).1), 2 :: ((rH b K x).2 ++ (rK b K 1).2))
def rT (b : Int) (K : Nat) (x : Int) : Int × List Int := if K = 4 then (z_xor (rtP b K x).1 5, 50 :: (rtP b K x).2) else if K = 5 then (zw ((rtP b K x).1 + 1), 61 :: (rtP b K x).2) else rtP b K x
def rA (b : Int) (K a : Nat) (x : Int) : Int × List Int := if a = 0 then rG b K x else if a = 1 then rH b K x else if a = 2 then rK b K x else rT b K x
theorem rG_b (b : Int) (K : Nat) (x : Int) : zw (rG b K x).1 = (rG b K x).1 ∧ (rG b K x).2.length ≤ 3 := by
  unfold rG
  split
  · exact ⟨zw_zw _, by simp [rgP]⟩
  · split
    · exact ⟨zw_zw _, by simp [rgT, rgP]⟩
    · split
      · exact ⟨zw_zw _, by simp [rgT, rgP]⟩
      · exact ⟨zw_zw _, by simp [rgP]⟩
theorem rK_b (b : Int) (K : Nat) (x : Int) : zw (rK b K x).1 = (rK b K x).1 ∧ (rK b K x).2.length ≤ 6 := by
  have g := (rG_b b K 2).2
  unfold rK
  split
  · exact ⟨zw_zw _, by simp [rkW, rkP]; omega⟩
  · split
    · exact ⟨zw_zw _, by simp [rkW, rkP]⟩
    · exact ⟨zx_xor _ _, by simp [rkP]⟩
theorem rhP_l (b : Int) (K : Nat) (x : Int) : (rhP b K x).2.length ≤ 4 := by
  have g := (rG_b b K x).2
  unfold rhP; simp; omega
theorem rH_b (b : Int) (K : Nat) (x : Int) : zw (rH b K x).1 = (rH b K x).1 ∧ (rH b K x).2.length ≤ 11 := by
  have g1 := rhP_l b K x
  have g2 := rhP_l b K (x + 1)
  have g3 := (rK_b b K 2).2
  unfold rH
  split
  · exact ⟨zw_zw _, by simp [rhS]; omega⟩
  · split
    · exact ⟨zw_zw _, by simp; omega⟩
    · split
      · exact ⟨zw_zw _, by simp [rhS]; omega⟩
      · exact ⟨zw_zw _, by omega⟩
theorem rtP_b (b : Int) (K : Nat) (x : Int) : zw (rtP b K x).1 = (rtP b K x).1 ∧ (rtP b K x).2.length ≤ 18 := by
  have g1 := (rH_b b K x).2
  have g2 := (rK_b b K 1).2
  exact ⟨zw_zw _, by unfold rtP; simp; omega⟩
theorem rT_b (b : Int) (K : Nat) (x : Int) : zw (rT b K x).1 = (rT b K x).1 ∧ (rT b K x).2.length ≤ 19 := by
  have g := rtP_b b K x
  unfold rT
  split
  · exact ⟨zx_xor _ _, by simp; omega⟩
  · split
    · exact ⟨zw_zw _, by simp; omega⟩
    · exact ⟨g.1, by omega⟩
theorem rA_b (b : Int) (K a : Nat) (x : Int) : zw (rA b K a x).1 = (rA b K a x).1 ∧ (rA b K a x).2.length ≤ 19 := by
  have g1 := rG_b b K x
  have g2 := rH_b b K x
  have g3 := rK_b b K x
  have g4 := rT_b b K x
  unfold rA
  split
  · exact ⟨g1.1, by omega⟩
  · split
    · exact ⟨g2.1, by omega⟩
    · split
      · exact ⟨g3.1, by omega⟩
      · exact g4
theorem ap1 (tr l : List Int) (v : Int) : tr ++ [v] ++ l = tr ++ (v :: l) := by simp
theorem c_X8_plainGives {d : Nat} {M : zM} {Q : Int → zM → Prop} (hd : 2 ≤ d) (b x : Int) (tr : List Int) (hl : tr.length < 900) (hT : TrR M tr) (h : ∀ M2 : zM, FrM M M2 → TrR M2 (tr ++ (rgP b x).2) → Q (rgP b x).1 M2) : Ev d mX8_plainGives [.ref 1280, zI b, zI x] M Q := by
  obtain ⟨d, rfl, hdd⟩ := e_of 1 hd; replace hd := hdd
  exact e_X8_plainGives _ _ (v_X8_plainGives_0 _ _ (c_X8_ran hd 1 (by decide) tr (by omega) hT (fun M2 f1 f2 => h M2 f1 f2)))
theorem c_X8_toldGives {d : Nat} {M : zM} {Q : Int → zM → Prop} (hd : 3 ≤ d) (b x : Int) (tr : List Int) (hl : tr.length < 890) (hT : TrR M tr) (h : ∀ M2 : zM, FrM M M2 → TrR M2 (tr ++ (rgT b x).2) → Q (rgT b x).1 M2) : Ev d mX8_toldGives [.ref 1280, zI b, zI x] M Q := by
  obtain ⟨d, rfl, hdd⟩ := e_of 2 hd; replace hd := hdd
  refine e_X8_toldGives _ _ (v_X8_toldGives_0 _ _ (c_X8_ran (by omega) 70 (by decide) tr (by omega) hT (fun M2 f1 f2 => c_X8_plainGives hd b x _ (by simp; omega) f2 (fun M3 g1 g2 => ?_))))
  rw [ap1] at g2
  exact h M3 (FrM_tr f1 g1) g2
theorem c_X8_giving {d : Nat} {M : zM} {Q : Int → zM → Prop} (hd : 4 ≤ d) (b K : Nat) (x : Int) (tr : List Int) (hl : tr.length < 880) (hK : KR M b K) (hT : TrR M tr) (h : ∀ M2 : zM, FrM M M2 → TrR M2 (tr ++ (rG (b : Int) K x).2) → Q (rG (b : Int) K x).1 M2) : Ev d mX8_giving [.ref 1280, zI (b : Int), zI x] M Q := by
  obtain ⟨d, rfl, hdd⟩ := e_of 3 hd; replace hd := hdd
  obtain ⟨k1, k2, k3⟩ := id hK
  refine e_X8_giving _ _ (v_X8_giving_0 _ _ ?_)
  rw [zw_n (a := b) (by omega), show ((b : Int)).toNat = b by omega, k2]
  unfold rG at h
  refine ⟨by omega, by omega, c_X8_isUnder (by omega) _ _ (zw_n (by omega)) (by decide) (bz_br (fun q => ⟨by omega, by omega, ?_⟩) (fun q => ?_))⟩
  · have q2 : ¬ (K = 1 ∨ K = 4) := fun z => q (by unfold undR; omega)
    rw [if_neg q2] at h
    rw [k2]
    refine ⟨fun q3 => c_X8_ran (by omega) 81 (by decide) tr (by omega) hT (fun M2 f1 f2 => c_X8_toldGives hd _ x _ (by simp; omega) f2 (fun M3 g1 g2 => ?_)), fun q3 => ⟨by omega, by omega, fun q4 => c_X8_toldGives hd _ x tr (by omega) hT (fun M2 f1 f2 => ?_), fun q4 => c_X8_plainGives (by omega) _ x tr (by omega) hT (fun M2 f1 f2 => ?_)⟩⟩
    · rw [if_pos (show K = 7 by omega)] at h
      rw [ap1] at g2
      exact h M3 (FrM_tr f1 g1) g2
    · rw [if_neg (show ¬ K = 7 by omega), if_pos (show K = 6 by omega)] at h
      rw [show zw (rgT (b : Int) x).1 = (rgT (b : Int) x).1 from zw_zw _]
      exact h M2 f1 f2
    · rw [if_neg (show ¬ K = 7 by omega), if_neg (show ¬ K = 6 by omega)] at h
      rw [show zw (rgP (b : Int) x).1 = (rgP (b : Int) x).1 from zw_zw _]
      exact h M2 f1 f2
  · have q2 : K = 1 ∨ K = 4 := by unfold undR at q; omega
    rw [if_pos q2] at h
    refine c_X8_ran (by omega) 20 (by decide) tr (by omega) hT (fun M2 f1 f2 => c_X8_plainGives (by omega) _ x _ (by simp; omega) f2 (fun M3 g1 g2 => ?_))
    rw [ap1] at g2
    exact h M3 (FrM_tr f1 g1) g2
theorem c_X8_plainHolds {d : Nat} {M : zM} {Q : Int → zM → Prop} (hd : 5 ≤ d) (b K : Nat) (x : Int) (tr : List Int) (hl : tr.length < 870) (hK : KR M b K) (hT : TrR M tr) (h : ∀ M2 : zM, FrM M M2 → TrR M2 (tr ++ (rhP (b : Int) K x).2) → Q (rhP (b : Int) K x).1 M2) : Ev d mX8_plainHolds [.ref 1280, zI (b : Int), zI x] M Q := by
  obtain ⟨d, rfl, hdd⟩ := e_of 4 hd; replace hd := hdd
  refine e_X8_plainHolds _ _ (v_X8_plainHolds_0 _ _ (c_X8_ran (by omega) 10 (by decide) tr (by omega) hT (fun M2 f1 f2 => c_X8_giving hd b K x _ (by simp; omega) (KR_fr f1 hK) f2 (fun M3 g1 g2 => ?_))))
  rw [ap1] at g2
  exact h M3 (FrM_tr f1 g1) g2
theorem c_X8_soonHolds {d : Nat} {M : zM} {Q : Int → zM → Prop} (hd : 6 ≤ d) (b K : Nat) (x : Int) (tr : List Int) (hl : tr.length < 860) (hK : KR M b K) (hT : TrR M tr) (h : ∀ M2 : zM, FrM M M2 → TrR M2 (tr ++ (rhS (b : Int) K x).2) → Q (rhS (b : Int) K x).1 M2) : Ev d mX8_soonHolds [.ref 1280, zI (b : Int), zI x] M Q := by
  obtain ⟨d, rfl, hdd⟩ := e_of 5 hd; replace hd := hdd
  refine e_X8_soonHolds _ _ (v_X8_soonHolds_0 _ _ (c_X8_ran (by omega) 30 (by decide) tr (by omega) hT (fun M2 f1 f2 => c_X8_plainHolds hd b K x _ (by simp; omega) (KR_fr f1 hK) f2 (fun M3 g1 g2 => ?_))))
  rw [ap1] at g2
  exact h M3 (FrM_tr f1 g1) g2
theorem c_X8_plainKnows {d : Nat} {M : zM} {Q : Int → zM → Prop} (hd : 2 ≤ d) (b x : Int) (tr : List Int) (hl : tr.length < 900) (hT : TrR M tr) (h : ∀ M2 : zM, FrM M M2 → TrR M2 (tr ++ (rkP b x).2) → Q (rkP b x).1 M2) : Ev d mX8_plainKnows [.ref 1280, zI b, zI x] M Q := by
  obtain ⟨d, rfl, hdd⟩ := e_of 1 hd; replace hd := hdd
  exact e_X8_plainKnows _ _ (v_X8_plainKnows_0 _ _ (c_X8_ran hd 11 (by decide) tr (by omega) hT (fun M2 f1 f2 => h M2 f1 f2)))
theorem c_X8_wishKnows {d : Nat} {M : zM} {Q : Int → zM → Prop} (hd : 3 ≤ d) (b x : Int) (tr : List Int) (hl : tr.length < 890) (hT : TrR M tr) (h : ∀ M2 : zM, FrM M M2 → TrR M2 (tr ++ (rkW b x).2) → Q (rkW b x).1 M2) : Ev d mX8_wishKnows [.ref 1280, zI b, zI x] M Q := by
  obtain ⟨d, rfl, hdd⟩ := e_of 2 hd; replace hd := hdd
  refine e_X8_wishKnows _ _ (v_X8_wishKnows_0 _ _ (c_X8_ran (by omega) 40 (by decide) tr (by omega) hT (fun M2 f1 f2 => c_X8_plainKnows hd b x _ (by simp; omega) f2 (fun M3 g1 g2 => ?_))))
  rw [ap1] at g2
  exact h M3 (FrM_tr f1 g1) g2
theorem c_X8_knowing {d : Nat} {M : zM} {Q : Int → zM → Prop} (hd : 5 ≤ d) (b K : Nat) (x : Int) (tr : List Int) (hl : tr.length < 860) (hK : KR M b K) (hT : TrR M tr) (h : ∀ M2 : zM, FrM M M2 → TrR M2 (tr ++ (rK (b : Int) K x).2) → Q (rK (b : Int) K x).1 M2) : Ev d mX8_knowing [.ref 1280, zI (b : Int), zI x] M Q := by
  obtain ⟨d, rfl, hdd⟩ := e_of 4 hd; replace hd := hdd
  obtain ⟨k1, k2, k3⟩ := id hK
  refine e_X8_knowing _ _ (v_X8_knowing_0 _ _ ?_)
  rw [zw_n (a := b) (by omega), show ((b : Int)).toNat = b by omega, k2]
  unfold rK at h
  refine ⟨by omega, by omega, fun q => c_X8_ran (by omega) 60 (by decide) tr (by omega) hT (fun M2 f1 f2 => c_X8_wishKnows (by omega) _ x _ (by simp; omega) f2 (fun M3 g1 g2 => ?_)), fun q => ⟨by omega, by omega, fun q2 => c_X8_wishKnows (by omega) _ x tr (by omega) hT (fun M2 f1 f2 => ?_), fun q2 => c_X8_plainKnows (by omega) _ x tr (by omega) hT (fun M2 f1 f2 => ?_)⟩⟩
  · rw [if_pos (show K = 5 by omega)] at h
    rw [ap1] at g2
    refine c_X8_giving hd b K 2 _ (by simp [rkW, rkP]; omega) (KR_fr (FrM_tr f1 g1) hK) g2 (fun M4 j1 j2 => h M4 (FrM_tr f1 (FrM_tr g1 j1)) ?_)
    rw [List.append_assoc, List.cons_append] at j2
    exact j2
  · rw [if_neg (show ¬ K = 5 by omega), if_pos (show K = 3 by omega)] at h
    rw [show zw (rkW (b : Int) x).1 = (rkW (b : Int) x).1 from zw_zw _]
    exact h M2 f1 f2
  · rw [if_neg (show ¬ K = 5 by omega), if_neg (show ¬ K = 3 by omega)] at h
    rw [show zw (rkP (b : Int) x).1 = (rkP (b : Int) x).1 from zx_xor _ _]
    exact h M2 f1 f2
theorem c_X8_holding {d : Nat} {M : zM} {Q : Int → zM → Prop} (hd : 7 ≤ d) (b K : Nat) (x : Int) (tr : List Int) (hl : tr.length < 840) (hK : KR M b K) (hT : TrR M tr) (h : ∀ M2 : zM, FrM M M2 → TrR M2 (tr ++ (rH (b : Int) K x).2) → Q (rH (b : Int) K x).1 M2) : Ev d mX8_holding [.ref 1280, zI (b : Int), zI x] M Q := by
  obtain ⟨d, rfl, hdd⟩ := e_of 6 hd; replace hd := hdd
  obtain ⟨k1, k2, k3⟩ := id hK
  refine e_X8_holding _ _ (v_X8_holding_0 _ _ ?_)
  rw [zw_n (a := b) (by omega), show ((b : Int)).toNat = b by omega, k2]
  unfold rH at h
  refine ⟨by omega, by omega, c_X8_isUnder (by omega) _ _ (zw_n (by omega)) (by decide) (bz_br (fun q => ⟨by omega, by omega, ?_⟩) (fun q => ?_))⟩
  · have q2 : ¬ (K = 3 ∨ K = 5) := fun z => q (by unfold undR; omega)
    rw [if_neg q2] at h
    rw [k2]
    refine ⟨fun q3 => c_X8_ran (by omega) 80 (by decide) tr (by omega) hT (fun M2 f1 f2 => c_X8_plainHolds (by omega) b K x _ (by simp; omega) (KR_fr f1 hK) f2 (fun M3 g1 g2 => ?_)), fun q3 => ⟨by omega, by omega, fun q4 => c_X8_soonHolds (by omega) b K x tr (by omega) hK hT (fun M2 f1 f2 => ?_), fun q4 => c_X8_plainHolds (by omega) b K x tr (by omega) hK hT (fun M2 f1 f2 => ?_)⟩⟩
    · rw [if_pos (show K = 7 by omega)] at h
      rw [ap1] at g2
      have l4 := rhP_l (b : Int) K x
      refine c_X8_knowing (by omega) b K 2 _ (by simp; omega) (KR_fr (FrM_tr f1 g1) hK) g2 (fun M4 j1 j2 => h M4 (FrM_tr f1 (FrM_tr g1 j1)) ?_)
      rw [List.append_assoc, List.cons_append] at j2
      exact j2
    · rw [if_neg (show ¬ K = 7 by omega), if_pos (show K = 2 by omega)] at h
      rw [show zw (rhS (b : Int) K x).1 = (rhS (b : Int) K x).1 from zw_zw _]
      exact h M2 f1 f2
    · rw [if_neg (show ¬ K = 7 by omega), if_neg (show ¬ K = 2 by omega)] at h
      rw [show zw (rhP (b : Int) K x).1 = (rhP (b : Int) K x).1 from zw_zw _]
      exact h M2 f1 f2
  · have q2 : K = 3 ∨ K = 5 := by unfold undR at q; omega
    rw [if_pos q2] at h
    refine c_X8_ran (by omega) 41 (by decide) tr (by omega) hT (fun M2 f1 f2 => c_X8_soonHolds (by omega) b K (x + 1) _ (by simp; omega) (KR_fr f1 hK) f2 (fun M3 g1 g2 => ?_))
    rw [ap1] at g2
    exact h M3 (FrM_tr f1 g1) g2
theorem c_X8_plainTells {d : Nat} {M : zM} {Q : Int → zM → Prop} (hd : 8 ≤ d) (b K : Nat) (x : Int) (tr : List Int) (hl : tr.length < 820) (hK : KR M b K) (hT : TrR M tr) (h : ∀ M2 : zM, FrM M M2 → TrR M2 (tr ++ (rtP (b : Int) K x).2) → Q (rtP (b : Int) K x).1 M2) : Ev d mX8_plainTells [.ref 1280, zI (b : Int), zI x] M Q := by
  obtain ⟨d, rfl, hdd⟩ := e_of 7 hd; replace hd := hdd
  have l4 := (rH_b (b : Int) K x).2
  refine e_X8_plainTells _ _ (v_X8_plainTells_0 _ _ (c_X8_ran (by omega) 2 (by decide) tr (by omega) hT (fun M2 f1 f2 => c_X8_holding hd b K x _ (by simp; omega) (KR_fr f1 hK) f2 (fun M3 g1 g2 => ?_))))
  rw [ap1] at g2
  refine c_X8_knowing (by omega) b K 1 _ (by simp; omega) (KR_fr (FrM_tr f1 g1) hK) g2 (fun M4 j1 j2 => h M4 (FrM_tr f1 (FrM_tr g1 j1)) ?_)
  rw [List.append_assoc, List.cons_append] at j2
  exact j2
theorem c_X8_telling {d : Nat} {M : zM} {Q : Int → zM → Prop} (hd : 9 ≤ d) (b K : Nat) (x : Int) (tr : List Int) (hl : tr.length < 800) (hK : KR M b K) (hT : TrR M tr) (h : ∀ M2 : zM, FrM M M2 → TrR M2 (tr ++ (rT (b : Int) K x).2) → Q (rT (b : Int) K x).1 M2) : Ev d mX8_telling [.ref 1280, zI (b : Int), zI x] M Q := by
  obtain ⟨d, rfl, hdd⟩ := e_of 8 hd; replace hd := hdd
  obtain ⟨k1, k2, k3⟩ := id hK
  refine e_X8_telling _ _ (v_X8_telling_0 _ _ ?_)
  rw [zw_n (a := b) (by omega), show ((b : Int)).toNat = b by omega, k2]
  unfold rT at h
  refine ⟨by omega, by omega, fun q => c_X8_ran (by omega) 50 (by decide) tr (by omega) hT (fun M2 f1 f2 => c_X8_plainTells hd b K x _ (by simp; omega) (KR_fr f1 hK) f2 (fun M3 g1 g2 => ?_)), fun q => ⟨by omega, by omega, fun q2 => c_X8_ran (by omega) 61 (by decide) tr (by omega) hT (fun M2 f1 f2 => c_X8_plainTells hd b K x _ (by simp; omega) (KR_fr f1 hK) f2 (fun M3 g1 g2 => ?_)), fun q2 => c_X8_plainTells hd b K x tr (by omega) hK hT (fun M2 f1 f2 => ?_)⟩⟩
  · rw [if_pos (show K = 4 by omega)] at h
    rw [ap1] at g2
    exact h M3 (FrM_tr f1 g1) g2
  · rw [if_neg (show ¬ K = 4 by omega), if_pos (show K = 5 by omega)] at h
    rw [ap1] at g2
    exact h M3 (FrM_tr f1 g1) g2
  · rw [if_neg (show ¬ K = 4 by omega), if_neg (show ¬ K = 5 by omega)] at h
    rw [(rtP_b (b : Int) K x).1]
    exact h M2 f1 f2
theorem ev_rA (b : Int) (x : Int) : ∀ (K a : Nat), K < 8 → a < 4 → evF b K 6 K a x = some (rA b K a x)
  | 0, 0, _, _ => rfl
  | 0, 1, _, _ => rfl
  | 0, 2, _, _ => rfl
  | 0, 3, _, _ => rfl
  | 1, 0, _, _ => rfl
  | 1, 1, _, _ => rfl
  | 1, 2, _, _ => rfl
  | 1, 3, _, _ => rfl
  | 2, 0, _, _ => rfl
  | 2, 1, _, _ => rfl
  | 2, 2, _, _ => rfl
  | 2, 3, _, _ => rfl
  | 3, 0, _, _ => rfl
  | 3, 1, _, _ => rfl
  | 3, 2, _, _ => rfl
  | 3, 3, _, _ => rfl
  | 4, 0, _, _ => rfl
  | 4, 1, _, _ => rfl
  | 4, 2, _, _ => rfl
  | 4, 3, _, _ => rfl
  | 5, 0, _, _ => rfl
  | 5, 1, _, _ => rfl
  | 5, 2, _, _ => rfl
  | 5, 3, _, _ => rfl
  | 6, 0, _, _ => rfl
  | 6, 1, _, _ => rfl
  | 6, 2, _, _ => rfl
  | 6, 3, _, _ => rfl
  | 7, 0, _, _ => rfl
  | 7, 1, _, _ => rfl
  | 7, 2, _, _ => rfl
  | 7, 3, _, _ => rfl
  | K + 8, _, h, _ => absurd h (by omega)
  | _, a + 4, _, h => absurd h (by omega)
