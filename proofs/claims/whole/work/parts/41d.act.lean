/-! act -/
theorem Inv_act {M M2 : zM} (hF : ∀ i j, cInv i j = true → i ≠ 515 → i ≠ 1323 → ¬ (i = 512 ∧ j = 3) → ¬ (i = 1280 ∧ j = 41) → zg M2 i j = zg M i j) (hZ : ∀ i j, zh M2 i j = zh M i j) (hR : IR M2) (hI : Inv M) : Inv M2 := by
  obtain ⟨h1, h2, h3, h4, h5, h6, h7, h8, h9, h10, h11, h12, h13, h14⟩ := hI
  refine ⟨IP_fr (fun i j h => hF i j ?_ ?_ ?_ ?_ ?_) h1, ID_fr (fun i j h => hF i j ?_ ?_ ?_ ?_ ?_) h2, IN_fr (fun i j h => hF i j ?_ ?_ ?_ ?_ ?_) h3, IM_fr (fun i j h => hF i j ?_ ?_ ?_ ?_ ?_) h4, IH_fr (fun i j h => hF i j ?_ ?_ ?_ ?_ ?_) h5, IW_fr (fun i j h => hF i j ?_ ?_ ?_ ?_ ?_) h6, IF_fr (fun i j h => hF i j ?_ ?_ ?_ ?_ ?_) h7, IC_fr (fun i j h => hF i j ?_ ?_ ?_ ?_ ?_) h8, II_fr (fun i j h => hF i j ?_ ?_ ?_ ?_ ?_) h9, IT_fr (fun i j h => hF i j ?_ ?_ ?_ ?_ ?_) h10, IL_fr (fun i j h => hF i j ?_ ?_ ?_ ?_ ?_) h11, IG_fr (fun i j h => hF i j ?_ ?_ ?_ ?_ ?_) h12, hR, IS_fr (fun i j h => hF i j ?_ ?_ ?_ ?_ ?_) (fun i j _ => hZ i j) h14⟩ <;>
  first
  | (simp only [cInv, h, Bool.or_true, Bool.true_or]; done)
  | (simp [cIP, cID, cIN, cIM, cIH, cIW, cIF, cIC, cII, cIT, cIL, cIG, cIR, cIS] at h; omega)
theorem p_act {d : Nat} {M : zM} (hd : 24 ≤ d) (v w x : Int) (hv : zw v = v) (hw : zw w = w) (hx : zw x = x) (hI : Inv M) : Pr d mX7_act mX8_act [zI v, zI w, zI x] M := by
  obtain ⟨nb, n1, n2, n3, n4⟩ := hI.2.2.2.2.2.2.2.2.2.2.2.1
  obtain ⟨d, rfl, hdd⟩ := e_of 23 hd; replace hd := hdd
  obtain ⟨d2, rfl, hdd⟩ := e_of 22 (show 22 + 1 ≤ d by omega)
  have R : ∀ (r : Int) (M1 : zM) (tr : List Int), (∀ i j, i ≠ 515 → ¬ (i = 512 ∧ (j = 3 ∨ j = 4)) → zg M1 i j = zg M i j) → (∀ i j, zh M1 i j = zh M i j) → TrC M1 tr → (¬ ((0 ≤ v ∧ v < (nb : Int)) ∧ 0 ≤ w ∧ w < 4) → tr = [] ∧ r = 0) → (∀ b K a : Nat, v = (b : Int) → b < nb → zg M 1321 b = (K : Int) → K < 8 → w = (a : Int) → a < 4 → tr = (rA (b : Int) K a x).2 ∧ r = (rA (b : Int) K a x).1) → Ev (d2 + 1 + 1) mX8_act [.ref 1280, zI v, zI w, zI x] M1 (fun r2 M2 => r = r2 ∧ Inv M2) := by
    intro r M1 tr f1 f2 hT hb hg
    refine e_X8_act _ _ _ (v_X8_act_0 _ _ _ ?_)
    rintro _ rfl
    have t0 : TrR (zs M1 1280 41 0) [] := ⟨by rw [zg_zs1, zq_0]; rfl, fun i hi => absurd hi (by simp)⟩
    have z1 : ∀ i j, ¬ (i = 1280 ∧ j = 41) → zg (zs M1 1280 41 0) i j = zg M1 i j := fun i j q => by rw [zg_zs, if_neg q]
    have fin : ∀ (M3 : zM), FrM (zs M1 1280 41 0) M3 → TrR M3 tr → tr.length ≤ 19 → Inv M3 := by
      intro M3 g1 g2 g3
      refine Inv_act (fun i j c a1 a2 a3 a4 => ?_) (fun i j => by rw [g1.2, zh_zs, f2]) ?_ hI
      · rw [g1.1 i j a2 a4, z1 i j a4]
        by_cases y : i = 512 ∧ j = 4
        · obtain ⟨rfl, rfl⟩ := y
          exact absurd c (by have : cInv 512 4 = false := rfl; rw [this]; decide)
        · exact f1 i j a1 (by omega)
      · have k5 : ∀ i j, i < 1280 → zg M3 i j = zg M1 i j := fun i j q => by rw [g1.1 i j (by omega) (by omega), z1 i j (by omega)]
        refine ⟨tr.length, by omega, by rw [k5 _ _ (by omega)]; exact hT.1, g2.1, fun i h1 h2 => ?_⟩
        rw [k5 _ _ (by omega), hT.2 i h1 h2, g2.2 i h1 h2]
    refine c_X8_isBody (by omega) v (by rw [z1 _ _ (by omega), f1 _ _ (by omega) (by omega)]; omega) ?_
    rw [hv, z1 1280 39 (by omega), f1 1280 39 (by omega) (by omega), n3]
    refine bz_br (fun q => ?_) (fun q => c_X8_in (by omega) _ _ _ ?_)
    · obtain ⟨e1, e2⟩ := hb (by omega)
      refine ⟨e2, fin _ (FrM_rf _) (by rw [e1]; exact t0) (by rw [e1]; simp)⟩
    · rw [hw, zq_0, zq_3]
      refine bz_br (fun q2 => ?_) (fun q2 => ?_)
      · obtain ⟨e1, e2⟩ := hb (by omega)
        refine ⟨e2, fin _ (FrM_rf _) (by rw [e1]; exact t0) (by rw [e1]; simp)⟩
      · obtain ⟨b, hbb⟩ : ∃ b : Nat, v = (b : Int) := ⟨v.toNat, by omega⟩
        obtain ⟨a, haa⟩ : ∃ a : Nat, w = (a : Int) := ⟨w.toNat, by omega⟩
        have k4 := n4 b (by omega)
        obtain ⟨K, hK⟩ : ∃ K : Nat, zg M 1321 b = (K : Int) := ⟨(zg M 1321 b).toNat, by omega⟩
        obtain ⟨e1, e2⟩ := hg b K a hbb (by omega) hK (by omega) haa (by omega)
        have bd := rA_b (b : Int) K a x
        have kr : KR (zs M1 1280 41 0) b K := ⟨by omega, by rw [z1 _ _ (by omega), f1 _ _ (by omega) (by omega)]; exact hK, by omega⟩
        have last : ∀ (M3 : zM), FrM (zs M1 1280 41 0) M3 → TrR M3 ([] ++ (rA (b : Int) K a x).2) → r = zw (rA (b : Int) K a x).1 ∧ Inv M3 := by
          intro M3 g1 g2
          rw [List.nil_append, ← e1] at g2
          exact ⟨by rw [bd.1]; exact e2, fin M3 g1 g2 (by rw [e1]; exact bd.2)⟩
        rw [hbb]
        unfold rA at last
        refine ⟨fun y => ?_, fun y => ⟨fun y2 => ?_, fun y2 => ⟨fun y3 => ?_, fun y3 => ?_⟩⟩⟩
        · rw [if_pos (show a = 0 by omega)] at last
          exact c_X8_giving (by omega) b K x [] (by simp) kr t0 (fun M3 g1 g2 => last M3 g1 g2)
        · rw [if_neg (show ¬ a = 0 by omega), if_pos (show a = 1 by omega)] at last
          exact c_X8_holding (by omega) b K x [] (by simp) kr t0 (fun M3 g1 g2 => last M3 g1 g2)
        · rw [if_neg (show ¬ a = 0 by omega), if_neg (show ¬ a = 1 by omega), if_pos (show a = 2 by omega)] at last
          exact c_X8_knowing (by omega) b K x [] (by simp) kr t0 (fun M3 g1 g2 => last M3 g1 g2)
        · rw [if_neg (show ¬ a = 0 by omega), if_neg (show ¬ a = 1 by omega), if_neg (show ¬ a = 2 by omega)] at last
          exact c_X8_telling (by omega) b K x [] (by simp) kr t0 (fun M3 g1 g2 => last M3 g1 g2)
  refine e_X7_act _ _ _ (v_X7_act_0 _ _ _ (e_X1_perform _ _ _ (v_X1_perform_0 _ _ _ ?_)))
  rintro _ rfl
  have z1 : ∀ i j, ¬ (i = 512 ∧ j = 3) → zg (zs M 512 3 0) i j = zg M i j := fun i j q => by rw [zg_zs, if_neg q]
  have t0 : TrC (zs M 512 3 0) [] := ⟨by rw [zg_zs1, zq_0]; rfl, fun i hi => absurd hi (by simp)⟩
  have bad : ¬ ((0 ≤ v ∧ v < (nb : Int)) ∧ 0 ≤ w ∧ w < 4) → Ev (d2 + 1 + 1) mX8_act [.ref 1280, zI v, zI w, zI x] (zs M 512 3 0) (fun r2 M2 => (0 : Int) = r2 ∧ Inv M2) := fun q => R 0 _ [] (fun i j _ q2 => z1 i j (by omega)) (fun _ _ => rfl) t0 (fun _ => ⟨rfl, rfl⟩) (fun b K a e1 e2 e3 e4 e5 e6 => absurd (by omega) q)
  refine c_X1_has (by omega) v ?_
  rw [hv, z1 512 1 (by omega), n2, hw]
  refine bz_br (fun q => bad (by omega)) (fun q => ⟨fun q2 => bad (by omega), fun q2 => ⟨fun q3 => ?_, fun q3 => bad (by omega)⟩⟩)
  rintro _ rfl
  obtain ⟨b, hbb⟩ : ∃ b : Nat, v = (b : Int) := ⟨v.toNat, by omega⟩
  obtain ⟨a, haa⟩ : ∃ a : Nat, w = (a : Int) := ⟨w.toNat, by omega⟩
  have k4 := n4 b (by omega)
  obtain ⟨K, hK⟩ : ∃ K : Nat, zg M 1321 b = (K : Int) := ⟨(zg M 1321 b).toNat, by omega⟩
  have bd := rA_b (b : Int) K a x
  have z2 : ∀ i j, ¬ (i = 512 ∧ (j = 3 ∨ j = 4)) → zg (zs (zs M 512 3 0) 512 4 v) i j = zg M i j := fun i j q => by rw [zg_zs, if_neg (by omega), z1 i j (by omega)]
  have pc : PC (zs (zs M 512 3 0) 512 4 v) b K := ⟨by rw [zg_zs1, hv, hbb], by omega, by rw [z2 _ _ (by omega)]; rw [k4.1]; exact hK, by omega⟩
  have t1 : TrC (zs (zs M 512 3 0) 512 4 v) [] := ⟨by rw [zg_zsj _ _ _ _ (by omega)]; exact t0.1, fun i hi => absurd hi (by simp)⟩
  have go := ow_ok (rf_ok 6) a x 0 d2 _ [] _ (fun r5 M6 => Ev (d2 + 1 + 1) mX8_act [.ref 1280, zI v, zI w, zI x] M6 (fun r2 M2 => zw (zw r5) = r2 ∧ Inv M2)) (ev_rA (b : Int) x K a (by omega) (by omega)) (by omega) (by omega) (by omega) (by simp) pc t1 (fun M2 f1 f2 f3 => ?_)
  · rw [← haa] at go
    exact go
  · rw [bd.1, bd.1]
    refine R _ M2 (rA (b : Int) K a x).2 (fun i j q1 q4 => by rw [f1.1 i j q1 (by omega), z2 i j q4]) (fun i j => by rw [f1.2]; rfl) (by rw [List.nil_append] at f2; exact f2) (fun z => absurd (by omega) z) (fun b2 K2 a2 e1 e2 e3 e4 e5 e6 => ?_)
    rw [show b2 = b by omega, show a2 = a by omega]
    rw [show b2 = b by omega, hK] at e3
    rw [show K2 = K by omega]
    exact ⟨rfl, rfl⟩
