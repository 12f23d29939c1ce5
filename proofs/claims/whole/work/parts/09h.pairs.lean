/-! mend: the two calls -/
theorem c_X8_mend {d : Nat} {M : zM} {Q : Int → zM → Prop} (hd : 4 ≤ d) (p w v : Int) (hp : zw p = p) (hw : zw w = w) (hv : zw v = v) (h0 : 0 ≤ zg M 1280 1) (hn : zg M 1280 1 ≤ 12) (hb : ∀ x : Nat, (x : Int) < zg M 1280 1 → 0 ≤ zg M 1283 x ∧ zg M 1283 x < 100)
    (hf : ¬ ((w = 0 ∧ 0 ≤ p ∧ p < zg M 1280 1 ∧ zg M 1283 p.toNat < v ∧ v ≤ 100) ∨ (w = 1 ∧ 0 ≤ p ∧ p < 12 ∧ 0 ≤ v ∧ v ≤ 9)) → Q (-1) M) (ht : ((w = 0 ∧ 0 ≤ p ∧ p < zg M 1280 1 ∧ zg M 1283 p.toNat < v ∧ v ≤ 100) ∨ (w = 1 ∧ 0 ≤ p ∧ p < 12 ∧ 0 ≤ v ∧ v ≤ 9)) → Ev (d - 1) mX8_changes [.ref 1280, zI w, zI p, zI v] M (fun r M2 => Q (zw r) M2)) : Ev d mX8_mend [.ref 1280, zI p, zI w, zI v] M Q := by
  obtain ⟨d, rfl, -⟩ := e_of 3 hd
  rw [Nat.add_sub_cancel] at ht
  refine e_X8_mend p w v (v_X8_mend_0 p w v ⟨fun q => ?_, fun q => ⟨fun q1 => ?_, fun q1 => ?_⟩⟩)
  · rw [hw] at q
    subst q
    refine c_X8_isPerson (by omega) p h0 ?_
    rw [hp]
    refine bz_br (fun z => hf (by omega)) (fun z => ⟨by omega, by omega, c_X8_in (by omega) _ _ _ ?_⟩)
    have hbp := hb p.toNat (by omega)
    have eb : zw (zg M 1283 p.toNat + 1) = zg M 1283 p.toNat + 1 := zw_of (by omega) (by omega)
    rw [hv, zq_100, eb]
    exact bz_br (fun z2 => hf (by omega)) (fun z2 => ht (by omega))
  · rw [hw] at q q1
    subst q1
    refine c_X8_isName (by omega) p ?_
    rw [hp]
    refine bz_br (fun z => hf (by omega)) (fun z => c_X8_in (by omega) _ _ _ ?_)
    rw [hv, zq_0, zq_9]
    exact bz_br (fun z2 => hf (by omega)) (fun z2 => ht (by omega))
  · rw [hw] at q q1
    exact hf (by omega)
theorem p_mend {d : Nat} {M : zM} (hd : 6 ≤ d) (p w v : Int) (hp : zw p = p) (hw : zw w = w) (hv : zw v = v) (hI : Inv M) : Pr d mX7_mend mX8_mend [zI p, zI w, zI v] M := by
  obtain ⟨n, n1, n2, n3, n4, -⟩ := hI.1
  have hD := hI.2.1
  have hW := hI.2.2.2.2.2.1
  obtain ⟨dn, kp, a1, a2, a3, a4, a5, a6, a7⟩ := hI.2.2.2.2.2.2.2.1
  have hb : ∀ x : Nat, (x : Int) < zg M 192 5 → 0 ≤ zg M 194 x ∧ zg M 194 x < 100 := fun x hx => by have h := n4 x (by omega)
                                                                                                    rw [h.1]; exact h.2
  have hb2 : ∀ x : Nat, (x : Int) < zg M 1280 1 → 0 ≤ zg M 1283 x ∧ zg M 1283 x < 100 := fun x hx => (n4 x (by omega)).2
  obtain ⟨d, rfl, -⟩ := e_of 5 hd
  refine e_X7_mend p w v (v_X7_mend_0 p w v (c_X7_mayMend (by omega) p w v hp hw hv (by omega) hb ?_))
  refine bz_br (fun q => ?_) (fun q => ?_)
  · refine c_X8_mend (by omega) p w v hp hw hv (by omega) (by omega) hb2 (fun _ => ⟨rfl, hI⟩) (fun g => absurd ?_ q)
    rcases g with g | g
    · have := (n4 p.toNat (by omega)).1
      left; omega
    · right; exact g
  · rw [hw]
    refine ⟨fun q0 => ?_, fun q0 => ?_⟩
    · subst q0
      have q1 : 0 ≤ p ∧ p < zg M 192 5 ∧ zg M 194 p.toNat < v ∧ v ≤ 100 := by omega
      have e194 := (n4 p.toNat (by omega)).1
      have hDp := hD p.toNat (by omega)
      refine v_X7_mend_33 p 0 v 195 (a4_2 ob_192) ?_
      rw [hp, hv]
      refine ⟨by omega, by omega, fun q2 => ?_, fun q2 => ⟨by omega, by omega, ?_⟩⟩
      · refine c_X8_mend (by omega) p 0 v hp hw hv (by omega) (by omega) hb2 (fun g => absurd (by omega) g) (fun _ => ?_)
        refine c_X8_changes (by omega) 0 p v hw hp hv (by omega) (by omega) dn a5 (by omega) (fun _ => ⟨by rw [hv, q2], hI⟩) (fun z => absurd (show zg M 1284 p.toNat = v by omega) z) (fun z => absurd (show zg M 1284 p.toNat = v by omega) z)
      · rintro _ rfl
        have eN : ∀ a b, a ≠ 195 → zg (zs M 195 p.toNat v) a b = zg M a b := fun a b h => zg_zsi _ _ _ _ h
        refine c_X0_add (by omega) 0 p _ v dn (by rw [eN _ _ (by omega)]; exact a3) (by omega) (fun h40 => ?_) (fun h40 => ?_)
        · have e : ∀ a b, (a = 1280 ∨ a = 1283 ∨ a = 1284) → zg (addC (zs M 195 p.toNat v) dn 0 p (zg M 195 p.toNat) v) a b = zg M a b := by
            intro a b h
            simp only [addC, zg_zs]
            repeat (rw [if_neg (by omega)])
          refine c_X8_mend (by omega) p 0 v hp hw hv (by rw [e _ _ (by omega)]; omega) (by rw [e _ _ (by omega)]; omega) (fun x hx => by rw [e _ _ (by omega)] at hx; rw [e _ _ (by omega)]; exact hb2 x hx) (fun g => absurd (by rw [e _ _ (by omega), e _ _ (by omega)]; omega) g) (fun _ => ?_)
          refine c_X8_changes (by omega) 0 p v hw hp hv (by omega) (by omega) dn (by rw [e _ _ (by omega)]; exact a5) (by omega) (fun z => ?_) (fun z _ => ?_) (fun z h => absurd h (by omega))
          · rw [show arR 0 = 1284 from rfl, e _ _ (by omega)] at z; omega
          · rw [show arR 0 = 1284 from rfl, e _ _ (by omega), zw_zg]
            exact ⟨hDp.1, f_mend0 p v hp hv (by omega) (by omega) (by omega) (by omega) (by omega) hDp.1 dn a5 h40 hI⟩
        · subst h40
          have e : ∀ a b, (a = 1280 ∨ a = 1283 ∨ a = 1284) → zg (addC (dropC (zs M 195 p.toNat v)) 39 0 p (zg M 195 p.toNat) v) a b = zg M a b := by
            intro a b h
            simp only [addC, dropC, zg_zs, zg_zci]
            repeat (rw [if_neg (by omega)])
          refine c_X8_mend (by omega) p 0 v hp hw hv (by rw [e _ _ (by omega)]; omega) (by rw [e _ _ (by omega)]; omega) (fun x hx => by rw [e _ _ (by omega)] at hx; rw [e _ _ (by omega)]; exact hb2 x hx) (fun g => absurd (by rw [e _ _ (by omega), e _ _ (by omega)]; omega) g) (fun _ => ?_)
          refine c_X8_changes (by omega) 0 p v hw hp hv (by omega) (by omega) 40 (by rw [e _ _ (by omega)]; exact a5) (by omega) (fun z => ?_) (fun z h => absurd h (by omega)) (fun z _ N hN => ?_)
          · rw [show arR 0 = 1284 from rfl, e _ _ (by omega)] at z; omega
          · rw [show arR 0 = 1284 from rfl, e _ _ (by omega), zw_zg]
            exact ⟨hDp.1, g_mend0 p v hp hv (by omega) (by omega) (by omega) (by omega) (by omega) hDp.1 a5 hN hI⟩
    · have q1 : w = 1 ∧ 0 ≤ p ∧ p < 12 ∧ 0 ≤ v ∧ v ≤ 9 := by omega
      obtain ⟨rfl, q1⟩ := q1
      have hWp := hW p.toNat (by omega)
      refine v_X7_mend_33 p 1 v 205 (a4_12 ob_192) ?_
      rw [hp, hv]
      refine ⟨by omega, by omega, fun q2 => ?_, fun q2 => ⟨by omega, by omega, ?_⟩⟩
      · refine c_X8_mend (by omega) p 1 v hp hw hv (by omega) (by omega) hb2 (fun g => absurd (by omega) g) (fun _ => ?_)
        refine c_X8_changes (by omega) 1 p v hw hp hv (by omega) (by omega) dn a5 (by omega) (fun _ => ⟨by rw [hv, q2], hI⟩) (fun z => absurd (show zg M 1291 p.toNat = v by omega) z) (fun z => absurd (show zg M 1291 p.toNat = v by omega) z)
      · rintro _ rfl
        have eN : ∀ a b, a ≠ 205 → zg (zs M 205 p.toNat v) a b = zg M a b := fun a b h => zg_zsi _ _ _ _ h
        refine c_X0_add (by omega) 1 p _ v dn (by rw [eN _ _ (by omega)]; exact a3) (by omega) (fun h40 => ?_) (fun h40 => ?_)
        · have e : ∀ a b, (a = 1280 ∨ a = 1283 ∨ a = 1291) → zg (addC (zs M 205 p.toNat v) dn 1 p (zg M 205 p.toNat) v) a b = zg M a b := by
            intro a b h
            simp only [addC, zg_zs]
            repeat (rw [if_neg (by omega)])
          refine c_X8_mend (by omega) p 1 v hp hw hv (by rw [e _ _ (by omega)]; omega) (by rw [e _ _ (by omega)]; omega) (fun x hx => by rw [e _ _ (by omega)] at hx; rw [e _ _ (by omega)]; exact hb2 x hx) (fun g => absurd (by omega) g) (fun _ => ?_)
          refine c_X8_changes (by omega) 1 p v hw hp hv (by omega) (by omega) dn (by rw [e _ _ (by omega)]; exact a5) (by omega) (fun z => ?_) (fun z _ => ?_) (fun z h => absurd h (by omega))
          · rw [show arR 1 = 1291 from rfl, e _ _ (by omega)] at z; omega
          · rw [show arR 1 = 1291 from rfl, e _ _ (by omega), zw_zg]
            exact ⟨hWp.1, f_mend1 p v hp hv (by omega) (by omega) (by omega) (by omega) (by omega) hWp.1 dn a5 h40 hI⟩
        · subst h40
          have e : ∀ a b, (a = 1280 ∨ a = 1283 ∨ a = 1291) → zg (addC (dropC (zs M 205 p.toNat v)) 39 1 p (zg M 205 p.toNat) v) a b = zg M a b := by
            intro a b h
            simp only [addC, dropC, zg_zs, zg_zci]
            repeat (rw [if_neg (by omega)])
          refine c_X8_mend (by omega) p 1 v hp hw hv (by rw [e _ _ (by omega)]; omega) (by rw [e _ _ (by omega)]; omega) (fun x hx => by rw [e _ _ (by omega)] at hx; rw [e _ _ (by omega)]; exact hb2 x hx) (fun g => absurd (by omega) g) (fun _ => ?_)
          refine c_X8_changes (by omega) 1 p v hw hp hv (by omega) (by omega) 40 (by rw [e _ _ (by omega)]; exact a5) (by omega) (fun z => ?_) (fun z h => absurd h (by omega)) (fun z _ N hN => ?_)
          · rw [show arR 1 = 1291 from rfl, e _ _ (by omega)] at z; omega
          · rw [show arR 1 = 1291 from rfl, e _ _ (by omega), zw_zg]
            exact ⟨hWp.1, g_mend1 p v hp hv (by omega) (by omega) (by omega) (by omega) (by omega) hWp.1 a5 hN hI⟩
