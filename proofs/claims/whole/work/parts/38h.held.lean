/-! held, free, most, freed -/
def tl (P : Nat → Bool) : Nat → Nat → Int
  | 0, _ => -2
  | x + 1, t => if P t = true then tl P x (t + 1) else (t : Int)
theorem hdBits_bit {V : zV} {LS : Option (List lwL)} {K : Nat → Nat} {n a : Nat} {y : Int} (ha : a < 12) : (hdBits V LS K n y).testBit a = hdA V LS K n y a := by
  unfold hdBits; rw [bs_bit]; simp [ha]
theorem hdBits_lt {V : zV} {LS : Option (List lwL)} {K : Nat → Nat} {n : Nat} {y : Int} : hdBits V LS K n y < 4096 := bs_12 (Nat.le_refl 12)
/-- a name is held in a year -/
def heldY (V : zV) (LS : Option (List lwL)) (n k a : Nat) (t : Nat) : Bool := hdA V LS (kAll V k (t : Int)) n (t : Int) a
theorem l_X7_till {d : Nat} {M0 : zM} {Q : Int → zM → Prop} (hd : 5 ≤ d) (n k : Nat) (V : zV) (hV : Vok n k V) (hC : CV 192 n k V M0) (LS : Option (List lwL)) (hL : LC M0 LS) (a : Nat) (ha : a < 12) : ∀ (x t : Nat) (M : zM), t + x = 100 → FrC M0 M → (∀ M2 : zM, FrC M0 M2 → Q (tl (heldY V LS n k a) x t) M2) → wp (Ev d) 7 cX7_heldTill (some .int) Q 2 [some (.ref 64), some (zI (a : Int)), none, some (zI (t : Int))] [] M
  | 0, t, M, e, f, h => by
    refine v_X7_heldTill_2 _ _ ?_
    rw [zw_n (a := t) (by omega)]
    exact ⟨fun z => absurd z (by omega), fun _ => h M f⟩
  | x + 1, t, M, e, f, h => by
    refine v_X7_heldTill_2 _ _ ?_
    rw [zw_n (a := t) (by omega)]
    refine ⟨fun _ => c_X4_heldIn hd 192 n k V ob_192 (Or.inl rfl) hV (CV_C (Or.inl rfl) f hC) LS (LC_C f hL) (t : Int) (by omega) (by omega) (fun M2 f2 => ?_), fun z => absurd (by omega) z⟩
    have lt := hdBits_lt (V := V) (LS := LS) (K := kAll V k (t : Int)) (n := n) (y := (t : Int))
    rw [zb_bit (by omega) (by omega), bz_0, hdBits_bit ha]
    refine ⟨fun q => ?_, fun q => ?_⟩
    · have hh := h M2 (FrC_tr f f2)
      rw [tl, if_neg (show ¬ heldY V LS n k a t = true from q)] at hh
      exact hh
    · rw [show (t : Int) + 1 = ((t + 1 : Nat) : Int) by omega]
      refine l_X7_till hd n k V hV hC LS hL a ha x (t + 1) M2 (by omega) (FrC_tr f f2) (fun M3 f3 => ?_)
      have hh := h M3 f3
      rw [tl, if_pos (show heldY V LS n k a t = true from Classical.not_not.mp q)] at hh
      exact hh
theorem l_X8_till {d : Nat} {M0 : zM} {Q : Int → zM → Prop} (hd : 7 ≤ d) (n k : Nat) (V : zV) (hV : Vok n k V) (hR : RV n k V (evb n) M0) (LS : Option (List lwL)) (hL : LR M0 LS) (a : Nat) (ha : a < 12) : ∀ (x t : Nat) (M : zM), t + x = 100 → FrR M0 M → (∀ M2 : zM, FrR M0 M2 → Q (tl (heldY V LS n k a) x t) M2) → wp (Ev d) 8 cX8_held (some .int) Q 37 [some (.ref 1280), some (zI (a : Int)), none, none, some (zI (t : Int))] [] M
  | 0, t, M, e, f, h => by
    refine v_X8_held_37 _ _ ?_
    rw [zw_n (a := t) (by omega)]
    exact ⟨fun _ => h M f, fun z => absurd (by omega) z⟩
  | x + 1, t, M, e, f, h => by
    refine v_X8_held_37 _ _ ?_
    rw [zw_n (a := t) (by omega)]
    refine ⟨fun z => absurd z (by omega), fun _ => c_X8_findKnown (by omega) n k (evb n) V hV (RV_R f hR) (t : Int) (zw_n (by omega)) 0 (by omega) (fun M2 f1 f2 => ?_)⟩
    have f3 := FrR_tr f (FrF_R f1)
    refine c_X8_everybody (by omega) n hV.1 (RV_R f3 hR).1 (c_X8_isHeld hd n k (evb n) V hV (RV_R f3 hR) (evb_lt hV.1) LS (LR_R f3 hL) (kAll V k (t : Int)) f2 (kup_lt hV k (by omega)) a ha (t : Int) (by omega) (by omega) (fun M3 f4 => bz_br (fun q => ?_) (fun q => ?_)))
    · have hh := h M3 (FrR_tr f3 (FrQ_R f4))
      rw [tl, if_neg (show ¬ heldY V LS n k a t = true from q)] at hh
      exact hh
    · rw [show (t : Int) + 1 = ((t + 1 : Nat) : Int) by omega]
      refine l_X8_till hd n k V hV hR LS hL a ha x (t + 1) M3 (by omega) (FrR_tr f3 (FrQ_R f4)) (fun M4 f5 => ?_)
      have hh := h M4 f5
      rw [tl, if_pos (show heldY V LS n k a t = true from q)] at hh
      exact hh
theorem tl_w (P : Nat → Bool) : ∀ x t, t + x = 100 → zw (tl P x t) = tl P x t
  | 0, t, _ => by rw [tl]; decide
  | x + 1, t, h => by
    rw [tl]
    split
    · exact tl_w P x (t + 1) (by omega)
    · exact zw_n (by omega)
theorem B1 {M M1 : zM} (fa : FrB M M1) (j : Nat) : zg M1 1280 j = zg M 1280 j := fa.1 _ _ (by omega) (by omega) (by omega) (by omega) (by omega) (by omega) (by omega) (by omega) (by omega) (by omega)
theorem LR_B {LS : Option (List lwL)} {M M2 : zM} (h : FrB M M2) (g : LR M LS) : LR M2 LS := LR_fr (fun i j hi => h.1 i j (by omega) (by omega) (by omega) (by omega) (by omega) (by omega) (by omega) (by omega) (by omega) (by omega)) g
theorem p_held {d : Nat} {M : zM} (hd : 9 ≤ d) (a y w : Int) (ha : zw a = a) (hy : zw y = y) (hw : zw w = w) (hI : Inv M) : Pr d mX7_held mX8_held [zI a, zI y, zI w] M := by
  obtain ⟨n, k, n1, k1, hV, hC, LS, hL, hL2⟩ := Inv_V hI
  have hn := hV.1
  obtain ⟨d, rfl, hdd⟩ := e_of 8 hd; replace hd := hdd
  have R : ∀ (r : Int) (M1 : zM), FrB M M1 → (¬ ((0 ≤ a ∧ a < 12) ∧ (0 ≤ y ∧ y < 100) ∧ (0 ≤ w ∧ w ≤ 2)) → r = -1) → (∀ (a1 t : Nat), a = (a1 : Int) → y = (t : Int) → a1 < 12 → t < 100 → (w = 0 → r = bz (heldY (vR M) LS n k a1 t = true)) ∧ (w = 1 → r = (hdS (vR M) LS (kAll (vR M) k y) n a1 y : Int)) ∧ (w = 2 → r = tl (heldY (vR M) LS n k a1) (100 - t) t)) → Ev (d + 1) mX8_held [.ref 1280, zI a, zI y, zI w] M1 (fun r2 M2 => r = r2 ∧ Inv M2) := by
    intro r M1 fa hb hg
    refine e_X8_held _ _ _ (v_X8_held_0 _ _ _ (c_X8_isName (by omega) a ?_))
    rw [ha]
    refine bz_br (fun q => ⟨hb (by omega), Inv_A fa hI⟩) (fun q => c_X8_isYear (by omega) y ?_)
    rw [hy]
    refine bz_br (fun q2 => ⟨hb (by omega), Inv_A fa hI⟩) (fun q2 => c_X8_in (by omega) _ _ _ ?_)
    rw [hw, zq_0, zq_2]
    refine bz_br (fun q3 => ⟨hb (by omega), Inv_A fa hI⟩) (fun q3 => ?_)
    obtain ⟨a1, rfl⟩ : ∃ a1 : Nat, a = (a1 : Int) := ⟨a.toNat, by omega⟩
    obtain ⟨t, rfl⟩ : ∃ t : Nat, y = (t : Int) := ⟨y.toNat, by omega⟩
    obtain ⟨g0, g1, g2⟩ := hg a1 t rfl rfl (by omega) (by omega)
    refine c_X8_asNamed (by omega) n hn (by rw [B1 fa]; exact n1) (fun M2 f1 f2 => ?_)
    have hR := RV_named n1 k1 hn fa f1 f2
    have f3 := FrB_tr fa (FrN_B f1)
    have hLR := LR_B f3 hL2
    refine ⟨fun q4 => ?_, fun q4 => ?_⟩
    · exact l_X8_till (by omega) n k (vR M) hV hR LS hLR a1 (by omega) (100 - t) t M2 (by omega) (FrR_rf M2) (fun M3 f4 => ⟨g2 q4, Inv_A (FrB_tr f3 (FrR_B f4)) hI⟩)
    · refine c_X8_findKnown (by omega) n k (evb n) (vR M) hV hR (t : Int) hy 0 (by omega) (fun M3 f4 f5 => ?_)
      have f6 := FrF_R f4
      refine ⟨fun q5 => c_X8_everybody (by omega) n hn (RV_R f6 hR).1 (c_X8_holders (by omega) n k (evb n) (vR M) hV (RV_R f6 hR) (evb_lt hn) LS (LR_R f6 hLR) (kAll (vR M) k (t : Int)) f5 (kup_lt hV k (by omega)) a1 (by omega) (t : Int) (by omega) (by omega) (fun M4 f7 => ⟨?_, Inv_A (FrB_tr f3 (FrR_B (FrR_tr f6 (FrQ_R f7)))) hI⟩)), fun q5 => c_X8_everybody (by omega) n hn (RV_R f6 hR).1 (c_X8_isHeld (by omega) n k (evb n) (vR M) hV (RV_R f6 hR) (evb_lt hn) LS (LR_R f6 hLR) (kAll (vR M) k (t : Int)) f5 (kup_lt hV k (by omega)) a1 (by omega) (t : Int) (by omega) (by omega) (fun M4 f7 => bz_br (fun q6 => ⟨?_, Inv_A (FrB_tr f3 (FrR_B (FrR_tr f6 (FrQ_R f7)))) hI⟩) (fun q6 => ⟨?_, Inv_A (FrB_tr f3 (FrR_B (FrR_tr f6 (FrQ_R f7)))) hI⟩)))⟩
      · have lt : hdS (vR M) LS (kAll (vR M) k (t : Int)) n a1 (t : Int) < 4096 := bs_12 hn
        rw [zw_n (by omega)]; exact g1 q5
      · rw [g0 (by omega), bz_f (show ¬ heldY (vR M) LS n k a1 t = true from q6)]
      · rw [g0 (by omega), bz_t (show heldY (vR M) LS n k a1 t = true from q6)]
  refine e_X7_held _ _ _ (v_X7_held_0 _ _ _ (c_X7_isName (by omega) a ?_))
  rw [ha]
  refine bz_br (fun q => R _ _ (FrB_rf M) (fun _ => rfl) (fun a1 t e1 e2 e3 e4 => absurd (by omega) q)) (fun q => c_X7_isYear (by omega) y ?_)
  rw [hy, hw]
  refine bz_br (fun q2 => R _ _ (FrB_rf M) (fun _ => rfl) (fun a1 t e1 e2 e3 e4 => absurd (by omega) q2)) (fun q2 => ?_)
  obtain ⟨a2, ea⟩ : ∃ a1 : Nat, a = (a1 : Int) := ⟨a.toNat, by omega⟩
  obtain ⟨t2, et⟩ : ∃ t : Nat, y = (t : Int) := ⟨y.toNat, by omega⟩
  refine ⟨fun q3 => ?_, fun q3 => ?_, fun q3 => ?_, fun q3 q4 q5 => R _ _ (FrB_rf M) (fun _ => rfl) (fun a1 t e1 e2 e3 e4 => ⟨fun z => absurd z q3, fun z => absurd z q4, fun z => absurd z q5⟩)⟩
  · refine c_X4_heldIn (by omega) 192 n k (vR M) ob_192 (Or.inl rfl) hV hC LS hL y q2.1 q2.2 (fun M2 f => R _ _ (FrC_B f) (fun z => absurd (by omega) z) (fun a1 t e1 e2 e3 e4 => ⟨fun _ => ?_, fun z => absurd z (by omega), fun z => absurd z (by omega)⟩))
    have lt := hdBits_lt (V := vR M) (LS := LS) (K := kAll (vR M) k y) (n := n) (y := y)
    rw [e1, zb_bit (by omega) (by omega), hdBits_bit e3, e2]
    rfl
  · rw [ea]
    refine c_X4_holdersOf (by omega) 192 n k (vR M) ob_192 (Or.inl rfl) hV hC LS hL a2 (by omega) y q2.1 q2.2 (fun M2 f => ?_)
    rw [← ea]
    refine R _ _ (FrC_B f) (fun z => absurd (by omega) z) (fun a1 t e1 e2 e3 e4 => ⟨fun z => absurd z (by omega), fun _ => ?_, fun z => absurd z (by omega)⟩)
    have lt : hdS (vR M) LS (kAll (vR M) k y) n a2 y < 4096 := bs_12 hn
    rw [zw_n (by omega), show a2 = a1 by omega]
  · obtain ⟨d, rfl, hdd⟩ := e_of 7 hd; replace hd := hdd
    rw [ea, et]
    refine e_X7_heldTill _ _ (v_X7_heldTill_0 _ _ (l_X7_till (by omega) n k (vR M) hV hC LS hL a2 (by omega) (100 - t2) t2 M (by omega) (FrC_rf M) (fun M2 f => ?_)))
    rw [← ea, ← et]
    refine R _ _ (FrC_B f) (fun z => absurd (by omega) z) (fun a1 t e1 e2 e3 e4 => ⟨fun z => absurd z (by omega), fun z => absurd z (by omega), fun _ => ?_⟩)
    rw [tl_w _ _ _ (by omega), show a2 = a1 by omega, show t2 = t by omega]
theorem p_free {d : Nat} {M : zM} (hd : 9 ≤ d) (y : Int) (hy : zw y = y) (hI : Inv M) : Pr d mX7_free mX8_free [zI y] M := by
  obtain ⟨n, k, n1, k1, hV, hC, LS, hL, hL2⟩ := Inv_V hI
  have hn := hV.1
  obtain ⟨d, rfl, hdd⟩ := e_of 8 hd; replace hd := hdd
  have R : ∀ (r : Int) (M1 : zM), FrB M M1 → (¬ (0 ≤ y ∧ y < 100) → r = -1) → ((0 ≤ y ∧ y < 100) → r = z_and 4095 (z_xor (hdBits (vR M) LS (kAll (vR M) k y) n y : Int) (-1))) → Ev (d + 1) mX8_free [.ref 1280, zI y] M1 (fun r2 M2 => r = r2 ∧ Inv M2) := by
    intro r M1 fa hb hg
    refine e_X8_free _ (v_X8_free_0 _ (c_X8_isYear (by omega) y ?_))
    rw [hy]
    refine bz_br (fun q2 => ⟨hb (by omega), Inv_A fa hI⟩) (fun q2 => ?_)
    refine c_X8_asNamed (by omega) n hn (by rw [B1 fa]; exact n1) (fun M2 f1 f2 => ?_)
    have hR := RV_named n1 k1 hn fa f1 f2
    have f3 := FrB_tr fa (FrN_B f1)
    have hLR := LR_B f3 hL2
    exact c_X8_heldIn hd n k (vR M) hV hR LS hLR y q2.1 q2.2 (fun M3 f4 => ⟨hg q2, Inv_A (FrB_tr f3 (FrR_B f4)) hI⟩)
  refine e_X7_free _ (v_X7_free_0 _ (c_X7_isYear (by omega) y ?_))
  rw [hy]
  refine bz_br (fun q2 => R _ _ (FrB_rf M) (fun _ => rfl) (fun z => absurd z q2)) (fun q2 => ?_)
  exact c_X4_heldIn (by omega) 192 n k (vR M) ob_192 (Or.inl rfl) hV hC LS hL y q2.1 q2.2 (fun M2 f => R _ _ (FrC_B f) (fun z => absurd q2 z) (fun _ => rfl))
/-- the most, and the first year of it -/
def mstC (g : Nat → Nat) : Nat → Int × Int
  | 0 => (0, 0)
  | y + 1 => if (mstC g y).1 < (g y : Int) then ((g y : Int), (y : Int)) else mstC g y
def mstR (g : Nat → Nat) : Nat → Int × Int
  | 0 => (-1, 0)
  | y + 1 => if (mstR g y).1 < (g y : Int) then ((g y : Int), (y : Int)) else mstR g y
theorem mst_eq (g : Nat → Nat) : ∀ y, mstC g (y + 1) = mstR g (y + 1)
  | 0 => by
    rw [mstC, mstR]
    show (if (0 : Int) < (g 0 : Int) then ((g 0 : Int), ((0 : Nat) : Int)) else (0, 0)) = (if (-1 : Int) < (g 0 : Int) then ((g 0 : Int), ((0 : Nat) : Int)) else (-1, 0))
    rw [if_pos (show (-1 : Int) < (g 0 : Int) by omega)]
    by_cases h : (0 : Int) < (g 0 : Int)
    · rw [if_pos h]
    · rw [if_neg h, show g 0 = 0 by omega]; rfl
  | y + 1 => by rw [mstC, mstR, mst_eq g y]
theorem mst_bd (g : Nat → Nat) (hg : ∀ y, g y < 5000) : ∀ y, y ≤ 100 → (-1 ≤ (mstR g y).1 ∧ (mstR g y).1 < 5000) ∧ (0 ≤ (mstR g y).2 ∧ (mstR g y).2 < 100)
  | 0, _ => by rw [mstR]; decide
  | y + 1, hy => by
    have := mst_bd g hg y (by omega)
    have h2 := hg y
    rw [mstR]
    split
    · dsimp only; omega
    · exact this
theorem mst_bc (g : Nat → Nat) (hg : ∀ y, g y < 5000) : ∀ y, y ≤ 100 → (0 ≤ (mstC g y).1 ∧ (mstC g y).1 < 5000) ∧ (0 ≤ (mstC g y).2 ∧ (mstC g y).2 < 100)
  | 0, _ => by rw [mstC]; decide
  | y + 1, hy => by
    have := mst_bc g hg y (by omega)
    have h2 := hg y
    rw [mstC]
    split
    · dsimp only; omega
    · exact this
/-- how many names are held in a year -/
def manyY (V : zV) (LS : Option (List lwL)) (n k : Nat) (t : Nat) : Nat := pcv (hdBits V LS (kAll V k (t : Int)) n (t : Int))
theorem manyY_lt (V : zV) (LS : Option (List lwL)) (n k : Nat) (t : Nat) : manyY V LS n k t < 5000 := by
  have lt := hdBits_lt (V := V) (LS := LS) (K := kAll V k (t : Int)) (n := n) (y := (t : Int))
  have l2 := pcN_le (hdBits V LS (kAll V k (t : Int)) n (t : Int)) (hdBits V LS (kAll V k (t : Int)) n (t : Int))
  unfold manyY pcv; omega
theorem l_X7_most {d : Nat} {M0 : zM} {Q : Int → zM → Prop} (hd : 5 ≤ d) (n k : Nat) (V : zV) (hV : Vok n k V) (hC : CV 192 n k V M0) (LS : Option (List lwL)) (hL : LC M0 LS) (w : Int) (hw : zw w = w) (h : ∀ M2 : zM, FrC M0 M2 → Q (if w = 0 then (mstC (manyY V LS n k) 100).1 else (mstC (manyY V LS n k) 100).2) M2) : ∀ (x t : Nat) (M : zM), t + x = 100 → FrC M0 M → wp (Ev d) 7 cX7_most (some .int) Q 18 [some (.ref 64), some (zI w), some (zI (mstC (manyY V LS n k) t).1), some (zI (mstC (manyY V LS n k) t).2), some (zI (t : Int)), none] [] M
  | 0, t, M, e, f => by
    have bd := mst_bc (manyY V LS n k) (manyY_lt V LS n k) t (by omega)
    refine v_X7_most_18 _ _ _ _ ?_
    rw [zw_n (a := t) (by omega), hw, zw_of (a := (mstC (manyY V LS n k) t).1) (by omega) (by omega), zw_of (a := (mstC (manyY V LS n k) t).2) (by omega) (by omega)]
    have hh := h M f
    rw [show (100 : Nat) = t by omega] at hh
    exact ⟨fun z => absurd z (by omega), fun _ => ⟨fun q => by rw [if_pos q] at hh; exact hh, fun q => by rw [if_neg q] at hh; exact hh⟩⟩
  | x + 1, t, M, e, f => by
    have bd := mst_bc (manyY V LS n k) (manyY_lt V LS n k) t (by omega)
    have ml := manyY_lt V LS n k t
    refine v_X7_most_18 _ _ _ _ ?_
    rw [zw_n (a := t) (by omega)]
    refine ⟨fun _ => c_X4_heldIn hd 192 n k V ob_192 (Or.inl rfl) hV (CV_C (Or.inl rfl) f hC) LS (LC_C f hL) (t : Int) (by omega) (by omega) (fun M2 f2 => ?_), fun z => absurd (by omega) z⟩
    refine c_J6_bitCount (by omega) _ hdBits_lt ?_
    rw [show pcv (hdBits V LS (kAll V k (t : Int)) n (t : Int)) = manyY V LS n k t from rfl]
    have nx := l_X7_most hd n k V hV hC LS hL w hw h x (t + 1) M2 (by omega) (FrC_tr f f2)
    rw [zw_n (a := manyY V LS n k t) (by omega), zw_of (a := (mstC (manyY V LS n k) t).1) (by omega) (by omega), show (t : Int) + 1 = ((t + 1 : Nat) : Int) by omega]
    rw [mstC] at nx
    refine ⟨fun q => ?_, fun q => ?_⟩
    · rw [if_pos q] at nx; exact nx
    · rw [if_neg q] at nx; exact nx
theorem l_X8_most {d : Nat} {M0 : zM} {Q : Int → zM → Prop} (hd : 8 ≤ d) (n k : Nat) (V : zV) (hV : Vok n k V) (hR : RV n k V (evb n) M0) (LS : Option (List lwL)) (hL : LR M0 LS) (w : Int) (hw : zw w = w) (h : ∀ M2 : zM, FrR M0 M2 → Q (if w = 0 then (mstR (manyY V LS n k) 100).1 else (mstR (manyY V LS n k) 100).2) M2) : ∀ (x t : Nat) (M : zM), t + x = 100 → FrR M0 M → wp (Ev d) 8 cX8_most (some .int) Q 22 [some (.ref 1280), some (zI w), some (zI (mstR (manyY V LS n k) t).2), some (zI (mstR (manyY V LS n k) t).1), some (zI (t : Int)), none] [] M
  | 0, t, M, e, f => by
    have bd := mst_bd (manyY V LS n k) (manyY_lt V LS n k) t (by omega)
    refine v_X8_most_22 _ _ _ _ ?_
    rw [zw_n (a := t) (by omega), hw, zw_of (a := (mstR (manyY V LS n k) t).1) (by omega) (by omega), zw_of (a := (mstR (manyY V LS n k) t).2) (by omega) (by omega)]
    have hh := h M f
    rw [show (100 : Nat) = t by omega] at hh
    exact ⟨fun _ => ⟨fun q => by rw [if_pos q] at hh; exact hh, fun q => by rw [if_neg q] at hh; exact hh⟩, fun z => absurd (by omega) z⟩
  | x + 1, t, M, e, f => by
    have bd := mst_bd (manyY V LS n k) (manyY_lt V LS n k) t (by omega)
    have ml := manyY_lt V LS n k t
    refine v_X8_most_22 _ _ _ _ ?_
    rw [zw_n (a := t) (by omega)]
    refine ⟨fun z => absurd z (by omega), fun _ => c_X8_heldIn hd n k V hV (RV_R f hR) LS (LR_R f hL) (t : Int) (by omega) (by omega) (fun M2 f2 => ?_)⟩
    refine c_X8_bitsOf (by omega) _ (by have := hdBits_lt (V := V) (LS := LS) (K := kAll V k (t : Int)) (n := n) (y := (t : Int)); omega) ?_
    rw [show pcv (hdBits V LS (kAll V k (t : Int)) n (t : Int)) = manyY V LS n k t from rfl]
    have nx := l_X8_most hd n k V hV hR LS hL w hw h x (t + 1) M2 (by omega) (FrR_tr f f2)
    rw [zw_n (a := manyY V LS n k t) (by omega), zw_of (a := (mstR (manyY V LS n k) t).1) (by omega) (by omega), show (t : Int) + 1 = ((t + 1 : Nat) : Int) by omega]
    rw [mstR] at nx
    refine ⟨fun q => ?_, fun q => ?_⟩
    · rw [if_pos q] at nx; exact nx
    · rw [if_neg q] at nx; exact nx
theorem p_most {d : Nat} {M : zM} (hd : 9 ≤ d) (w : Int) (hw : zw w = w) (hI : Inv M) : Pr d mX7_most mX8_most [zI w] M := by
  obtain ⟨n, k, n1, k1, hV, hC, LS, hL, hL2⟩ := Inv_V hI
  have hn := hV.1
  obtain ⟨d, rfl, hdd⟩ := e_of 8 hd; replace hd := hdd
  have R : ∀ (r : Int) (M1 : zM), FrB M M1 → (¬ (0 ≤ w ∧ w ≤ 1) → r = -1) → ((0 ≤ w ∧ w ≤ 1) → r = if w = 0 then (mstR (manyY (vR M) LS n k) 100).1 else (mstR (manyY (vR M) LS n k) 100).2) → Ev (d + 1) mX8_most [.ref 1280, zI w] M1 (fun r2 M2 => r = r2 ∧ Inv M2) := by
    intro r M1 fa hb hg
    refine e_X8_most _ (v_X8_most_0 _ (c_X8_in (by omega) _ _ _ ?_))
    rw [hw, zq_0, zq_1]
    refine bz_br (fun q2 => ⟨hb (by omega), Inv_A fa hI⟩) (fun q2 => ?_)
    refine c_X8_asNamed (by omega) n hn (by rw [B1 fa]; exact n1) (fun M2 f1 f2 => ?_)
    have hR := RV_named n1 k1 hn fa f1 f2
    have f3 := FrB_tr fa (FrN_B f1)
    have hLR := LR_B f3 hL2
    exact l_X8_most hd n k (vR M) hV hR LS hLR w hw (fun M3 f4 => ⟨hg q2, Inv_A (FrB_tr f3 (FrR_B f4)) hI⟩) 100 0 M2 (by omega) (FrR_rf M2)
  have go : (0 ≤ w ∧ w ≤ 1) → wp (Ev d) 7 cX7_most (some .int) (fun r M1 => Ev (d + 1) mX8_most [.ref 1280, zI w] M1 (fun r2 M2 => r = r2 ∧ Inv M2)) 18 [some (.ref 64), some (zI w), some (zI 0), some (zI 0), some (zI 0), none] [] M := by
    intro q
    refine l_X7_most (by omega) n k (vR M) hV hC LS hL w hw (fun M2 f => R _ _ (FrC_B f) (fun z => absurd q z) (fun _ => ?_)) 100 0 M (by omega) (FrC_rf M)
    rw [mst_eq _ 99]
  refine e_X7_most _ (v_X7_most_0 _ ?_)
  rw [hw]
  exact ⟨fun q => go (by omega), fun q => ⟨fun q2 => go (by omega), fun q2 => R _ _ (FrB_rf M) (fun _ => rfl) (fun z => absurd z (by omega))⟩⟩
def frB (V : zV) (LS : Option (List lwL)) (n k : Nat) (p : Nat) (y : Int) (a : Nat) : Bool := decide (hdS V LS (kAll V k y) n a y = 2 ^ p) && !(fmB V n a y)
theorem l_X7_freed {d : Nat} {M0 : zM} {Q : Int → zM → Prop} (hd : 5 ≤ d) (n k : Nat) (V : zV) (hV : Vok n k V) (hC : CV 192 n k V M0) (LS : Option (List lwL)) (hL : LC M0 LS) (p : Nat) (hp : p < 12) (y : Int) (hy0 : 0 ≤ y) (hy1 : y < 100) (h : ∀ M2 : zM, FrC M0 M2 → Q (bs (frB V LS n k p y) 12 : Int) M2) : ∀ (x i : Nat) (M : zM), i + x = 12 → FrC M0 M → wp (Ev d) 7 cX7_freed (some .int) Q 25 [some (.ref 64), some (zI (p : Int)), some (zI y), some (zI ((bs (frB V LS n k p y) i : Nat) : Int)), some (zI (i : Int))] [] M
  | 0, i, M, e, f => by
    have lt := bs_12 (P := frB V LS n k p y) (n := i) (by omega)
    refine v_X7_freed_25 _ _ _ _ ?_
    rw [zw_n (a := i) (by omega), zw_n (a := bs (frB V LS n k p y) i) (by omega)]
    refine ⟨fun z => absurd z (by omega), fun _ => ?_⟩
    rw [show i = 12 by omega]; exact h M f
  | x + 1, i, M, e, f => by
    have wy : zw y = y := zw_of (by omega) (by omega)
    have lt := bs_12 (P := frB V LS n k p y) (n := i) (by omega)
    have ti := tp_12 (p := i) (by omega)
    have tp := tp_12 hp
    have nx := fun M2 f2 => l_X7_freed hd n k V hV hC LS hL p hp y hy0 hy1 h x (i + 1) M2 (by omega) f2
    refine v_X7_freed_25 _ _ _ _ ?_
    rw [zw_n (a := i) (by omega), zb_shl (p := p) (by omega), zb_shl (p := i) (by omega), zb_or (by omega) (by omega), show (i : Int) + 1 = ((i + 1 : Nat) : Int) by omega]
    refine ⟨fun _ => c_X4_holdersOf hd 192 n k V ob_192 (Or.inl rfl) hV (CV_C (Or.inl rfl) f hC) LS (LC_C f hL) i (by omega) y hy0 hy1 (fun M2 f2 => ?_), fun z => absurd (by omega) z⟩
    have l3 : hdS V LS (kAll V k y) n i y < 4096 := bs_12 hV.1
    have f3 := FrC_tr f f2
    rw [zw_n (by omega)]
    refine ⟨fun q => c_X4_isFamed (by omega) 192 n k V ob_192 hV (CV_C (Or.inl rfl) f3 hC) i (by omega) y wy (bz_br (fun q2 => ?_) (fun q2 => ?_)), fun q => ?_⟩
    · have := nx M2 f3
      rw [bs, if_pos (by unfold frB; rw [Bool.not_eq_true] at q2; rw [q2, decide_eq_true (show hdS V LS (kAll V k y) n i y = 2 ^ p by omega)]; rfl)] at this
      exact this
    · have := nx M2 f3
      rw [bs, if_neg (by unfold frB; rw [q2]; simp)] at this
      exact this
    · have := nx M2 f3
      rw [bs, if_neg (by unfold frB; rw [decide_eq_false (show ¬ hdS V LS (kAll V k y) n i y = 2 ^ p by omega)]; simp)] at this
      exact this
theorem l_X8_freed {d : Nat} {M0 : zM} {Q : Int → zM → Prop} (hd : 6 ≤ d) (n k : Nat) (V : zV) (hV : Vok n k V) (hR : RV n k V (evb n) M0) (LS : Option (List lwL)) (hL : LR M0 LS) (p : Nat) (hp : p < 12) (y : Int) (hy0 : 0 ≤ y) (hy1 : y < 100) (hK : KnA M0 1313 n (kAll V k y)) (h : ∀ M2 : zM, FrQ M0 M2 → Q (bs (frB V LS n k p y) 12 : Int) M2) : ∀ (x i : Nat) (M : zM), i + x = 12 → FrQ M0 M → wp (Ev d) 8 cX8_freed (some .int) Q 32 [some (.ref 1280), some (zI (p : Int)), some (zI y), some (zI ((bs (frB V LS n k p y) i : Nat) : Int)), some (zI (i : Int))] [] M
  | 0, i, M, e, f => by
    have lt := bs_12 (P := frB V LS n k p y) (n := i) (by omega)
    refine v_X8_freed_32 _ _ _ _ ?_
    rw [zw_n (a := i) (by omega), zw_n (a := bs (frB V LS n k p y) i) (by omega)]
    refine ⟨fun z => absurd z (by omega), fun _ => ?_⟩
    rw [show i = 12 by omega]; exact h M f
  | x + 1, i, M, e, f => by
    have wy : zw y = y := zw_of (by omega) (by omega)
    have lt := bs_12 (P := frB V LS n k p y) (n := i) (by omega)
    have ti := tp_12 (p := i) (by omega)
    have tp := tp_12 hp
    have nx := fun M2 f2 => l_X8_freed hd n k V hV hR LS hL p hp y hy0 hy1 hK h x (i + 1) M2 (by omega) f2
    have hR2 := RV_R (FrQ_R f) hR
    refine v_X8_freed_32 _ _ _ _ ?_
    rw [zw_n (a := i) (by omega), zb_shl (p := p) (by omega), zb_shl (p := i) (by omega), zb_or (by omega) (by omega), show (i : Int) + 1 = ((i + 1 : Nat) : Int) by omega]
    refine ⟨fun _ => c_X8_everybody (by omega) n hV.1 hR2.1 (c_X8_isFamous (by omega) n k (evb n) V hV hR2 (evb_lt hV.1) i (by omega) y wy (bz_br (fun q => c_X8_everybody (by omega) n hV.1 hR2.1 (c_X8_holders hd n k (evb n) V hV hR2 (evb_lt hV.1) LS (LR_R (FrQ_R f) hL) (kAll V k y) (KnA_fr (fun j => f.1 _ _ (by omega) (by omega)) hK) (kup_lt hV k (by omega)) i (by omega) y hy0 hy1 (fun M2 f2 => ?_))) (fun q => ?_))), fun z => absurd (by omega) z⟩
    · have l3 : hdS V LS (kAll V k y) n i y < 4096 := bs_12 hV.1
      rw [zw_n (by omega)]
      have := nx M2 (FrQ_tr f f2)
      refine ⟨fun q2 => ?_, fun q2 => ?_⟩
      · rw [bs, if_pos (by unfold frB; rw [Bool.not_eq_true] at q; rw [q, decide_eq_true (show hdS V LS (kAll V k y) n i y = 2 ^ p by omega)]; rfl)] at this
        exact this
      · rw [bs, if_neg (by unfold frB; rw [decide_eq_false (show ¬ hdS V LS (kAll V k y) n i y = 2 ^ p by omega)]; simp)] at this
        exact this
    · have := nx M f
      rw [bs, if_neg (by unfold frB; rw [q]; simp)] at this
      exact this
theorem p_freed {d : Nat} {M : zM} (hd : 8 ≤ d) (p y : Int) (hp : zw p = p) (hy : zw y = y) (hI : Inv M) : Pr d mX7_freed mX8_freed [zI p, zI y] M := by
  obtain ⟨n, k, n1, k1, hV, hC, LS, hL, hL2⟩ := Inv_V hI
  have hn := hV.1
  obtain ⟨d, rfl, hdd⟩ := e_of 7 hd; replace hd := hdd
  have R : ∀ (r : Int) (M1 : zM), FrB M M1 → (¬ ((0 ≤ p ∧ p < (n : Int)) ∧ 0 ≤ y ∧ y < 100) → r = -1) → ((0 ≤ p ∧ p < (n : Int)) ∧ 0 ≤ y ∧ y < 100 → r = (bs (frB (vR M) LS n k p.toNat y) 12 : Int)) → Ev (d + 1) mX8_freed [.ref 1280, zI p, zI y] M1 (fun r2 M2 => r = r2 ∧ Inv M2) := by
    intro r M1 fa hb hg
    refine e_X8_freed _ _ (v_X8_freed_0 _ _ (c_X8_isPerson (by omega) p (by rw [B1 fa]; omega) ?_))
    rw [hp, B1 fa, n1]
    refine bz_br (fun q => ⟨hb (by omega), Inv_A fa hI⟩) (fun q => c_X8_isYear (by omega) y ?_)
    rw [hy]
    refine bz_br (fun q2 => ⟨hb (by omega), Inv_A fa hI⟩) (fun q2 => ?_)
    refine c_X8_asNamed (by omega) n hn (by rw [B1 fa]; exact n1) (fun M2 f1 f2 => ?_)
    have hR := RV_named n1 k1 hn fa f1 f2
    have f3 := FrB_tr fa (FrN_B f1)
    have hLR := LR_B f3 hL2
    refine c_X8_findKnown (by omega) n k (evb n) (vR M) hV hR y hy 0 (by omega) (fun M3 f4 f5 => ?_)
    have f6 := FrF_R f4
    have go := l_X8_freed (d := d) (Q := fun r2 M2 => r = r2 ∧ Inv M2) (by omega) n k (vR M) hV (RV_R f6 hR) LS (LR_R f6 hLR) p.toNat (by omega) y q2.1 q2.2 f5 (fun M4 f7 => ⟨hg ⟨q, q2⟩, Inv_A (FrB_tr f3 (FrR_B (FrR_tr f6 (FrQ_R f7)))) hI⟩) 12 0 M3 (by omega) (FrQ_rf M3)
    rw [show ((p.toNat : Nat) : Int) = p by omega] at go
    exact go
  refine e_X7_freed _ _ (v_X7_freed_0 _ _ (c_X4_hasPerson (by omega) 192 ob_192 p ?_))
  rw [hp, hC.1]
  refine bz_br (fun q => R _ _ (FrB_rf M) (fun _ => rfl) (fun z => absurd z.1 q)) (fun q => c_X7_isYear (by omega) y ?_)
  rw [hy]
  refine bz_br (fun q2 => R _ _ (FrB_rf M) (fun _ => rfl) (fun z => absurd z.2 q2)) (fun q2 => ?_)
  have go := l_X7_freed (d := d) (Q := fun r M1 => Ev (d + 1) mX8_freed [.ref 1280, zI p, zI y] M1 (fun r2 M2 => r = r2 ∧ Inv M2)) (by omega) n k (vR M) hV hC LS hL p.toNat (by omega) y q2.1 q2.2 (fun M2 f => R _ _ (FrC_B f) (fun z => absurd ⟨q, q2⟩ z) (fun _ => rfl)) 12 0 M (by omega) (FrC_rf M)
  rw [show ((p.toNat : Nat) : Int) = p by omega] at go
  exact go
