/-! judge, give -/
def FrW (M M2 : zM) : Prop := (∀ i j, i ≠ 137 → i ≠ 138 → i ≠ 207 → ¬ (i = 128 ∧ j = 10) → ¬ (256 ≤ i ∧ i < 448) → i ≠ 1310 → i ≠ 1311 → i ≠ 1313 → i ≠ 1314 → i ≠ 1315 → i ≠ 1316 → zg M2 i j = zg M i j) ∧ (∀ i j, zh M2 i j = zh M i j)
theorem FrW_rf (M : zM) : FrW M M := ⟨fun _ _ _ _ _ _ _ _ _ _ _ _ _ => rfl, fun _ _ => rfl⟩
theorem FrW_tr {M M2 M3 : zM} (h : FrW M M2) (g : FrW M2 M3) : FrW M M3 := ⟨fun i j a b c e f l m n o p q => by rw [g.1 i j a b c e f l m n o p q, h.1 i j a b c e f l m n o p q], fun i j => by rw [g.2, h.2]⟩
theorem FrT_W {M M2 : zM} (h : FrT M M2) : FrW M M2 := ⟨fun i j a b c e f _ _ _ _ _ _ => h.1 i j a b c e (by omega), h.2⟩
theorem FrB_W {M M2 : zM} (h : FrB M M2) : FrW M M2 := ⟨fun i j a b c e f g1 g2 g3 g4 g5 _ => h.1 i j a b c (by omega) e g1 g2 g3 g4 g5, h.2⟩
theorem cI_no2 {i j : Nat} (h : cInv i j = true) : ¬ (256 ≤ i ∧ i < 448) ∧ i ≠ 1316 := by
  simp [cInv, cIP, cID, cIN, cIM, cIH, cIW, cIF, cIC, cII, cIT, cIL, cIG, cIR, cIS] at h
  omega
theorem Inv_W {M M2 : zM} (h : FrW M M2) (hI : Inv M) : Inv M2 := by
  refine Inv_fr (M := M) (fun i j c => ?_) (fun i j _ => h.2 i j) hI
  obtain ⟨a1, a2, a3, a4, a5, a6, a7, a8, a9, a10⟩ := cI_no c
  obtain ⟨b1, b2⟩ := cI_no2 c
  exact h.1 i j a1 a2 a3 a5 b1 a6 a7 a8 a9 a10 b2
theorem RV_re {n k am am2 : Nat} {V V2 : zV} {M : zM} (h : RV n k V am M) (e : ∀ r j, r ≠ 2 → V r j = V2 r j) (g : ∀ p, p < n → V2 2 p = if am2.testBit p = true then zg M 1315 p else -1) : RV n k V2 am2 M := by
  obtain ⟨c1, c2, c3, c4, c5, c6⟩ := h
  unfold RV
  simp only [← e 0 _ (show 0 ≠ 2 by omega), ← e 1 _ (show 1 ≠ 2 by omega), ← e 3 _ (show 3 ≠ 2 by omega), ← e 4 _ (show 4 ≠ 2 by omega), ← e 5 _ (show 5 ≠ 2 by omega), ← e 7 _ (show 7 ≠ 2 by omega), ← e 8 _ (show 8 ≠ 2 by omega), ← e 9 _ (show 9 ≠ 2 by omega)]
  exact ⟨c1, c2, c3, fun p hp => ⟨(c4 p hp).1, (c4 p hp).2.1, g p hp⟩, c5, c6⟩
theorem RV_nm2 {M M1 M2 : zM} {n k : Nat} (h1 : zg M 1280 1 = (n : Int)) (h5 : zg M 1280 5 = (k : Int)) (hn : n ≤ 12) (hA : ∀ i j, 1280 ≤ i → i < 1310 → zg M1 i j = zg M i j) (f : FrN M1 M2) (g : ∀ p : Nat, p < 12 → zg M2 1315 p = if p < n then zg M1 1285 p else -1) : RV n k (vR M) (evb n) M2 := by
  have e : ∀ a j, (1280 ≤ a ∧ a < 1310) → zg M2 a j = zg M a j := fun a j ha => by rw [f.1 a j (by omega), hA a j ha.1 ha.2]
  refine ⟨by rw [e _ _ (by omega)]; exact h1, by rw [e _ _ (by omega)]; exact h5, by rw [e _ _ (by omega)]; rfl, fun p hp => ⟨by rw [e _ _ (by omega)]; rfl, by rw [e _ _ (by omega)]; rfl, ?_⟩, fun m hm => ⟨by rw [e _ _ (by omega)]; rfl, by rw [e _ _ (by omega)]; rfl, by rw [e _ _ (by omega)]; rfl⟩, fun a ha => ⟨by rw [e _ _ (by omega)]; rfl, by rw [e _ _ (by omega)]; rfl⟩⟩
  rw [if_pos (evb_bit hp), g p (by omega), if_pos hp, hA _ _ (by omega) (by omega)]; rfl
/-- the names of those at the first j places -/
def nmG (V : zV) (W : Nat → Int) : Nat → Nat → Int
  | 0, _ => -1
  | j + 1, q => if q = (W j).toNat then V 2 q else nmG V W j q
theorem nmG_p {n : Nat} {V : zV} {W : Nat → Int} (hO : Ook n (V 0) W) {q i : Nat} (hi : i < n) (hq : W i = (q : Int)) : ∀ j, j ≤ n → nmG V W j q = if i < j then V 2 q else -1
  | 0, _ => by rw [nmG, if_neg (by omega)]
  | j + 1, hj => by
    have b := hO.1 j (by omega)
    rw [nmG, nmG_p hO hi hq j (by omega)]
    by_cases e : i = j
    · subst e; rw [hq, if_pos (by omega), if_pos (by omega)]
    · have ne : ¬ q = (W j).toNat := fun z => e (pos_u hO hi (show j < n by omega) hq (by omega))
      rw [if_neg ne]
      by_cases e2 : i < j
      · rw [if_pos e2, if_pos (by omega)]
      · rw [if_neg e2, if_neg (by omega)]
theorem nmG_bd {n k : Nat} {V : zV} {W : Nat → Int} (hO : Ook n (V 0) W) (hV : Vok n k V) {j : Nat} (hj : j ≤ n) : ∀ p, p < n → -1 ≤ nmG V W j p ∧ nmG V W j p < 12 := by
  intro p hp
  obtain ⟨i, i1, i2⟩ := hO.2.2 p hp
  have b := hV.2.2.1 p hp
  rw [nmG_p hO i1 i2 j hj]
  split <;> omega
theorem RV_G {n k : Nat} {V : zV} {W : Nat → Int} {M : zM} (hO : Ook n (V 0) W) {j p : Nat} (hj : j < n) (hp : W j = (p : Int)) (h : RV n k V (evb n) M) : RV n k (vNm V (nmG V W j)) (bs (fun o => ahB (V 0) o p) n) M := by
  refine RV_re h (fun r i q => (vNm_ne V _ q i).symm) (fun q hq => ?_)
  obtain ⟨i, i1, i2⟩ := hO.2.2 q hq
  have c := (h.2.2.2.1 q hq).2.2
  rw [if_pos (evb_bit hq)] at c
  rw [vNm_2, nmG_p hO i1 i2 j (by omega), bs_bit, decide_eq_true hq, Bool.true_and, c]
  by_cases e : i < j
  · rw [if_pos e, if_pos ((ah_k hO i1 hj i2 hp).mpr e)]
  · rw [if_neg e, if_neg (fun z => e ((ah_k hO i1 hj i2 hp).mp z))]
theorem CV_set {n k : Nat} {V : zV} {N N2 : Nat → Int} {M : zM} {p : Nat} {v : Int} (hv : zw v = v) (e : ∀ q, q < n → N2 q = if q = p then v else N q) (h : CV 256 n k (vNm V N) M) : CV 256 n k (vNm V N2) (zs M 260 p v) := by
  obtain ⟨c1, c2, c3, c4, c5, c6⟩ := h
  have e2 : ∀ r j, r ≠ 2 → vNm V N2 r j = vNm V N r j := fun r j q => by rw [vNm_ne _ _ q, vNm_ne _ _ q]
  have z : ∀ i j, i ≠ 260 → zg (zs M 260 p v) i j = zg M i j := fun i j q => zg_zsi _ _ _ _ q
  refine ⟨by rw [z _ _ (by omega)]; exact c1, by rw [z _ _ (by omega)]; exact c2, by rw [z _ _ (by omega), e2 9 _ (by omega)]; exact c3, fun q hq => ⟨by rw [z _ _ (by omega), e2 0 _ (by omega)]; exact (c4 q hq).1, by rw [z _ _ (by omega), e2 1 _ (by omega)]; exact (c4 q hq).2.1, ?_⟩, fun m hm => ⟨by rw [z _ _ (by omega), e2 3 _ (by omega)]; exact (c5 m hm).1, by rw [z _ _ (by omega), e2 4 _ (by omega)]; exact (c5 m hm).2.1, by rw [z _ _ (by omega), e2 5 _ (by omega)]; exact (c5 m hm).2.2.1, by rw [z _ _ (by omega), e2 6 _ (by omega)]; exact (c5 m hm).2.2.2⟩, fun a ha => ⟨by rw [z _ _ (by omega), e2 7 _ (by omega)]; exact (c6 a ha).1, by rw [z _ _ (by omega), e2 8 _ (by omega)]; exact (c6 a ha).2⟩⟩
  have c7 := (c4 q hq).2.2
  rw [vNm_2] at c7 ⊢
  rw [e q hq]
  by_cases y : q = p
  · subst y; rw [if_pos rfl, zg_zs1, hv]
  · rw [if_neg y, zg_zsj _ _ _ _ y]; exact c7
theorem FrT_260 (M : zM) (p : Nat) (v : Int) : FrT M (zs M 260 p v) := ⟨fun i j _ _ _ _ q => by rw [zg_zsi _ _ _ _ (by omega)], fun _ _ => rfl⟩
/-- the first who was named as one who is held -/
def jdS (V : zV) (LS : Option (List lwL)) (n k : Nat) (W : Nat → Int) : Nat → Nat → Int
  | 0, _ => -2
  | x + 1, j => if 0 ≤ V 2 (W j).toNat ∧ hN V LS n k (nmG V W j) (V 0 (W j).toNat).toNat (V 2 (W j).toNat).toNat = true then W j else jdS V LS n k W x (j + 1)
theorem l_X3_first {d : Nat} {M0 : zM} {Q : Int → zM → Prop} (hd : 5 ≤ d) (n k : Nat) (V : zV) (LS : Option (List lwL)) (W : Nat → Int) (hV : Vok n k V) (hO : Ook n (V 0) W) (hC0 : CV 192 n k V M0) (hW : ∀ j, j < n → zg M0 197 j = W j) (hL : LC M0 LS) : ∀ (x j : Nat) (M : zM), j + x = n → FrT M0 M → CV 256 n k (vNm V (nmG V W j)) M → (∀ M2 : zM, FrT M0 M2 → Q (jdS V LS n k W x j) M2) → wp (Ev d) 3 cX3_firstHeldAtBirth (some .int) Q 6 [some (.ref 320), some (zI (j : Int)), none, none] [] M
  | 0, j, M, e, f, hC, h => by
    have hn := hV.1
    refine v_X3_firstHeldAtBirth_6 _ ?_
    rw [zw_n (a := j) (by omega), f.1 192 5 (by omega) (by omega) (by omega) (by omega) (by omega), hC0.1]
    exact ⟨fun z => absurd z (by omega), fun _ => h M f⟩
  | x + 1, j, M, e, f, hC, h => by
    have hn := hV.1
    have jb := hO.1 j (by omega)
    obtain ⟨p, hp⟩ : ∃ p : Nat, W j = (p : Int) := ⟨(W j).toNat, by omega⟩
    have tp : ((p : Int)).toNat = p := by omega
    have v3 := hV.2.2.1 p (by omega)
    have hV2 := Vok_Nm hV (nmG_bd hO hV (j := j) (by omega))
    have f192 : ∀ i j, 192 ≤ i → i < 207 → zg M i j = zg M0 i j := fun i j _ _ => f.1 i j (by omega) (by omega) (by omega) (by omega) (by omega)
    have js : jdS V LS n k W (x + 1) j = if 0 ≤ V 2 p ∧ hN V LS n k (nmG V W j) (V 0 p).toNat (V 2 p).toNat = true then (p : Int) else jdS V LS n k W x (j + 1) := by rw [jdS, hp, tp]
    have go : ∀ M2 : zM, FrT M0 M2 → CV 256 n k (vNm V (nmG V W j)) M2 → ¬ (0 ≤ V 2 p ∧ hN V LS n k (nmG V W j) (V 0 p).toNat (V 2 p).toNat = true) → wp (Ev d) 3 cX3_firstHeldAtBirth (some .int) Q 67 [some (.ref 320), some (zI (j : Int)), some (zI (p : Int)), some (zI (V 2 p))] [] M2 := by
      intro M2 f2 hC2 q
      refine v_X3_firstHeldAtBirth_67 _ _ _ ?_
      rw [zw_n (a := p) (by omega), tp, show (j : Int) + 1 = ((j + 1 : Nat) : Int) by omega]
      refine ⟨by omega, by omega, ?_⟩
      rintro _ rfl
      refine l_X3_first hd n k V LS W hV hO hC0 hW hL x (j + 1) _ (by omega) (FrT_tr f2 (FrT_260 _ _ _)) (CV_set (zw_of (by omega) (by omega)) (fun y _ => ?_) hC2) (fun M3 f3 => ?_)
      · rw [nmG, hp, tp]
        by_cases y2 : y = p
        · rw [if_pos y2, if_pos y2, y2]
        · rw [if_neg y2, if_neg y2]
      · have := h M3 f3
        rw [js, if_neg q] at this
        exact this
    refine v_X3_firstHeldAtBirth_6 _ ?_
    rw [zw_n (a := j) (by omega), f192 192 5 (by omega) (by omega), hC0.1, show ((j : Int)).toNat = j by omega, f192 197 _ (by omega) (by omega), hW j (by omega), hp, tp, f192 196 _ (by omega) (by omega), show zg M0 196 p = V 2 p from (hC0.2.2.2.1 p (by omega)).2.2, f192 194 _ (by omega) (by omega), show zg M0 194 p = V 0 p from (hC0.2.2.2.1 p (by omega)).1]
    refine ⟨fun _ => ⟨by omega, by omega, by omega, by omega, fun q => go M f hC (fun z => absurd z.1 (by omega)), fun q => ⟨by omega, by omega, ?_⟩⟩, fun z => absurd (by omega) z⟩
    obtain ⟨t, ht⟩ : ∃ t : Nat, V 0 p = (t : Int) := ⟨(V 0 p).toNat, by omega⟩
    obtain ⟨a, ha⟩ : ∃ a : Nat, V 2 p = (a : Int) := ⟨(V 2 p).toNat, by omega⟩
    rw [ht, ha]
    refine c_X4_heldIn hd 256 n k _ ob_256 (Or.inr rfl) hV2 hC LS (LC_T f hL) (t : Int) (by omega) (by omega) (fun M2 f2 => ?_)
    have lt := hdBits_lt (V := vNm V (nmG V W j)) (LS := LS) (K := kAll (vNm V (nmG V W j)) k (t : Int)) (n := n) (y := (t : Int))
    rw [zb_bit (by omega) (by omega), bz_1, hN_bit (by omega)]
    refine ⟨fun q2 => ?_, fun q2 => ?_⟩
    · have := h M2 (FrT_tr f (FrC_T f2))
      rw [js, ht, ha, show ((t : Int)).toNat = t by omega, show ((a : Int)).toNat = a by omega, if_pos ⟨by omega, q2⟩] at this
      exact this
    · have := go M2 (FrT_tr f (FrC_T f2)) (CV_C (Or.inr rfl) f2 hC) (by rw [ht, ha, show ((t : Int)).toNat = t by omega, show ((a : Int)).toNat = a by omega]; exact fun z => q2 z.2)
      rw [ha] at this
      exact this
theorem l_X8_judge {d : Nat} {M0 : zM} {Q : Int → zM → Prop} (hd : 7 ≤ d) (n k : Nat) (V : zV) (LS : Option (List lwL)) (W : Nat → Int) (hV : Vok n k V) (hO : Ook n (V 0) W) (hR : RV n k V (evb n) M0) (h85 : ∀ p, p < n → zg M0 1285 p = V 2 p) (hL : LR M0 LS) : ∀ (x j : Nat) (M : zM), j + x = n → FrR M0 M → (∀ M2 : zM, FrR M0 M2 → Q (jdS V LS n k W x j) M2) → wp (Ev d) 8 cX8_judge (some .int) Q 6 [some (.ref 1280), some (zI (j : Int)), none] [] M
  | 0, j, M, e, f, h => by
    have hn := hV.1
    refine v_X8_judge_6 _ ?_
    rw [zw_n (a := j) (by omega), (RV_R f hR).1]
    exact ⟨fun z => absurd z (by omega), fun _ => h M f⟩
  | x + 1, j, M, e, f, h => by
    have hn := hV.1
    have jb := hO.1 j (by omega)
    obtain ⟨p, hp⟩ : ∃ p : Nat, W j = (p : Int) := ⟨(W j).toNat, by omega⟩
    have tp : ((p : Int)).toNat = p := by omega
    have v3 := hV.2.2.1 p (by omega)
    have hV2 := Vok_Nm hV (nmG_bd hO hV (j := j) (by omega))
    have hR2 := RV_R f hR
    have js : jdS V LS n k W (x + 1) j = if 0 ≤ V 2 p ∧ hN V LS n k (nmG V W j) (V 0 p).toNat (V 2 p).toNat = true then (p : Int) else jdS V LS n k W x (j + 1) := by rw [jdS, hp, tp]
    have e85 : ∀ M2 : zM, FrR M0 M2 → zg M2 1285 p = V 2 p := fun M2 g => by rw [g.1 _ _ (by omega) (by omega) (by omega) (by omega)]; exact h85 p (by omega)
    have nx : ∀ M2 : zM, FrR M0 M2 → ¬ (0 ≤ V 2 p ∧ hN V LS n k (nmG V W j) (V 0 p).toNat (V 2 p).toNat = true) → wp (Ev d) 8 cX8_judge (some .int) Q 6 [some (.ref 1280), some (zI ((j : Int) + 1)), none] [] M2 := by
      intro M2 f2 q
      rw [show (j : Int) + 1 = ((j + 1 : Nat) : Int) by omega]
      refine l_X8_judge hd n k V LS W hV hO hR h85 hL x (j + 1) M2 (by omega) f2 (fun M3 f3 => ?_)
      have := h M3 f3
      rw [js, if_neg q] at this
      exact this
    refine v_X8_judge_6 _ ?_
    rw [zw_n (a := j) (by omega), hR2.1]
    refine ⟨fun _ => c_X8_personAt (by omega) n hn hO hR2.1 (fun q hq => (hR2.2.2.2.1 q hq).1) p j (by omega) hp ?_, fun z => absurd (by omega) z⟩
    rw [zw_n (a := p) (by omega), tp, e85 M f, (hR2.2.2.2.1 p (by omega)).1]
    refine ⟨by omega, by omega, fun q => nx M f (fun z => absurd z.1 (by omega)), fun q => ⟨by omega, by omega, ?_⟩⟩
    obtain ⟨t, ht⟩ : ∃ t : Nat, V 0 p = (t : Int) := ⟨(V 0 p).toNat, by omega⟩
    obtain ⟨a, ha⟩ : ∃ a : Nat, V 2 p = (a : Int) := ⟨(V 2 p).toNat, by omega⟩
    rw [ht]
    have hRG := RV_G hO (show j < n by omega) hp hR2
    refine c_X8_findKnown (by omega) n k _ _ hV2 hRG (t : Int) (zw_n (by omega)) 0 (by omega) (fun M2 f1 f2 => ?_)
    have f3 := FrR_tr f (FrF_R f1)
    have hRG2 := RV_R (FrF_R f1) hRG
    have e0 : ∀ q, vNm V (nmG V W j) 0 q = V 0 q := fun q => vNm_ne _ _ (by omega) q
    refine ⟨by omega, by omega, by omega, by omega, c_X8_aheadOf (by omega) n hn (V 0) hRG2.1 (fun q hq => by rw [(hRG2.2.2.2.1 q hq).1, e0]) p (by omega) ?_⟩
    rw [e85 M2 f3, ha, (hRG2.2.2.2.1 p (by omega)).1, e0, ht]
    refine c_X8_isHeld hd n k _ _ hV2 hRG2 (bs_12 hn) LS (LR_R f3 hL) (kAll (vNm V (nmG V W j)) k (t : Int)) f2 (kup_lt hV2 k (by omega)) a (by omega) (t : Int) (by omega) (by omega) (fun M3 f4 => bz_br (fun q2 => nx M3 (FrR_tr f3 (FrQ_R f4)) ?_) (fun q2 => ?_))
    · rw [ht, ha, show ((t : Int)).toNat = t by omega, show ((a : Int)).toNat = a by omega]; exact fun z => q2 z.2
    · have := h M3 (FrR_tr f3 (FrQ_R f4))
      rw [js, ht, ha, show ((t : Int)).toNat = t by omega, show ((a : Int)).toNat = a by omega, if_pos ⟨by omega, q2⟩] at this
      exact this
theorem jdS_w {n k : Nat} {V : zV} {LS : Option (List lwL)} {W : Nat → Int} (hn : n ≤ 12) (hO : Ook n (V 0) W) : ∀ x j, j + x = n → zw (jdS V LS n k W x j) = jdS V LS n k W x j
  | 0, j, _ => by rw [jdS]; decide
  | x + 1, j, e => by
    have b := hO.1 j (by omega)
    rw [jdS]
    split
    · exact zw_of (by omega) (by omega)
    · exact jdS_w hn hO x (j + 1) (by omega)
theorem p_judge {d : Nat} {M : zM} (hd : 9 ≤ d) (hI : Inv M) : Pr d mX7_judge mX8_judge [] M := by
  obtain ⟨n, k, n1, k1, hV, hC, LS, hL, hL2⟩ := Inv_V hI
  have hn := hV.1
  have hO := Inv_O hI n1
  obtain ⟨d, rfl, hdd⟩ := e_of 8 hd; replace hd := hdd
  obtain ⟨d2, rfl, hdd⟩ := e_of 7 hd
  refine e_X7_judge (v_X7_judge_0 (e_X3_firstHeldAtBirth (v_X3_firstHeldAtBirth_0 (c_X3_begin (by omega) n k (vR M) hV hC (fun M2 f1 f2 f3 f4 f5 => ?_)))))
  refine l_X3_first (by omega) n k (vR M) LS (fun j => zg M 197 j) hV hO hC (fun _ _ => rfl) hL n 0 M2 (by omega) f1 f2 (fun M3 g => ?_)
  rw [jdS_w hn hO n 0 (by omega)]
  have fw := FrT_W g
  refine e_X8_judge (v_X8_judge_0 (c_X8_asNamed (by omega) n hn (by rw [g.1 _ _ (by omega) (by omega) (by omega) (by omega) (by omega)]; exact n1) (fun M4 h1 h2 => ?_)))
  have hA : ∀ i j, 1280 ≤ i → i < 1310 → zg M3 i j = zg M i j := fun i j _ _ => g.1 i j (by omega) (by omega) (by omega) (by omega) (by omega)
  have hR := RV_nm2 n1 k1 hn hA h1 h2
  have fw2 := FrW_tr fw (FrB_W (FrN_B h1))
  refine l_X8_judge (by omega) n k (vR M) LS (fun j => zg M 197 j) hV hO hR (fun p hp => by rw [h1.1 _ _ (by omega), hA _ _ (by omega) (by omega)]; rfl) (LR_fr (fun i j q => fw2.1 i j (by omega) (by omega) (by omega) (by omega) (by omega) (by omega) (by omega) (by omega) (by omega) (by omega) (by omega)) hL2) n 0 M4 (by omega) (FrR_rf M4) (fun M5 k1 => ⟨rfl, Inv_W (FrW_tr fw2 (FrB_W (FrR_B k1))) hI⟩)
