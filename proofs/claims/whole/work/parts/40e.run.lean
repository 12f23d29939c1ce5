/-! run, used -/
def gvn (g : Int) : Int := if g = -2 then -1 else g
def nmU (V : zV) (LS : Option (List lwL)) (n k : Nat) (W : Nat → Int) (way : Int) : Nat → (Nat → Int)
  | 0 => fun _ => -1
  | j + 1 => fun q => if q = (W j).toNat then gvn (chs V LS n k (nmU V LS n k W way j) way q) else nmU V LS n k W way j q
theorem nmU_bd (V : zV) (LS : Option (List lwL)) (n k : Nat) (W : Nat → Int) (way : Int) : ∀ j q, -1 ≤ nmU V LS n k W way j q ∧ nmU V LS n k W way j q < 12
  | 0, q => by show (-1 : Int) ≤ -1 ∧ (-1 : Int) < 12; decide
  | j + 1, q => by
    have bd := chs_bd V LS n k (nmU V LS n k W way j) way q
    have ih := nmU_bd V LS n k W way j q
    show -1 ≤ (if q = (W j).toNat then gvn (chs V LS n k (nmU V LS n k W way j) way q) else nmU V LS n k W way j q) ∧ (if q = (W j).toNat then gvn (chs V LS n k (nmU V LS n k W way j) way q) else nmU V LS n k W way j q) < 12
    split
    · unfold gvn; split <;> omega
    · exact ih
theorem nmU_s {V : zV} {LS : Option (List lwL)} {n k : Nat} {W : Nat → Int} {way : Int} {j p : Nat} (hp : W j = (p : Int)) (q : Nat) : nmU V LS n k W way (j + 1) q = if q = p then gvn (chs V LS n k (nmU V LS n k W way j) way p) else nmU V LS n k W way j q := by
  show (if q = (W j).toNat then gvn (chs V LS n k (nmU V LS n k W way j) way q) else nmU V LS n k W way j q) = _
  rw [hp, show ((p : Int)).toNat = p by omega]
  by_cases e : q = p
  · rw [if_pos e, if_pos e, e]
  · rw [if_neg e, if_neg e]
theorem nmU_no {n k : Nat} {V : zV} {LS : Option (List lwL)} {W : Nat → Int} {way : Int} (hO : Ook n (V 0) W) {q i : Nat} (hi : i < n) (hq : W i = (q : Int)) : ∀ j, j ≤ i → nmU V LS n k W way j q = -1
  | 0, _ => rfl
  | j + 1, hj => by
    have b := hO.1 j (by omega)
    obtain ⟨p, hp⟩ : ∃ p : Nat, W j = (p : Int) := ⟨(W j).toNat, by omega⟩
    rw [nmU_s hp, if_neg (fun z => by subst z; have := pos_u hO hi (show j < n by omega) hq hp; omega)]
    exact nmU_no hO hi hq j (by omega)
theorem way_w {way : Int} (hw : way = 0 ∨ way = 1 ∨ way = 2) : zw way = way := zw_of (by omega) (by omega)
theorem l_X3_nameAll {d : Nat} {M0 : zM} {Q : Int → zM → Prop} (hd : 6 ≤ d) (n k : Nat) (V : zV) (LS : Option (List lwL)) (W : Nat → Int) (hV : Vok n k V) (hO : Ook n (V 0) W) (way : Int) (hw : way = 0 ∨ way = 1 ∨ way = 2) (hL : LC M0 LS) (h : ∀ M2 : zM, FrT M0 M2 → CV 256 n k (vNm V (nmU V LS n k W way n)) M2 → (∀ j, j < n → zg M2 261 j = W j) → Q 0 M2) : ∀ (x j : Nat) (M : zM), j + x = n → FrT M0 M → CV 256 n k (vNm V (nmU V LS n k W way j)) M → (∀ j, j < n → zg M 261 j = W j) → (way = 1 → ∃ s : Nat, zg M 320 3 = (s : Int) ∧ (∀ a, a < 12 → zg M 323 a = lat V LS n k (nmU V LS n k W way j) a s) ∧ (∀ i, j ≤ i → i < n → (s : Int) ≤ V 0 (W i).toNat)) → wp (Ev d) 3 cX3_nameAll none Q 6 [some (.ref 320), some (zI way), some (zI (j : Int)), none, none] [] M
  | 0, j, M, e, f, hC, hW, hs => by
    have hn := hV.1
    refine v_X3_nameAll_6 _ _ ?_
    rw [zw_n (a := j) (by omega), hC.1]
    refine ⟨fun z => absurd z (by omega), fun _ => h M f ?_ hW⟩
    have ej : j = n := by omega
    subst ej
    exact hC
  | x + 1, j, M, e, f, hC, hW, hs => by
    have hn := hV.1
    have jb := hO.1 j (by omega)
    obtain ⟨p, hp⟩ : ∃ p : Nat, W j = (p : Int) := ⟨(W j).toNat, by omega⟩
    have tp : ((p : Int)).toNat = p := by omega
    have v3 := hV.2.2.1 p (by omega)
    obtain ⟨t, ht⟩ : ∃ t : Nat, V 0 p = (t : Int) := ⟨(V 0 p).toNat, by omega⟩
    have tt : (V 0 p).toNat = t := by omega
    have ww : zw way = way := way_w hw
    have hV2 := Vok_Nm hV (fun q _ => nmU_bd V LS n k W way j q)
    have e0 : ∀ q, vNm V (nmU V LS n k W way j) 0 q = V 0 q := fun q => vNm_ne _ _ (by omega) q
    have go : ∀ M2 : zM, FrT M0 M2 → CV 256 n k (vNm V (nmU V LS n k W way j)) M2 → (∀ j, j < n → zg M2 261 j = W j) → (way = 1 → zg M2 320 3 = (t : Int) ∧ (∀ a, a < 12 → zg M2 323 a = lat V LS n k (nmU V LS n k W way j) a t)) → wp (Ev d) 3 cX3_nameAll none Q 45 [some (.ref 320), some (zI way), some (zI (j : Int)), some (zI (p : Int)), none] [] M2 := by
      intro M2 f2 hC2 hW2 hs2
      refine v_X3_nameAll_45 _ _ _ (c_X3_choose hd n k V LS _ hV2 hC2 (LC_T f2 hL) way hw p (by omega) (fun w a ha => by rw [tt]; exact (hs2 w).2 a ha) (fun M3 f3 => ?_))
      have bd := chs_bd V LS n k (nmU V LS n k W way j) way p
      have ns := nmU_s (V := V) (LS := LS) (n := n) (k := k) (way := way) hp
      generalize hg : chs V LS n k (nmU V LS n k W way j) way p = g at bd ns
      have fin : ∀ v : Int, zw v = v → v = gvn g → wp (Ev d) 3 cX3_nameAll none Q 6 [some (.ref 320), some (zI way), some (zI ((j : Int) + 1)), none, none] [] (zs M3 260 p v) := by
        intro v hv1 hv2
        rw [show (j : Int) + 1 = ((j + 1 : Nat) : Int) by omega]
        refine l_X3_nameAll hd n k V LS W hV hO way hw hL h x (j + 1) _ (by omega) (FrT_tr f2 (FrT_tr (FrC_T f3) (FrT_260 _ _ _))) (CV_set hv1 (fun q _ => by rw [ns, hv2]) (CV_C (Or.inr rfl) f3 hC2)) (fun i hi => by rw [zg_zsi _ _ _ _ (by omega), f3.1 _ _ (by omega) (by omega) (by omega) (by omega) (by omega)]; exact hW2 i hi) (fun w => ⟨t, ?_, fun a ha => ?_, fun i h1 h2 => ?_⟩)
        · rw [zg_zsi _ _ _ _ (by omega), f3.1 _ _ (by omega) (by omega) (by omega) (by omega) (by omega)]; exact (hs2 w).1
        · rw [zg_zsi _ _ _ _ (by omega), f3.1 _ _ (by omega) (by omega) (by omega) (by omega) (by omega), (hs2 w).2 a ha]
          refine lat_cg a t (fun b _ q => ?_)
          rw [ns, if_neg (fun z => by subst z; omega)]
        · have := hO.2.1 j i (by omega) h2
          rw [hp, tp] at this
          omega
      rw [zw_of (a := g) (by omega) (by omega), zw_n (a := p) (by omega), tp]
      refine ⟨fun q => ⟨by omega, by omega, ?_⟩, fun q => ⟨by omega, by omega, ?_⟩⟩
      · rintro _ rfl
        exact fin _ (by decide) (by unfold gvn; rw [if_pos q])
      · rintro _ rfl
        exact fin _ (zw_of (by omega) (by omega)) (by unfold gvn; rw [if_neg q])
    refine v_X3_nameAll_6 _ _ ?_
    rw [zw_n (a := j) (by omega), hC.1, show ((j : Int)).toNat = j by omega, hW j (by omega), hp, tp, ww, (hC.2.2.2.1 p (by omega)).1, e0, ht]
    refine ⟨fun _ => ⟨by omega, by omega, fun q => ⟨by omega, by omega, ?_⟩, fun q => go M f hC hW (fun z => absurd z q)⟩, fun z => absurd (by omega) z⟩
    obtain ⟨s, s1, s2, s3⟩ := hs q
    have s4 := s3 j (by omega) (by omega)
    rw [hp, tp, ht] at s4
    refine c_X3_note hd n k V LS _ hV2 t s (by omega) (by omega) hC (LC_T f hL) s1 s2 (fun M2 g1 g2 g3 => go M2 (FrT_tr f (FrH_T g1)) (CV_H g1 hC) (fun i hi => ?_) (fun _ => ⟨g2, g3⟩))
    rw [g1.1 _ _ (by omega) (by omega) (by omega) (by omega) (by omega) (by omega) (by omega)]; exact hW i hi
theorem c_X3_nameAll {d : Nat} {M : zM} {Q : Int → zM → Prop} (hd : 7 ≤ d) (n k : Nat) (V : zV) (LS : Option (List lwL)) (W : Nat → Int) (hV : Vok n k V) (hO : Ook n (V 0) W) (way : Int) (hw : way = 0 ∨ way = 1 ∨ way = 2) (hL : LC M LS) (N : Nat → Int) (hC : CV 256 n k (vNm V N) M) (hW : ∀ j, j < n → zg M 261 j = W j) (h : ∀ M2 : zM, FrT M M2 → CV 256 n k (vNm V (nmU V LS n k W way n)) M2 → (∀ j, j < n → zg M2 261 j = W j) → Q 0 M2) : Ev d mX3_nameAll [.ref 320, zI way] M Q := by
  obtain ⟨d, rfl, hdd⟩ := e_of 6 hd; replace hd := hdd
  have hn := hV.1
  refine e_X3_nameAll _ (v_X3_nameAll_0 _ (c_X3_forgetNames (by omega) (fun M2 f1 f2 f3 f4 f5 => ?_)))
  have ft : FrT M M2 := ⟨fun i j _ _ _ _ q => f1 i j (by omega) (by omega) (by omega), f2⟩
  obtain ⟨c1, c2, c3, c4, c5, c6⟩ := hC
  have z : ∀ i j, i ≠ 260 → i ≠ 323 → i ≠ 320 → zg M2 i j = zg M i j := fun i j a b c => f1 i j (by omega) (by omega) (by omega)
  have e2 : ∀ r j, r ≠ 2 → vNm V (nmU V LS n k W way 0) r j = vNm V N r j := fun r j q => by rw [vNm_ne _ _ q, vNm_ne _ _ q]
  refine l_X3_nameAll hd n k V LS W hV hO way hw hL h n 0 M2 (by omega) ft ⟨by rw [z _ _ (by omega) (by omega) (by omega)]; exact c1, by rw [z _ _ (by omega) (by omega) (by omega)]; exact c2, by rw [z _ _ (by omega) (by omega) (by omega), e2 9 _ (by omega)]; exact c3, fun q hq => ⟨by rw [z _ _ (by omega) (by omega) (by omega), e2 0 _ (by omega)]; exact (c4 q hq).1, by rw [z _ _ (by omega) (by omega) (by omega), e2 1 _ (by omega)]; exact (c4 q hq).2.1, by rw [vNm_2]; exact f3 q (by omega)⟩, fun m hm => ⟨by rw [z _ _ (by omega) (by omega) (by omega), e2 3 _ (by omega)]; exact (c5 m hm).1, by rw [z _ _ (by omega) (by omega) (by omega), e2 4 _ (by omega)]; exact (c5 m hm).2.1, by rw [z _ _ (by omega) (by omega) (by omega), e2 5 _ (by omega)]; exact (c5 m hm).2.2.1, by rw [z _ _ (by omega) (by omega) (by omega), e2 6 _ (by omega)]; exact (c5 m hm).2.2.2⟩, fun a ha => ⟨by rw [z _ _ (by omega) (by omega) (by omega), e2 7 _ (by omega)]; exact (c6 a ha).1, by rw [z _ _ (by omega) (by omega) (by omega), e2 8 _ (by omega)]; exact (c6 a ha).2⟩⟩ (fun j hj => by rw [z _ _ (by omega) (by omega) (by omega)]; exact hW j hj) (fun _ => ⟨0, f5, fun a ha => by rw [f4 a ha, lat_0], fun i _ hi => ?_⟩)
  have b := hO.1 i hi
  have := hV.2.2.1 (W i).toNat (by omega)
  omega
/-! the reference -/
theorem RVN_B {n k : Nat} {V : zV} {M M2 : zM} (h : RV n k (vN V) 0 M) (f : FrB M M2) : RV n k (vN V) 0 M2 := by
  have e : ∀ a j, (1280 ≤ a ∧ a < 1310) → zg M2 a j = zg M a j := fun a j ha => f.1 a j (by omega) (by omega) (by omega) (by omega) (by omega) (by omega) (by omega) (by omega) (by omega) (by omega)
  obtain ⟨c1, c2, c3, c4, c5, c6⟩ := h
  refine ⟨by rw [e _ _ (by omega)]; exact c1, by rw [e _ _ (by omega)]; exact c2, by rw [e _ _ (by omega)]; exact c3, fun p hp => ⟨by rw [e _ _ (by omega)]; exact (c4 p hp).1, by rw [e _ _ (by omega)]; exact (c4 p hp).2.1, ?_⟩, fun m hm => ⟨by rw [e _ _ (by omega)]; exact (c5 m hm).1, by rw [e _ _ (by omega)]; exact (c5 m hm).2.1, by rw [e _ _ (by omega)]; exact (c5 m hm).2.2⟩, fun a ha => ⟨by rw [e _ _ (by omega)]; exact (c6 a ha).1, by rw [e _ _ (by omega)]; exact (c6 a ha).2⟩⟩
  rw [(c4 p hp).2.2, Nat.zero_testBit, if_neg (by decide), if_neg (by decide)]
theorem FrB_15 (M : zM) (j : Nat) (v : Int) : FrB M (zs M 1315 j v) := ⟨fun i j _ _ _ _ _ _ _ _ _ a => by rw [zg_zsi _ _ _ _ a], fun _ _ => rfl⟩
theorem l_X8_runBy {d : Nat} {M0 : zM} {Q : Int → zM → Prop} (hd : 9 ≤ d) (n k : Nat) (V : zV) (LS : Option (List lwL)) (W : Nat → Int) (hV : Vok n k V) (hO : Ook n (V 0) W) (way : Int) (hw : way = 0 ∨ way = 1 ∨ way = 2) (hR : RV n k (vN V) 0 M0) (hL : LR M0 LS) (h : ∀ M2 : zM, FrB M0 M2 → (∀ q, q < n → zg M2 1315 q = nmU V LS n k W way n q) → Q 0 M2) : ∀ (x j : Nat) (M : zM), j + x = n → FrB M0 M → (∀ q, q < n → zg M 1315 q = nmU V LS n k W way j q) → wp (Ev d) 8 cX8_runBy none Q 23 [some (.ref 1280), some (zI way), some (zI (j : Int)), none, none] [] M
  | 0, j, M, e, f, g => by
    have hn := hV.1
    refine v_X8_runBy_23 _ _ ?_
    rw [zw_n (a := j) (by omega), (RVN_B hR f).1]
    refine ⟨fun z => absurd z (by omega), fun _ => h M f ?_⟩
    have ej : j = n := by omega
    subst ej
    exact g
  | x + 1, j, M, e, f, g => by
    have hn := hV.1
    have jb := hO.1 j (by omega)
    obtain ⟨p, hp⟩ : ∃ p : Nat, W j = (p : Int) := ⟨(W j).toNat, by omega⟩
    have tp : ((p : Int)).toNat = p := by omega
    have hR2 := RVN_B hR f
    have hV2 := Vok_Nm hV (fun q _ => nmU_bd V LS n k W way j q)
    have eN : ∀ r i, r ≠ 2 → vN V r i = V r i := fun r i q => (vN_ne V r i q).symm
    have hR3 : RV n k (vNm V (nmU V LS n k W way j)) (bs (fun o => ahB (V 0) o p) n) M := by
      refine RV_re hR2 (fun r i q => by rw [vNm_ne _ _ q, eN r i q]) (fun q hq => ?_)
      obtain ⟨i, i1, i2⟩ := hO.2.2 q hq
      rw [vNm_2, bs_bit, decide_eq_true hq, Bool.true_and, g q hq]
      by_cases y : i < j
      · rw [if_pos ((ah_k hO i1 (show j < n by omega) i2 hp).mpr y)]
      · rw [if_neg (fun z => y ((ah_k hO i1 (show j < n by omega) i2 hp).mp z)), nmU_no hO i1 i2 j (by omega)]
    refine v_X8_runBy_23 _ _ ?_
    rw [zw_n (a := j) (by omega), hR2.1]
    refine ⟨fun _ => c_X8_personAt (by omega) n hn hO hR2.1 (fun q hq => by rw [(hR2.2.2.2.1 q hq).1, eN 0 q (by omega)]) p j (by omega) hp ?_, fun z => absurd (by omega) z⟩
    refine c_X8_given hd n k V LS _ hV2 p (by omega) hR3 (LR_B f hL) way hw (fun M2 f2 => ?_)
    have bd := chs_bd V LS n k (nmU V LS n k W way j) way p
    have ns := nmU_s (V := V) (LS := LS) (n := n) (k := k) (way := way) hp
    generalize hg : chs V LS n k (nmU V LS n k W way j) way p = y at bd ns
    have fin : ∀ v : Int, zw v = v → v = gvn y → wp (Ev d) 8 cX8_runBy none Q 23 [some (.ref 1280), some (zI way), some (zI ((j : Int) + 1)), none, none] [] (zs M2 1315 p v) := by
      intro v hv1 hv2
      rw [show (j : Int) + 1 = ((j + 1 : Nat) : Int) by omega]
      refine l_X8_runBy hd n k V LS W hV hO way hw hR hL h x (j + 1) _ (by omega) (FrB_tr f (FrB_tr (FrR_B f2) (FrB_15 _ _ _))) (fun q hq => ?_)
      rw [ns]
      by_cases y2 : q = p
      · subst y2; rw [if_pos rfl, zg_zs1, hv1, hv2]
      · rw [if_neg y2, zg_zsj _ _ _ _ y2, f2.1 _ _ (by omega) (by omega) (by omega) (by omega)]; exact g q hq
    rw [zw_of (a := y) (by omega) (by omega), zw_n (a := p) (by omega), tp]
    refine ⟨fun q => ⟨by omega, by omega, ?_⟩, fun q => ⟨by omega, by omega, ?_⟩⟩
    · rintro _ rfl
      exact fin _ (by decide) (by unfold gvn; rw [if_pos (by omega)])
    · rintro _ rfl
      exact fin _ (zw_of (by omega) (by omega)) (by unfold gvn; rw [if_neg (by omega)])
theorem c_X8_runBy {d : Nat} {M : zM} {Q : Int → zM → Prop} (hd : 10 ≤ d) (n k : Nat) (V : zV) (LS : Option (List lwL)) (W : Nat → Int) (hV : Vok n k V) (hO : Ook n (V 0) W) (way : Int) (hw : way = 0 ∨ way = 1 ∨ way = 2) (hR : RV n k (vN V) 0 M) (hL : LR M LS) (h : ∀ M2 : zM, FrB M M2 → (∀ q, q < n → zg M2 1315 q = nmU V LS n k W way n q) → Q 0 M2) : Ev d mX8_runBy [.ref 1280, zI way] M Q := by
  obtain ⟨d, rfl, hdd⟩ := e_of 9 hd; replace hd := hdd
  have hn := hV.1
  have l : ∀ (x i : Nat) (M2 : zM), i + x = 12 → FrB M M2 → (∀ q, q < i → zg M2 1315 q = -1) → wp (Ev d) 8 cX8_runBy none Q 2 [some (.ref 1280), some (zI way), some (zI (i : Int)), none, none] [] M2 := by
    intro x
    induction x with
    | zero =>
      intro i M2 e f g
      refine v_X8_runBy_2 _ _ ?_
      rw [zw_n (a := i) (by omega)]
      refine ⟨fun z => absurd z (by omega), fun _ => ?_⟩
      exact l_X8_runBy hd n k V LS W hV hO way hw hR hL h n 0 M2 (by omega) f (fun q hq => g q (by omega))
    | succ x ih =>
      intro i M2 e f g
      refine v_X8_runBy_2 _ _ ?_
      rw [zw_n (a := i) (by omega), show ((i : Int)).toNat = i by omega, show (i : Int) + 1 = ((i + 1 : Nat) : Int) by omega]
      refine ⟨fun _ => ⟨by omega, by omega, ?_⟩, fun z => absurd (by omega) z⟩
      rintro _ rfl
      refine ih (i + 1) _ (by omega) (FrB_tr f (FrB_15 _ _ _)) (fun q hq => ?_)
      by_cases y : q = i
      · subst y; rw [zg_zs1]; decide
      · rw [zg_zsj _ _ _ _ y]; exact g q (by omega)
  exact e_X8_runBy _ (v_X8_runBy_0 _ (l 12 0 M (by omega) (FrB_rf M) (fun q hq => absurd hq (by omega))))
theorem RV_W0 {M M2 : zM} {n k : Nat} (h1 : zg M 1280 1 = (n : Int)) (h5 : zg M 1280 5 = (k : Int)) (h : FrW M M2) : RV n k (vN (vR M)) 0 M2 := by
  have e : ∀ a j, (1280 ≤ a ∧ a < 1310) → zg M2 a j = zg M a j := fun a j ha => h.1 a j (by omega) (by omega) (by omega) (by omega) (by omega) (by omega) (by omega) (by omega) (by omega) (by omega) (by omega)
  refine ⟨by rw [e _ _ (by omega)]; exact h1, by rw [e _ _ (by omega)]; exact h5, by rw [e _ _ (by omega)]; rfl, fun p hp => ⟨by rw [e _ _ (by omega)]; rfl, by rw [e _ _ (by omega)]; rfl, by rw [Nat.zero_testBit, if_neg (by decide)]; rfl⟩, fun m hm => ⟨by rw [e _ _ (by omega)]; rfl, by rw [e _ _ (by omega)]; rfl, by rw [e _ _ (by omega)]; rfl⟩, fun a ha => ⟨by rw [e _ _ (by omega)]; rfl, by rw [e _ _ (by omega)]; rfl⟩⟩
theorem LR_W {LS : Option (List lwL)} {M M2 : zM} (h : FrW M M2) (g : LR M LS) : LR M2 LS := LR_fr (fun i j q => h.1 i j (by omega) (by omega) (by omega) (by omega) (by omega) (by omega) (by omega) (by omega) (by omega) (by omega) (by omega)) g
theorem W1 {M M1 : zM} (fa : FrW M M1) (j : Nat) : zg M1 1280 j = zg M 1280 j := fa.1 _ _ (by omega) (by omega) (by omega) (by omega) (by omega) (by omega) (by omega) (by omega) (by omega) (by omega) (by omega)
theorem p_run {d : Nat} {M : zM} (hd : 11 ≤ d) (w v : Int) (hw : zw w = w) (hv : zw v = v) (hI : Inv M) : Pr d mX7_run mX8_run [zI w, zI v] M := by
  obtain ⟨n, k, n1, k1, hV, hC, LS, hL, hL2⟩ := Inv_V hI
  have hn := hV.1
  have hO := Inv_O hI n1
  obtain ⟨d, rfl, hdd⟩ := e_of 10 hd; replace hd := hdd
  have R : ∀ (r : Int) (M1 : zM), FrW M M1 → (¬ ((0 ≤ w ∧ w < 3) ∧ 0 ≤ v ∧ v < (n : Int)) → r = -1) → ((0 ≤ w ∧ w < 3) ∧ 0 ≤ v ∧ v < (n : Int) → r = if nmU (vR M) LS n k (fun j => zg M 197 j) w n v.toNat < 0 then -2 else nmU (vR M) LS n k (fun j => zg M 197 j) w n v.toNat) → Ev (d + 1) mX8_run [.ref 1280, zI w, zI v] M1 (fun r2 M2 => r = r2 ∧ Inv M2) := by
    intro r M1 fw hb hg
    refine e_X8_run _ _ (v_X8_run_0 _ _ (c_X8_in (by omega) _ _ _ ?_))
    rw [hw, zq_0, zq_2]
    refine bz_br (fun q => ⟨hb (by omega), Inv_W fw hI⟩) (fun q => c_X8_isPerson (by omega) v (by rw [W1 fw]; omega) ?_)
    rw [hv, W1 fw, n1]
    refine bz_br (fun q2 => ⟨hb (by omega), Inv_W fw hI⟩) (fun q2 => ?_)
    have g := hg ⟨by omega, q2⟩
    refine c_X8_runBy hd n k (vR M) LS (fun j => zg M 197 j) hV hO w (by omega) (RV_W0 n1 k1 fw) (LR_W fw hL2) (fun M2 f1 f2 => ?_)
    rw [f2 v.toNat (by omega)]
    have iv := Inv_W (FrW_tr fw (FrB_W f1)) hI
    refine ⟨by omega, by omega, fun y => ⟨?_, iv⟩, fun y => ⟨by omega, by omega, ?_, iv⟩⟩
    · rw [g, if_pos y]
    · rw [g, if_neg y]
  refine e_X7_run _ _ (v_X7_run_0 _ _ (c_X7_isWay (by omega) w ?_))
  rw [hw]
  refine bz_br (fun q => R _ _ (FrW_rf M) (fun _ => rfl) (fun z => absurd z.1 q)) (fun q => c_X4_hasPerson (by omega) 192 ob_192 v ?_)
  rw [hv, hC.1]
  refine bz_br (fun q2 => R _ _ (FrW_rf M) (fun _ => rfl) (fun z => absurd z.2 q2)) (fun q2 => c_X3_begin (by omega) n k (vR M) hV hC (fun M2 f1 f2 f3 f4 f5 => ?_))
  refine c_X3_nameAll (by omega) n k (vR M) LS (fun j => zg M 197 j) hV hO w (by omega) (LC_T f1 hL) _ f2 f3 (fun M3 g1 g2 g3 => ?_)
  have fw := FrT_W (FrT_tr f1 g1)
  have nb := nmU_bd (vR M) LS n k (fun j => zg M 197 j) w n v.toNat
  have c := (g2.2.2.2.1 v.toNat (by omega)).2.2
  rw [vNm_2] at c
  rw [show zg M3 260 v.toNat = _ from c]
  refine ⟨by omega, by omega, fun y => R _ _ fw (fun z => absurd ⟨q, q2⟩ z) (fun _ => ?_), fun y => R _ _ fw (fun z => absurd ⟨q, q2⟩ z) (fun _ => ?_)⟩
  · rw [if_pos (by omega)]
  · rw [if_neg (by omega)]
