/-! give -/
theorem lat_0 (V : zV) (LS : Option (List lwL)) (n k : Nat) (N : Nat → Int) (a : Nat) : lat V LS n k N a 0 = -1 := rfl
theorem c_X3_chosenFor {d : Nat} {M : zM} {Q : Int → zM → Prop} (hd : 8 ≤ d) (n k : Nat) (V : zV) (LS : Option (List lwL)) (W : Nat → Int) (hV : Vok n k V) (hO : Ook n (V 0) W) (hC : CV 192 n k V M) (hW : ∀ j, j < n → zg M 197 j = W j) (hL : LC M LS) (way : Int) (hw : way = 0 ∨ way = 1 ∨ way = 2) (p pl : Nat) (hpl : pl < n) (hp : W pl = (p : Int)) (h : ∀ M2 : zM, FrT M M2 → Q (chs V LS n k (nmG V W pl) way p) M2) : Ev d mX3_chosenFor [.ref 320, zI (p : Int), zI way] M Q := by
  obtain ⟨d, rfl, hdd⟩ := e_of 7 hd; replace hd := hdd
  have hn := hV.1
  have pb := hO.1 pl hpl
  have tp : ((p : Int)).toNat = p := by omega
  have v3 := hV.2.2.1 p (by omega)
  have ww : zw way = way := zw_of (by omega) (by omega)
  have hV2 := Vok_Nm hV (nmG_bd hO hV (j := pl) (by omega))
  have last : ∀ M2 : zM, FrT M M2 → CV 256 n k (vNm V (nmG V W pl)) M2 → (way = 1 → ∀ a, a < 12 → zg M2 323 a = lat V LS n k (nmG V W pl) a (V 0 p).toNat) → wp (Ev d) 3 cX3_chosenFor (some .int) Q 88 [some (.ref 320), some (zI (p : Int)), some (zI way), none] [] M2 := by
    intro M2 f hC2 hl
    refine v_X3_chosenFor_88 _ _ (c_X3_choose (by omega) n k V LS _ hV2 hC2 (LC_T f hL) way hw p (by omega) hl (fun M3 f3 => ?_))
    have bd := chs_bd V LS n k (nmG V W pl) way p
    rw [zw_of (a := chs V LS n k (nmG V W pl) way p) (by omega) (by omega)]
    exact h M3 (FrT_tr f (FrC_T f3))
  have l : ∀ (x j : Nat) (M2 : zM), j + x = pl → FrT M M2 → CV 256 n k (vNm V (nmG V W j)) M2 → (∀ a, a < 12 → zg M2 323 a = -1) → zg M2 320 3 = 0 → wp (Ev d) 3 cX3_chosenFor (some .int) Q 6 [some (.ref 320), some (zI (p : Int)), some (zI way), some (zI (j : Int))] [] M2 := by
    intro x
    induction x with
    | zero =>
      intro j M2 e f hC2 h23 h3
      have ej : j = pl := by omega
      subst ej
      have f192 : ∀ i j, 192 ≤ i → i < 207 → zg M2 i j = zg M i j := fun i j _ _ => f.1 i j (by omega) (by omega) (by omega) (by omega) (by omega)
      refine v_X3_chosenFor_6 _ _ _ ?_
      rw [zw_n (a := j) (by omega), f192 192 5 (by omega) (by omega), hC.1, show ((j : Int)).toNat = j by omega, f192 197 _ (by omega) (by omega), hW j hpl, hp, zw_n (a := p) (by omega)]
      refine ⟨fun _ => ⟨by omega, by omega, fun _ => v_X3_chosenFor_70 _ _ ?_, fun z => absurd rfl z⟩, fun z => absurd (by omega) z⟩
      rw [ww, zw_n (a := p) (by omega), tp, f192 194 _ (by omega) (by omega), show zg M 194 p = V 0 p from (hC.2.2.2.1 p (by omega)).1]
      refine ⟨fun q => ⟨by omega, by omega, ?_⟩, fun q => last M2 f hC2 (fun z => absurd z q)⟩
      obtain ⟨t, ht⟩ : ∃ t : Nat, V 0 p = (t : Int) := ⟨(V 0 p).toNat, by omega⟩
      rw [ht]
      refine c_X3_note (by omega) n k V LS _ hV2 t 0 (by omega) (by omega) hC2 (LC_T f hL) h3 (fun a ha => by rw [h23 a ha, lat_0]) (fun M3 g1 g2 g3 => last M3 (FrT_tr f (FrH_T g1)) (CV_H g1 hC2) (fun _ a ha => ?_))
      rw [g3 a ha, ht, show ((t : Int)).toNat = t by omega]
    | succ x ih =>
      intro j M2 e f hC2 h23 h3
      have jb := hO.1 j (by omega)
      obtain ⟨q, hq⟩ : ∃ q : Nat, W j = (q : Int) := ⟨(W j).toNat, by omega⟩
      have tq : ((q : Int)).toNat = q := by omega
      have v4 := hV.2.2.1 q (by omega)
      have f192 : ∀ i j, 192 ≤ i → i < 207 → zg M2 i j = zg M i j := fun i j _ _ => f.1 i j (by omega) (by omega) (by omega) (by omega) (by omega)
      refine v_X3_chosenFor_6 _ _ _ ?_
      rw [zw_n (a := j) (by omega), f192 192 5 (by omega) (by omega), hC.1, show ((j : Int)).toNat = j by omega, f192 197 _ (by omega) (by omega), hW j (by omega), hq, tq, zw_n (a := p) (by omega), f192 196 _ (by omega) (by omega), show zg M 196 q = V 2 q from (hC.2.2.2.1 q (by omega)).2.2, show (j : Int) + 1 = ((j + 1 : Nat) : Int) by omega]
      refine ⟨fun _ => ⟨by omega, by omega, fun z => ?_, fun _ => ⟨by omega, by omega, by omega, by omega, by omega, by omega, by omega, by omega, ?_⟩⟩, fun z => absurd (by omega) z⟩
      · have := pos_u hO (show j < n by omega) hpl (by rw [hq]; exact z) hp
        omega
      · rintro _ rfl
        refine ih (j + 1) _ (by omega) (FrT_tr f (FrT_260 _ _ _)) (CV_set (zw_of (by omega) (by omega)) (fun y _ => ?_) hC2) (fun a ha => by rw [zg_zsi _ _ _ _ (by omega)]; exact h23 a ha) (by rw [zg_zsi _ _ _ _ (by omega)]; exact h3)
        rw [nmG, hq, tq]
        by_cases y2 : y = q
        · rw [if_pos y2, if_pos y2, y2]
        · rw [if_neg y2, if_neg y2]
  refine e_X3_chosenFor _ _ (v_X3_chosenFor_0 _ _ (c_X3_begin (by omega) n k V hV hC (fun M2 f1 f2 f3 f4 f5 => ?_)))
  exact l pl 0 M2 (by omega) f1 f2 f4 f5
theorem Inv_name {M M2 : zM} {p : Nat} {g : Int} (hF : ∀ i j, cInv i j = true → i ≠ 196 → i ≠ 1285 → zg M2 i j = zg M i j) (hZ : ∀ i j, zh M2 i j = zh M i j) (hp : ∀ q : Nat, (q : Int) < zg M 1280 1 → zg M2 196 q = zg M2 1285 q ∧ -1 ≤ zg M2 1285 q ∧ zg M2 1285 q < 12) (hI : Inv M) : Inv M2 := by
  obtain ⟨h1, h2, h3, h4, h5, h6, h7, h8, h9, h10, h11, h12, h13, h14⟩ := hI
  have k1 : zg M2 1280 1 = zg M 1280 1 := hF 1280 1 rfl (by omega) (by omega)
  refine ⟨IP_fr (fun i j h => hF i j ?_ ?_ ?_) h1, ID_fr (fun i j h => hF i j ?_ ?_ ?_) h2, fun q hq => hp q (by rw [k1] at hq; exact hq), IM_fr (fun i j h => hF i j ?_ ?_ ?_) h4, IH_fr (fun i j h => hF i j ?_ ?_ ?_) h5, IW_fr (fun i j h => hF i j ?_ ?_ ?_) h6, IF_fr (fun i j h => hF i j ?_ ?_ ?_) h7, IC_fr (fun i j h => hF i j ?_ ?_ ?_) h8, II_fr (fun i j h => hF i j ?_ ?_ ?_) h9, IT_fr (fun i j h => hF i j ?_ ?_ ?_) h10, IL_fr (fun i j h => hF i j ?_ ?_ ?_) h11, IG_fr (fun i j h => hF i j ?_ ?_ ?_) h12, IR_fr (fun i j h => hF i j ?_ ?_ ?_) h13, IS_fr (fun i j h => hF i j ?_ ?_ ?_) (fun i j _ => hZ i j) h14⟩ <;>
  first
  | (simp only [cInv, h, Bool.or_true, Bool.true_or]; done)
  | (simp [cIP, cID, cIN, cIM, cIH, cIW, cIF, cIC, cII, cIT, cIL, cIG, cIR, cIS] at h; omega)
theorem p_give {d : Nat} {M : zM} (hd : 11 ≤ d) (v w : Int) (hv : zw v = v) (hw : zw w = w) (hI : Inv M) : Pr d mX7_give mX8_give [zI v, zI w] M := by
  obtain ⟨n, k, n1, k1, hV, hC, LS, hL, hL2⟩ := Inv_V hI
  have hn := hV.1
  have hO := Inv_O hI n1
  have h3 := hI.2.2.1
  obtain ⟨d, rfl, hdd⟩ := e_of 10 hd; replace hd := hdd
  obtain ⟨c1, c2, c3, c4, c5, c6⟩ := id hC
  have B : ∀ (r : Int), (¬ ((0 ≤ v ∧ v < (n : Int)) ∧ 0 ≤ w ∧ w < 3) → r = -1) → ((0 ≤ v ∧ v < (n : Int)) ∧ 0 ≤ w ∧ w < 3 → ¬ zg M 1285 v.toNat < 0 ∧ r = -5) → Ev (d + 1) mX8_give [.ref 1280, zI v, zI w] M (fun r2 M2 => r = r2 ∧ Inv M2) := by
    intro r hb hg
    refine e_X8_give _ _ (v_X8_give_0 _ _ (c_X8_isPerson (by omega) v (by omega) ?_))
    rw [hv, n1]
    refine bz_br (fun q => ⟨hb (by omega), hI⟩) (fun q => c_X8_in (by omega) _ _ _ ?_)
    rw [hw, zq_0, zq_2]
    refine bz_br (fun q2 => ⟨hb (by omega), hI⟩) (fun q2 => ?_)
    have g := hg ⟨q, by omega, by omega⟩
    exact ⟨by omega, by omega, fun z => absurd z g.1, fun _ => ⟨g.2, hI⟩⟩
  refine e_X7_give _ _ (v_X7_give_0 _ _ (c_X4_hasPerson (by omega) 192 ob_192 v ?_))
  rw [hv, c1]
  refine bz_br (fun q => B _ (fun _ => rfl) (fun z => absurd z.1 q)) (fun q => c_X7_isWay (by omega) w ?_)
  rw [hw]
  refine bz_br (fun q2 => B _ (fun _ => rfl) (fun z => absurd z.2 q2)) (fun q2 => ?_)
  obtain ⟨p, hp⟩ : ∃ p : Nat, v = (p : Int) := ⟨v.toNat, by omega⟩
  have tp : v.toNat = p := by omega
  have nb := h3 p (by omega)
  obtain ⟨pl, pl1, pl2⟩ := hO.2.2 p (by omega)
  have hw3 : w = 0 ∨ w = 1 ∨ w = 2 := by omega
  rw [tp]
  refine ⟨by omega, by omega, fun q3 => ?_, fun q3 => B _ (fun z => absurd ⟨q, q2⟩ z) (fun _ => ⟨by rw [tp]; omega, rfl⟩)⟩
  rw [hp]
  refine c_X3_chosenFor (by omega) n k (vR M) LS (fun j => zg M 197 j) hV hO hC (fun _ _ => rfl) hL w hw3 p pl pl1 pl2 (fun M2 f => ?_)
  have bd := chs_bd (vR M) LS n k (nmG (vR M) (fun j => zg M 197 j) pl) w p
  generalize hg : chs (vR M) LS n k (nmG (vR M) (fun j => zg M 197 j) pl) w p = g at bd
  have wg : zw g = g := zw_of (by omega) (by omega)
  rw [wg]
  have R : ∀ M3 : zM, (∀ i j, 1280 ≤ i → zg M3 i j = zg M i j) → (∀ i j, zh M3 i j = zh M i j) → (∀ i j, cInv i j = true → i ≠ 196 → i < 1280 → zg M3 i j = zg M i j) → (g = -2 → ∀ q : Nat, q < n → zg M3 196 q = zg M 196 q) → (g ≠ -2 → ∀ q : Nat, q < n → zg M3 196 q = if q = p then g else zg M 196 q) → Ev (d + 1) mX8_give [.ref 1280, zI (p : Int), zI w] M3 (fun r2 M4 => g = r2 ∧ Inv M4) := by
    intro M3 r1 r2 r3 r4 r5
    have x1 : zg M3 1280 1 = (n : Int) := by rw [r1 _ _ (by omega)]; exact n1
    refine e_X8_give _ _ (v_X8_give_0 _ _ (c_X8_isPerson (by omega) _ (by omega) ?_))
    rw [← hp, hv, x1]
    refine bz_br (fun z => absurd q z) (fun _ => c_X8_in (by omega) _ _ _ ?_)
    rw [hw, zq_0, zq_2]
    refine bz_br (fun z => absurd (by omega) z) (fun _ => ?_)
    rw [tp, r1 1285 _ (by omega)]
    refine ⟨by omega, by omega, fun _ => ?_, fun z => absurd (by omega) z⟩
    refine c_X8_asNamed (by omega) n hn x1 (fun M4 f1 f2 => ?_)
    have hR := RV_nm2 n1 k1 hn (fun i j a _ => r1 i j a) f1 f2
    have hRG := RV_G hO pl1 pl2 hR
    have hV2 := Vok_Nm hV (nmG_bd hO hV (j := pl) (by omega))
    have hLR : LR M4 LS := LR_fr (fun i j a => by rw [f1.1 _ _ (by omega), r1 _ _ (by omega)]) hL2
    rw [hp]
    refine c_X8_given (by omega) n k (vR M) LS _ hV2 p (by omega) hRG hLR w hw3 (fun M5 f3 => ?_)
    rw [hg, wg]
    have keep : ∀ i j, cInv i j = true → i ≠ 196 → zg M5 i j = zg M i j := by
      intro i j c a
      obtain ⟨a1, a2, a3, a4, a5, a6, a7, a8, a9, a10⟩ := cI_no c
      rw [f3.1 i j a6 a7 a8 a9, f1.1 i j a10]
      by_cases y : i < 1280
      · exact r3 i j c a y
      · exact r1 i j (by omega)
    have k196 : ∀ q, zg M5 196 q = zg M3 196 q := fun q => by rw [f3.1 _ _ (by omega) (by omega) (by omega) (by omega), f1.1 _ _ (by omega)]
    refine ⟨fun y => ⟨rfl, Inv_name (p := p) (g := g) (fun i j c a _ => keep i j c a) (fun i j => by rw [f3.2, f1.2, r2]) (fun a ha => ?_) hI⟩, fun y => ⟨by omega, by omega, ?_⟩⟩
    · rw [keep 1285 a rfl (by omega), k196, r4 (by omega) a (by omega)]
      exact h3 a ha
    · rintro _ rfl
      refine ⟨rfl, Inv_name (p := p) (g := g) (fun i j c a b => by rw [zg_zsi _ _ _ _ b]; exact keep i j c a) (fun i j => by rw [zh_zs, f3.2, f1.2, r2]) (fun a ha => ?_) hI⟩
      rw [zg_zsi _ _ _ _ (by omega), k196, r5 (by omega) a (by omega)]
      by_cases y2 : a = p
      · subst y2
        rw [if_pos rfl, zg_zs1, wg]; omega
      · rw [if_neg y2, zg_zsj _ _ _ _ y2, keep 1285 a rfl (by omega)]
        exact h3 a ha
  have ff : ∀ i j, i ≠ 137 → i ≠ 138 → i ≠ 207 → ¬ (i = 128 ∧ j = 10) → ¬ (256 ≤ i ∧ i < 384) → zg M2 i j = zg M i j := f.1
  have fk : ∀ i j, cInv i j = true → zg M2 i j = zg M i j := by
    intro i j c
    obtain ⟨a1, a2, a3, a4, a5, a6, a7, a8, a9, a10⟩ := cI_no c
    obtain ⟨b1, b2⟩ := cI_no2 c
    exact ff i j a1 a2 a3 a5 (by omega)
  refine ⟨fun y => ?_, fun y => ⟨by omega, by omega, ?_⟩⟩
  · exact R M2 (fun i j a => ff i j (by omega) (by omega) (by omega) (by omega) (by omega)) f.2 (fun i j c _ _ => fk i j c) (fun _ a _ => fk 196 a rfl) (fun z => absurd y z)
  · rintro _ rfl
    refine R _ (fun i j a => by rw [zg_zsi _ _ _ _ (by omega)]; exact ff i j (by omega) (by omega) (by omega) (by omega) (by omega)) (fun i j => by rw [zh_zs]; exact f.2 i j) (fun i j c a _ => by rw [zg_zsi _ _ _ _ a]; exact fk i j c) (fun z => absurd z y) (fun _ a _ => ?_)
    by_cases y2 : a = p
    · subst y2; rw [if_pos rfl, zg_zs1, wg]
    · rw [if_neg y2, zg_zsj _ _ _ _ y2]; exact fk 196 a rfl
