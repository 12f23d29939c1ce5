/-! noting, choosing -/
theorem hN_bit {V : zV} {LS : Option (List lwL)} {n k : Nat} {N : Nat → Int} {t a : Nat} (ha : a < 12) : (hdBits (vNm V N) LS (kAll (vNm V N) k (t : Int)) n (t : Int)).testBit a = hN V LS n k N t a := hdBits_bit ha
theorem l_X3_note22 {E : zE} {Q : Int → zM → Prop} (V : zV) (LS : Option (List lwL)) (n k : Nat) (N : Nat → Int) (y t s : Nat) (ht : t < 100) (M0 : zM) (h : ∀ M2 : zM, FrH M0 M2 → zg M2 320 3 = (s : Int) → (∀ a, a < 12 → zg M2 323 a = lat V LS n k N a (t + 1)) → wp E 3 cX3_noteHeldAheadOf none Q 5 [some (.ref 320), some (zI (y : Int)), some (zI ((t + 1 : Nat) : Int)), none, none] [] M2) : ∀ (x i : Nat) (M : zM), i + x = 12 → FrH M0 M → zg M 320 3 = (s : Int) → (∀ a, a < 12 → zg M 323 a = if a < i then lat V LS n k N a (t + 1) else lat V LS n k N a t) → wp E 3 cX3_noteHeldAheadOf none Q 22 [some (.ref 320), some (zI (y : Int)), some (zI (t : Int)), some (zI ((hdBits (vNm V N) LS (kAll (vNm V N) k (t : Int)) n (t : Int) : Nat) : Int)), some (zI (i : Int))] [] M
  | 0, i, M, e, f, g3, g => by
    refine v_X3_noteHeldAheadOf_22 _ _ _ _ ?_
    rw [zw_n (a := i) (by omega), show (t : Int) + 1 = ((t + 1 : Nat) : Int) by omega]
    refine ⟨fun z => absurd z (by omega), fun _ => h M f g3 (fun a ha => ?_)⟩
    rw [g a ha, if_pos (by omega)]
  | x + 1, i, M, e, f, g3, g => by
    have lt := hdBits_lt (V := vNm V N) (LS := LS) (K := kAll (vNm V N) k (t : Int)) (n := n) (y := (t : Int))
    have nx : ∀ v : Int, zw v = lat V LS n k N i (t + 1) → wp E 3 cX3_noteHeldAheadOf none Q 22 [some (.ref 320), some (zI (y : Int)), some (zI (t : Int)), some (zI ((hdBits (vNm V N) LS (kAll (vNm V N) k (t : Int)) n (t : Int) : Nat) : Int)), some (zI ((i : Int) + 1))] [] (zs M 323 i v) := by
      intro v hv
      rw [show (i : Int) + 1 = ((i + 1 : Nat) : Int) by omega]
      refine l_X3_note22 V LS n k N y t s ht M0 h x (i + 1) _ (by omega) (FrH_tr f ⟨fun a b _ _ _ _ _ q _ => by rw [zg_zsi _ _ _ _ q], fun _ _ => rfl⟩) (by rw [zg_zsi _ _ _ _ (by omega)]; exact g3) (fun a ha => ?_)
      by_cases q : a = i
      · subst q; rw [zg_zs1, if_pos (by omega)]; exact hv
      · rw [zg_zsj _ _ _ _ q, g a ha]
        by_cases q2 : a < i
        · rw [if_pos q2, if_pos (by omega)]
        · rw [if_neg q2, if_neg (by omega)]
    refine v_X3_noteHeldAheadOf_22 _ _ _ _ ?_
    rw [zw_n (a := i) (by omega), zb_bit (by omega) (by omega), bz_1, hN_bit (by omega), show ((i : Int)).toNat = i by omega]
    refine ⟨fun _ => ⟨fun q => ⟨by omega, by omega, ?_⟩, fun q => ⟨by omega, by omega, by omega, by omega, ?_⟩⟩, fun z => absurd (by omega) z⟩
    · rintro _ rfl
      exact nx _ (by rw [zw_n (by omega), lat, if_pos q])
    · rintro _ rfl
      exact nx _ (by rw [zw_zg, lat, if_neg q, g i (by omega), if_neg (by omega)])
theorem l_X3_note5 {d : Nat} {Q : Int → zM → Prop} (hd : 5 ≤ d) (n k : Nat) (V : zV) (LS : Option (List lwL)) (N : Nat → Int) (hV : Vok n k (vNm V N)) (y s : Nat) (hy : y < 100) (hs : s ≤ y) (M0 : zM) (hC : CV 256 n k (vNm V N) M0) (hL : LC M0 LS) (h : ∀ M2 : zM, FrH M0 M2 → zg M2 320 3 = (y : Int) → (∀ a, a < 12 → zg M2 323 a = lat V LS n k N a y) → Q 0 M2) : ∀ (x t : Nat) (M : zM), t + x = y → FrH M0 M → zg M 320 3 = (s : Int) → (∀ a, a < 12 → zg M 323 a = lat V LS n k N a t) → wp (Ev d) 3 cX3_noteHeldAheadOf none Q 5 [some (.ref 320), some (zI (y : Int)), some (zI (t : Int)), none, none] [] M
  | 0, t, M, e, f, g3, g => by
    have et : t = y := by omega
    subst et
    refine v_X3_noteHeldAheadOf_5 _ _ ?_
    rw [zw_n (a := t) (by omega), g3, zw_n (a := s) (by omega)]
    refine ⟨fun z => absurd z (by omega), fun _ => ?_⟩
    rintro _ rfl
    refine h _ (FrH_tr f ⟨fun a b _ _ _ _ _ _ q => by rw [zg_zs, if_neg q], fun _ _ => rfl⟩) ?_ (fun a ha => by rw [zg_zsi _ _ _ _ (by omega)]; exact g a ha)
    rw [zg_zs1]
    by_cases q : (s : Int) < (t : Int)
    · rw [if_pos q, zw_n (by omega)]
    · rw [if_neg q, zw_n (by omega)]; omega
  | x + 1, t, M, e, f, g3, g => by
    refine v_X3_noteHeldAheadOf_5 _ _ ?_
    rw [zw_n (a := t) (by omega), zw_n (a := y) (by omega)]
    refine ⟨fun _ => c_X4_heldIn hd 256 n k (vNm V N) ob_256 (Or.inr rfl) hV (CV_H f hC) LS (LC_H f hL) (t : Int) (by omega) (by omega) (fun M2 f2 => ?_), fun z => absurd (by omega) z⟩
    have f3 := FrC_H f2
    refine l_X3_note22 V LS n k N y t s (by omega) M0 (fun M3 k1 k2 k3 => l_X3_note5 hd n k V LS N hV y s hy hs M0 hC hL h x (t + 1) M3 (by omega) k1 k2 k3) 12 0 M2 (by omega) (FrH_tr f f3) (by rw [f2.1 _ _ (by omega) (by omega) (by omega) (by omega) (by omega)]; exact g3) (fun a ha => ?_)
    rw [if_neg (by omega), f2.1 _ _ (by omega) (by omega) (by omega) (by omega) (by omega)]; exact g a ha
theorem c_X3_note {d : Nat} {M : zM} {Q : Int → zM → Prop} (hd : 6 ≤ d) (n k : Nat) (V : zV) (LS : Option (List lwL)) (N : Nat → Int) (hV : Vok n k (vNm V N)) (y s : Nat) (hy : y < 100) (hs : s ≤ y) (hC : CV 256 n k (vNm V N) M) (hL : LC M LS) (g3 : zg M 320 3 = (s : Int)) (g : ∀ a, a < 12 → zg M 323 a = lat V LS n k N a s) (h : ∀ M2 : zM, FrH M M2 → zg M2 320 3 = (y : Int) → (∀ a, a < 12 → zg M2 323 a = lat V LS n k N a y) → Q 0 M2) : Ev d mX3_noteHeldAheadOf [.ref 320, zI (y : Int)] M Q := by
  obtain ⟨d, rfl, hdd⟩ := e_of 5 hd; replace hd := hdd
  refine e_X3_noteHeldAheadOf _ (v_X3_noteHeldAheadOf_0 _ ?_)
  rw [g3]
  exact l_X3_note5 hd n k V LS N hV y s hy hs M hC hL h (y - s) s M (by omega) (FrH_rf M) g3 g
theorem c_X3_isBetter {d : Nat} {M : zM} {Q : Int → zM → Prop} (hd : 1 ≤ d) (sc : Nat → Int) (way : Int) (hw : way = 0 ∨ way = 1 ∨ way = 2) (i : Nat) (hi : i < 12) (b : Int) (hb : b = -2 ∨ (0 ≤ b ∧ b < (i : Int))) (h0 : way = 0 → ∀ a, a < 12 → sc a = 0) (h1 : way = 1 → ∀ a, a < 12 → zg M 323 a = sc a) (h2 : way = 2 → ∀ a, a < 12 → zg M 269 a = sc a) (h : Q (bz (b = -2 ∨ sc b.toNat < sc i)) M) : Ev d mX3_isBetter [.ref 320, zI (i : Int), zI b, zI way] M Q := by
  obtain ⟨d, rfl, -⟩ := e_of 0 hd
  refine e_X3_isBetter _ _ _ (v_X3_isBetter_0 _ _ _ ?_)
  rw [zw_n (a := i) (by omega), zw_of (a := b) (by omega) (by omega), zw_of (a := way) (by omega) (by omega), show ((i : Int)).toNat = i by omega]
  refine ⟨fun q => ?_, fun q => ⟨fun q2 => ⟨by omega, by omega, by omega, by omega, ?_⟩, fun q2 => ⟨fun q3 => ⟨by omega, by omega, by omega, by omega, ?_⟩, fun q3 => ?_⟩⟩⟩
  · rw [bz_t (Or.inl q)] at h; exact h
  · rw [h1 q2 _ (by omega), h1 q2 _ hi]
    refine ⟨fun q3 => ?_, fun q3 => ?_⟩
    · rw [bz_t (Or.inr q3)] at h; exact h
    · rw [bz_f (by omega)] at h; exact h
  · rw [h2 q3 _ (by omega), h2 q3 _ hi]
    refine ⟨fun q4 => ?_, fun q4 => ?_⟩
    · rw [bz_t (Or.inr q4)] at h; exact h
    · rw [bz_f (by omega)] at h; exact h
  · have a1 := h0 (by omega) b.toNat (by omega)
    have a2 := h0 (by omega) i hi
    rw [bz_f (by omega)] at h; exact h
theorem c_X3_choose {d : Nat} {M : zM} {Q : Int → zM → Prop} (hd : 6 ≤ d) (n k : Nat) (V : zV) (LS : Option (List lwL)) (N : Nat → Int) (hV : Vok n k (vNm V N)) (hC : CV 256 n k (vNm V N) M) (hL : LC M LS) (way : Int) (hw : way = 0 ∨ way = 1 ∨ way = 2) (p : Nat) (hp : p < n) (hl : way = 1 → ∀ a, a < 12 → zg M 323 a = lat V LS n k N a (V 0 p).toNat) (h : ∀ M2 : zM, FrC M M2 → Q (chs V LS n k N way p) M2) : Ev d mX3_choose [.ref 320, zI (p : Int), zI way] M Q := by
  obtain ⟨d, rfl, hdd⟩ := e_of 5 hd; replace hd := hdd
  have hn := hV.1
  have v3 := hV.2.2.1 p hp
  have e0 : vNm V N 0 p = V 0 p := vNm_ne V N (by omega) p
  rw [e0] at v3
  obtain ⟨t, ht⟩ : ∃ t : Nat, V 0 p = (t : Int) := ⟨(V 0 p).toNat, by omega⟩
  refine e_X3_choose _ _ (v_X3_choose_0 _ _ ?_)
  rw [zw_n (a := p) (by omega), show ((p : Int)).toNat = p by omega, (hC.2.2.2.1 p hp).1, e0, ht]
  refine ⟨by omega, by omega, c_X4_heldIn hd 256 n k (vNm V N) ob_256 (Or.inr rfl) hV hC LS hL (t : Int) (by omega) (by omega) (fun M2 f => ?_)⟩
  have lt := hdBits_lt (V := vNm V N) (LS := LS) (K := kAll (vNm V N) k (t : Int)) (n := n) (y := (t : Int))
  have hC2 := CV_C (Or.inr rfl) f hC
  have e8 : ∀ a, vNm V N 8 a = V 8 a := fun a => vNm_ne V N (by omega) a
  have tt : (V 0 p).toNat = t := by omega
  have hh := h M2 f
  unfold chs at hh
  rw [tt] at hh hl
  have l : ∀ (x i : Nat), i + x = 12 → wp (Ev d) 3 cX3_choose (some .int) Q 24 [some (.ref 320), none, some (zI way), some (zI ((hdBits (vNm V N) LS (kAll (vNm V N) k (t : Int)) n (t : Int) : Nat) : Int)), some (zI (bst (fun a => !(hN V LS n k N t a)) (scr V LS n k N way t) i)), some (zI (i : Int))] [] M2 := by
    intro x
    induction x with
    | zero =>
      intro i e
      have bd := bst_bd (fun a => !(hN V LS n k N t a)) (scr V LS n k N way t) i
      refine v_X3_choose_24 _ _ _ _ ?_
      rw [zw_n (a := i) (by omega), zw_of (a := bst (fun a => !(hN V LS n k N t a)) (scr V LS n k N way t) i) (by omega) (by omega)]
      refine ⟨fun z => absurd z (by omega), fun _ => ?_⟩
      rw [show i = 12 by omega]; exact hh
    | succ x ih =>
      intro i e
      have bd := bst_bd (fun a => !(hN V LS n k N t a)) (scr V LS n k N way t) i
      have nx := ih (i + 1) (by omega)
      rw [bst] at nx
      refine v_X3_choose_24 _ _ _ _ ?_
      rw [zw_n (a := i) (by omega), zb_bit (by omega) (by omega), bz_0, hN_bit (by omega), show (i : Int) + 1 = ((i + 1 : Nat) : Int) by omega]
      refine ⟨fun _ => ⟨fun q => ?_, fun q => ?_⟩, fun z => absurd (by omega) z⟩
      · rw [Bool.not_eq_true] at q
        refine c_X3_isBetter (by omega) (scr V LS n k N way t) way hw i (by omega) _ bd (fun w a _ => by unfold scr; rw [if_pos w]) (fun w a ha => ?_) (fun w a ha => ?_) (bz_br (fun g => ?_) (fun g => ?_))
        · rw [f.1 _ _ (by omega) (by omega) (by omega) (by omega) (by omega), hl w a ha]; unfold scr; rw [if_neg (by omega), if_pos w]
        · rw [show (269 : Nat) = 256 + 13 by rfl, (hC2.2.2.2.2.2 a ha).2, e8]; unfold scr; rw [if_neg (by omega), if_neg (by omega)]
        · rw [if_neg (fun z => g z.2)] at nx; exact nx
        · rw [if_pos ⟨by rw [q]; rfl, g⟩] at nx; exact nx
      · have q2 : hN V LS n k N t i = true := Classical.not_not.mp q
        rw [if_neg (fun z => by have := z.1; rw [q2] at this; cases this)] at nx; exact nx
  exact l 12 0 (by omega)
/-! the reference -/
theorem c_X8_latestHeld {d : Nat} {M0 : zM} {Q : Int → zM → Prop} (hd : 8 ≤ d) (n k am : Nat) (V : zV) (LS : Option (List lwL)) (N : Nat → Int) (hV : Vok n k (vNm V N)) (hR : RV n k (vNm V N) am M0) (ham : am < 4096) (hL : LR M0 LS) (a : Nat) (ha : a < 12) (y : Nat) (hy : y < 100) (h : ∀ M2 : zM, FrR M0 M2 → Q (lat V LS n k N a y) M2) : Ev d mX8_latestHeld [.ref 1280, zI (a : Int), zI (y : Int), zI (am : Int)] M0 Q := by
  obtain ⟨d, rfl, hdd⟩ := e_of 7 hd; replace hd := hdd
  have l : ∀ (t : Nat) (M : zM), t < 100 → FrR M0 M → (∀ M2 : zM, FrR M0 M2 → Q (lat V LS n k N a t) M2) → wp (Ev d) 8 cX8_latestHeld (some .int) Q 5 [some (.ref 1280), some (zI (a : Int)), none, some (zI (am : Int)), some (zI ((t : Int) - 1))] [] M := by
    intro t
    induction t with
    | zero =>
      intro M _ f g
      refine v_X8_latestHeld_5 _ _ _ ?_
      rw [zw_of (a := ((0 : Nat) : Int) - 1) (by omega) (by omega)]
      exact ⟨fun _ => g M f, fun z => absurd (by omega) z⟩
    | succ t ih =>
      intro M ht f g
      refine v_X8_latestHeld_5 _ _ _ ?_
      rw [show ((t + 1 : Nat) : Int) - 1 = (t : Int) by omega, zw_n (a := t) (by omega), show (t : Int) + -1 = (t : Int) - 1 by omega]
      refine ⟨fun z => absurd z (by omega), fun _ => c_X8_findKnown (by omega) n k am (vNm V N) hV (RV_R f hR) (t : Int) (zw_n (by omega)) 0 (by omega) (fun M2 f1 f2 => ?_)⟩
      have f3 := FrR_tr f (FrF_R f1)
      refine c_X8_isHeld hd n k am (vNm V N) hV (RV_R f3 hR) ham LS (LR_R f3 hL) (kAll (vNm V N) k (t : Int)) f2 (kup_lt hV k (by omega)) a ha (t : Int) (by omega) (by omega) (fun M3 f4 => bz_br (fun q => ?_) (fun q => ?_))
      · refine ih M3 (by omega) (FrR_tr f3 (FrQ_R f4)) (fun M4 f5 => ?_)
        have := g M4 f5
        rw [lat, if_neg (show ¬ hN V LS n k N t a = true from q)] at this
        exact this
      · have := g M3 (FrR_tr f3 (FrQ_R f4))
        rw [lat, if_pos (show hN V LS n k N t a = true from q)] at this
        exact this
  exact e_X8_latestHeld _ _ _ (v_X8_latestHeld_0 _ _ _ (l y M0 hy (FrR_rf M0) h))
theorem l_X8_given71 {d : Nat} {M0 : zM} {Q : Int → zM → Prop} (hd : 8 ≤ d) (n k am : Nat) (V : zV) (LS : Option (List lwL)) (N : Nat → Int) (hV : Vok n k (vNm V N)) (hR : RV n k (vNm V N) am M0) (ham : am < 4096) (hL : LR M0 LS) (way : Int) (hw : way = 0 ∨ way = 1 ∨ way = 2) (p : Nat) (hp : p < n) (t : Nat) (ht : V 0 p = (t : Int)) (fr : Nat → Bool) (h : ∀ M2 : zM, FrR M0 M2 → Q (bst fr (scr V LS n k N way t) 12) M2) : ∀ (x i : Nat) (M : zM), i + x = 12 → FrR M0 M → wp (Ev d) 8 cX8_given (some .int) Q 71 [some (.ref 1280), some (zI (p : Int)), some (zI way), some (zI (am : Int)), some (zI ((bs fr 12 : Nat) : Int)), some (zI (bst fr (scr V LS n k N way t) i)), some (zI (if bst fr (scr V LS n k N way t) i = -2 then 0 else scr V LS n k N way t (bst fr (scr V LS n k N way t) i).toNat)), some (zI (i : Int)), none] [] M
  | 0, i, M, e, f => by
    have bd := bst_bd fr (scr V LS n k N way t) i
    refine v_X8_given_71 _ _ _ _ _ _ _ ?_
    rw [zw_n (a := i) (by omega), zw_of (a := bst fr (scr V LS n k N way t) i) (by omega) (by omega)]
    refine ⟨fun z => absurd z (by omega), fun _ => ?_⟩
    rw [show i = 12 by omega]; exact h M f
  | x + 1, i, M, e, f => by
    have hn := hV.1
    have v3 := hV.2.2.1 p hp
    have e0 : vNm V N 0 p = V 0 p := vNm_ne V N (by omega) p
    rw [e0] at v3
    have hR2 := RV_R f hR
    have bd := bst_bd fr (scr V LS n k N way t) i
    have lt := bs_12 (P := fr) (n := 12) (by omega)
    have sb : ∀ a, a < 12 → -1 ≤ scr V LS n k N way t a ∧ scr V LS n k N way t a < 200 := by
      intro a ha
      have w8 := hV.2.2.2.2.2.2.2 a ha
      rw [vNm_ne V N (by omega) a, vNm_ne V N (by omega) a] at w8
      have lb := lat_bd V LS n k N a t
      unfold scr
      split
      · omega
      · split <;> omega
    have si := sb i (by omega)
    have bit : (bs fr 12).testBit i = fr i := by rw [bs_bit]; simp; intro; omega
    have go : ∀ (M2 : zM) (s : Int), FrR M0 M2 → s = scr V LS n k N way t i → fr i = true → wp (Ev d) 8 cX8_given (some .int) Q 127 [some (.ref 1280), some (zI (p : Int)), some (zI way), some (zI (am : Int)), some (zI ((bs fr 12 : Nat) : Int)), some (zI (bst fr (scr V LS n k N way t) i)), some (zI (if bst fr (scr V LS n k N way t) i = -2 then 0 else scr V LS n k N way t (bst fr (scr V LS n k N way t) i).toNat)), some (zI (i : Int)), none] [zI s] M2 := by
      rintro M2 _ f2 rfl fi
      have nx := l_X8_given71 hd n k am V LS N hV hR ham hL way hw p hp t ht fr h x (i + 1) M2 (by omega) f2
      rw [bst] at nx
      refine v_X8_given_127 _ _ _ _ _ _ _ _ ?_
      rw [zw_of (a := bst fr (scr V LS n k N way t) i) (by omega) (by omega), zw_of (a := scr V LS n k N way t i) (by omega) (by omega), show (i : Int) + 1 = ((i + 1 : Nat) : Int) by omega]
      by_cases b0 : bst fr (scr V LS n k N way t) i = -2
      · rw [if_pos ⟨fi, Or.inl b0⟩, if_neg (show ¬ (i : Int) = -2 by omega), show ((i : Int)).toNat = i by omega] at nx
        exact ⟨fun _ => nx, fun z => absurd (by omega) z⟩
      · have sj := sb (bst fr (scr V LS n k N way t) i).toNat (by omega)
        rw [if_neg b0, zw_of (a := scr V LS n k N way t (bst fr (scr V LS n k N way t) i).toNat) (by omega) (by omega)]
        refine ⟨fun z => absurd z (by omega), fun _ => ⟨fun g => ?_, fun g => ?_⟩⟩
        · rw [if_pos ⟨fi, Or.inr g⟩, if_neg (show ¬ (i : Int) = -2 by omega), show ((i : Int)).toNat = i by omega] at nx
          exact nx
        · rw [if_neg (fun z => by rcases z.2 with z | z; exact b0 z; exact g z), if_neg b0] at nx
          exact nx
    refine v_X8_given_71 _ _ _ _ _ _ _ ?_
    rw [zw_n (a := i) (by omega), zb_bit (by omega) (by omega), bz_0, bit, zw_of (a := way) (by omega) (by omega), zw_n (a := p) (by omega), show ((p : Int)).toNat = p by omega, (hR2.2.2.2.1 p hp).1, e0, ht, show ((i : Int)).toNat = i by omega]
    refine ⟨fun _ => ⟨fun q => ?_, fun q => ⟨fun q2 => go M 0 f ?_ (Classical.not_not.mp q), fun q2 => ⟨fun q3 => ⟨by omega, by omega, ?_⟩, fun q3 => ⟨by omega, by omega, go M _ f ?_ (Classical.not_not.mp q)⟩⟩⟩⟩, fun z => absurd (by omega) z⟩
    · have nx := l_X8_given71 hd n k am V LS N hV hR ham hL way hw p hp t ht fr h x (i + 1) M (by omega) f
      rw [bst, if_neg (fun z => q z.1)] at nx
      exact nx
    · unfold scr; rw [if_pos q2]
    · refine c_X8_latestHeld hd n k am V LS N hV hR2 ham (LR_R f hL) i (by omega) t (by omega) (fun M2 f2 => go M2 _ (FrR_tr f f2) ?_ (Classical.not_not.mp q))
      unfold scr; rw [if_neg q2, if_pos q3]
    · rw [(hR2.2.2.2.2.2 i (by omega)).2, vNm_ne V N (by omega) i]
      unfold scr; rw [if_neg q2, if_neg q3]
theorem c_X8_given {d : Nat} {M : zM} {Q : Int → zM → Prop} (hd : 9 ≤ d) (n k : Nat) (V : zV) (LS : Option (List lwL)) (N : Nat → Int) (hV : Vok n k (vNm V N)) (p : Nat) (hp : p < n) (hR : RV n k (vNm V N) (bs (fun o => ahB (V 0) o p) n) M) (hL : LR M LS) (way : Int) (hw : way = 0 ∨ way = 1 ∨ way = 2) (h : ∀ M2 : zM, FrR M M2 → Q (chs V LS n k N way p) M2) : Ev d mX8_given [.ref 1280, zI (p : Int), zI way] M Q := by
  obtain ⟨d, rfl, hdd⟩ := e_of 8 hd; replace hd := hdd
  have hn := hV.1
  have ham := bs_12 (P := fun o => ahB (V 0) o p) hn
  have v3 := hV.2.2.1 p hp
  have e0 : ∀ p, vNm V N 0 p = V 0 p := fun p => vNm_ne V N (by omega) p
  rw [e0] at v3
  obtain ⟨t, ht⟩ : ∃ t : Nat, V 0 p = (t : Int) := ⟨(V 0 p).toNat, by omega⟩
  have tt : (V 0 p).toNat = t := by omega
  refine e_X8_given _ _ (v_X8_given_0 _ _ (c_X8_aheadOf (by omega) n hn (V 0) hR.1 (fun q hq => by rw [(hR.2.2.2.1 q hq).1, e0]) p hp ?_))
  rw [zw_n (a := p) (by omega), show ((p : Int)).toNat = p by omega, (hR.2.2.2.1 p hp).1, e0, ht]
  refine ⟨by omega, by omega, c_X8_findKnown (by omega) n k _ (vNm V N) hV hR (t : Int) (zw_n (by omega)) 0 (by omega) (fun M2 f1 f2 => ?_)⟩
  have f3 := FrF_R f1
  have hR2 := RV_R f3 hR
  have l : ∀ (x i : Nat) (M3 : zM), i + x = 12 → FrQ M2 M3 → wp (Ev d) 8 cX8_given (some .int) Q 23 [some (.ref 1280), some (zI (p : Int)), some (zI way), some (zI ((bs (fun o => ahB (V 0) o p) n : Nat) : Int)), some (zI ((bs (fun a => !(hN V LS n k N t a)) i : Nat) : Int)), some (zI (i : Int)), none, none, none] [] M3 := by
    intro x
    induction x with
    | zero =>
      intro i M3 e f
      refine v_X8_given_23 _ _ _ _ _ ?_
      rw [zw_n (a := i) (by omega)]
      refine ⟨fun z => absurd z (by omega), fun _ => ?_⟩
      have ff := FrR_tr f3 (FrQ_R f)
      rw [show i = 12 by omega]
      refine l_X8_given71 hd n k _ V LS N hV (RV_R ff hR) ham (LR_R ff hL) way hw p hp t ht (fun a => !(hN V LS n k N t a)) (fun M4 g => ?_) 12 0 M3 (by omega) (FrR_rf M3)
      have := h M4 (FrR_tr ff g)
      unfold chs at this
      rw [tt] at this
      exact this
    | succ x ih =>
      intro i M3 e f
      have nx := fun M4 f4 => ih (i + 1) M4 (by omega) f4
      have ff := FrR_tr f3 (FrQ_R f)
      have lt := bs_12 (P := fun a => !(hN V LS n k N t a)) (n := i) (by omega)
      have ti := tp_12 (p := i) (by omega)
      refine v_X8_given_23 _ _ _ _ _ ?_
      rw [zw_n (a := i) (by omega), zw_n (a := p) (by omega), show ((p : Int)).toNat = p by omega, ((RV_R ff hR).2.2.2.1 p hp).1, e0, ht, zb_shl (by omega), zb_or (by omega) (by omega), show (i : Int) + 1 = ((i + 1 : Nat) : Int) by omega]
      refine ⟨fun _ => ⟨by omega, by omega, c_X8_isHeld (by omega) n k _ (vNm V N) hV (RV_R ff hR) ham LS (LR_R ff hL) (kAll (vNm V N) k (t : Int)) (KnA_fr (fun j => f.1 _ _ (by omega) (by omega)) f2) (kup_lt hV k (by omega)) i (by omega) (t : Int) (by omega) (by omega) (fun M4 f4 => bz_br (fun q => ?_) (fun q => ?_))⟩, fun z => absurd (by omega) z⟩
      · have := nx M4 (FrQ_tr f f4)
        have q2 : hN V LS n k N t i = false := by rw [Bool.eq_false_iff]; exact q
        rw [bs, if_pos (by rw [q2]; rfl)] at this
        exact this
      · have := nx M4 (FrQ_tr f f4)
        have q2 : hN V LS n k N t i = true := q
        rw [bs, if_neg (by rw [q2]; decide)] at this
        exact this
  exact l 12 0 M2 (by omega) (FrQ_rf M2)
