theorem c_X8_holdsFor {d : Nat} {M : zM} {Q : Int → zM → Prop} (hd : 4 ≤ d) (n k am : Nat) (V : zV) (hV : Vok n k V) (hR : RV n k V am M) (LS : Option (List lwL)) (hL : LR M LS) (p b a : Nat) (hp : p < n) (hb : b < n) (y : Int) (hy0 : 0 ≤ y) (hy1 : y < 100) (ha : V 2 b = (a : Int)) (h : ∀ M2 : zM, FrQ M M2 → Q (bz (hlB V LS y p b = true)) M2) : Ev d mX8_holdsFor [.ref 1280, zI (p : Int), zI (b : Int), zI (a : Int), zI y] M Q := by
  obtain ⟨d, rfl, hdd⟩ := e_of 3 hd; replace hd := hdd
  have fw := fx_w hV hp hb hy0 hy1 (by omega)
  obtain ⟨v1, v2, v3, v4, v5, v6, v7, v8⟩ := id hV
  obtain ⟨c1, c2, c3, c4, c5, c6⟩ := id hR
  have a1 := v3 p hp
  have a2 := v3 b hb
  have a3 := v8 a (by omega)
  have wp1 : zw (p : Int) = (p : Int) := zw_n (by omega)
  have wb1 : zw (b : Int) = (b : Int) := zw_n (by omega)
  have wa1 : zw (a : Int) = (a : Int) := zw_n (by omega)
  have wy : zw y = y := zw_of (by omega) (by omega)
  have tp : ((p : Int)).toNat = p := by omega
  have tb : ((b : Int)).toNat = b := by omega
  have ta : ((a : Int)).toNat = a := by omega
  have fa2 : fx V p b y 2 = V 7 a := by show V 7 (V 2 b).toNat = _; rw [ha, ta]
  have fa3 : fx V p b y 3 = V 8 a := by show V 8 (V 2 b).toNat = _; rw [ha, ta]
  have go : ∀ s : Int, s = (if p = b then 1 else 0) → wp (Ev d) 8 cX8_holdsFor (some .boolean) Q 21 [some (.ref 1280), none, some (zI (b : Int)), some (zI (a : Int)), some (zI y), some (zI (y - V 0 p)), none] [zI s] M := by
    intro s hs
    have ws : zw s = s := by rw [hs]; split <;> decide
    refine v_X8_holdsFor_21 _ _ _ _ _ ?_
    match LS with
    | none =>
      have hL : zg M 1280 31 = 0 := hL
      rw [hL, zw_of (a := y - V 0 p) (by omega) (by omega), ws]
      have hh := h M (FrQ_rf M)
      have e : hlB V none y p b = true ↔ (y - V 0 p < 80 ∨ s = 1) := by
        unfold hlB
        rw [decide_eq_true_iff]
        show bz (y - V 0 p < 80 ∨ (if p = b then (1 : Int) else 0) = 1) ≠ 0 ↔ _
        rw [← hs, Ne, bz_0, Classical.not_not]
      refine ⟨fun _ => ⟨fun q => ?_, fun q => ⟨fun q2 => ?_, fun q2 => ?_⟩⟩, fun z => absurd rfl z⟩
      · rw [bz_t (e.mpr (Or.inl q))] at hh; exact hh
      · rw [bz_t (e.mpr (Or.inr q2))] at hh; exact hh
      · rw [bz_f (fun z => by have := e.mp z; omega)] at hh; exact hh
    | some ls =>
      have h31 : zg M 1280 31 = 1 := hL.1
      rw [h31]
      refine ⟨fun z => absurd z (by omega), fun _ => ?_⟩
      rintro _ rfl
      have fin : ∀ s1 : Int, s1 = (if V 1 b < y then y - V 1 b else 0) → wp (Ev d) 8 cX8_holdsFor (some .boolean) Q 86 [some (.ref 1280), none, none, some (zI (a : Int)), none, none, some (zI s)] [zI s1, zI 1, .ref 1310] (zs M 1310 0 (y - V 0 p)) := by
        intro s1 hs1
        refine v_X8_holdsFor_86 _ _ _ _ ?_
        rw [zq_1, wa1, ta, show ((1 : Int)).toNat = 1 by rfl]
        refine ⟨by omega, by omega, ?_⟩
        rintro _ rfl
        rw [zg_zsi _ _ _ _ (by omega), zg_zsi _ _ _ _ (by omega), (c6 a (by omega)).1]
        refine ⟨by omega, by omega, ?_⟩
        rintro _ rfl
        rw [zg_zsi _ _ _ _ (by omega), zg_zsi _ _ _ _ (by omega), zg_zsi _ _ _ _ (by omega), (c6 a (by omega)).2]
        refine ⟨by omega, by omega, ?_⟩
        rintro _ rfl _ rfl _ rfl
        have fr : FrQ M (zs (zs (zs (zs (zs (zs M 1310 0 (y - V 0 p)) 1310 1 s1) 1310 2 (V 7 a)) 1310 3 (V 8 a)) 1310 4 s) 1310 5 (a : Int)) := by
          refine ⟨fun i j q1 q2 => ?_, fun _ _ => rfl⟩
          rw [zg_zsi _ _ _ _ q1, zg_zsi _ _ _ _ q1, zg_zsi _ _ _ _ q1, zg_zsi _ _ _ _ q1, zg_zsi _ _ _ _ q1, zg_zsi _ _ _ _ q1]
        refine c_X8_gives hd (fx V p b y) ls (LR_R (FrQ_R fr) hL) (fun j hj => ?_) (fun M2 b1 wv => ?_)
        · have c : j = 0 ∨ j = 1 ∨ j = 2 ∨ j = 3 ∨ j = 4 ∨ j = 5 := by omega
          have e5 : fx V p b y 5 = (a : Int) := ha
          have w0 := fw 0 (by omega)
          have w1 := fw 1 (by omega)
          have w2 := fw 2 (by omega)
          have w3 := fw 3 (by omega)
          have e0 : fx V p b y 0 = y - V 0 p := rfl
          have e1 : fx V p b y 1 = s1 := by rw [hs1]; rfl
          have e4 : fx V p b y 4 = s := by rw [hs]; rfl
          rw [e0] at w0
          rw [e1] at w1
          rw [fa2] at w2
          rw [fa3] at w3
          rcases c with rfl | rfl | rfl | rfl | rfl | rfl
          · rw [zg_zsj _ _ _ _ (by omega), zg_zsj _ _ _ _ (by omega), zg_zsj _ _ _ _ (by omega), zg_zsj _ _ _ _ (by omega), zg_zsj _ _ _ _ (by omega), zg_zs1, w0, e0]
          · rw [zg_zsj _ _ _ _ (by omega), zg_zsj _ _ _ _ (by omega), zg_zsj _ _ _ _ (by omega), zg_zsj _ _ _ _ (by omega), zg_zs1, w1, e1]
          · rw [zg_zsj _ _ _ _ (by omega), zg_zsj _ _ _ _ (by omega), zg_zsj _ _ _ _ (by omega), zg_zs1, w2, fa2]
          · rw [zg_zsj _ _ _ _ (by omega), zg_zsj _ _ _ _ (by omega), zg_zs1, w3, fa3]
          · rw [zg_zsj _ _ _ _ (by omega), zg_zs1, ws, e4]
          · rw [zg_zs1, wa1, e5]
        · have b4 : FrQ M M2 := FrQ_tr fr ⟨fun i j q1 q2 => b1.1 i j q2, b1.2⟩
          have hh := h M2 b4
          unfold hlB at hh
          rw [wv]
          by_cases q : lvs (fx V p b y) ls = 0
          · refine ⟨fun _ => ?_, fun z => absurd q z⟩
            rw [bz_f (by simp [lvv, q])] at hh; exact hh
          · refine ⟨fun z => absurd z q, fun _ => ?_⟩
            rw [bz_t (by simp [lvv, q])] at hh; exact hh
      rw [wb1, tb, zg_zsi _ _ _ _ (by omega), (c4 b hb).2.1, wy]
      refine ⟨by omega, by omega, fun q => ⟨by omega, by omega, fin _ (by rw [if_pos q])⟩, fun q => fin _ (by rw [if_neg q])⟩
  refine e_X8_holdsFor _ _ _ _ (v_X8_holdsFor_0 _ _ _ _ ?_)
  rw [wp1, wb1, tp, (c4 p hp).1]
  refine ⟨by omega, by omega, fun q => go 1 ?_, fun q => go 0 ?_⟩
  · rw [if_pos (by omega)]
  · rw [if_neg (by omega)]
/-- b bears name a in a year -/
def brB (V : zV) (a : Nat) (y : Int) (b : Nat) : Bool := decide (V 2 b = (a : Int) ∧ V 0 b ≤ y)
/-- p lives in a year and knows b -/
def lkB (V : zV) (K : Nat → Nat) (y : Int) (p b : Nat) : Bool := (K p).testBit b && decide (V 0 p ≤ y ∧ y < V 1 p)
theorem c_X4_isBearer {d : Nat} {M : zM} {Q : Int → zM → Prop} (hd : 1 ≤ d) (o n k : Nat) (V : zV) (ho : zob o 4) (hV : Vok n k V) (hC : CV o n k V M) (b a : Nat) (hb : b < n) (ha : a < 12) (y : Int) (hy : zw y = y) (h : Q (bz (brB V a y b = true)) M) : Ev d mX4_isBearer [.ref o, zI (b : Int), zI (a : Int), zI y] M Q := by
  obtain ⟨d, rfl, -⟩ := e_of 0 hd
  have hn := hV.1
  obtain ⟨c1, c2, c3, c4, c5, c6⟩ := id hC
  refine e_X4_isBearer o _ _ _ (v_X4_isBearer_0 o _ _ _ ho ?_)
  rw [zw_n (a := b) (by omega), zw_n (a := a) (by omega), show ((b : Int)).toNat = b by omega, (c4 b hb).1, (c4 b hb).2.2, hy]
  unfold brB at h
  refine ⟨by omega, by omega, fun q => ⟨by omega, by omega, fun q2 => ?_, fun q2 => ?_⟩, fun q => ?_⟩
  · rw [bz_f (by rw [decide_eq_true_iff]; omega)] at h; exact h
  · rw [bz_t (by rw [decide_eq_true_iff]; omega)] at h; exact h
  · rw [bz_f (by rw [decide_eq_true_iff]; omega)] at h; exact h
theorem c_X8_bears {d : Nat} {M : zM} {Q : Int → zM → Prop} (hd : 1 ≤ d) (n k am : Nat) (V : zV) (hV : Vok n k V) (hR : RV n k V am M) (b a : Nat) (hb : b < n) (ha : a < 12) (y : Int) (hy : zw y = y) (ham : am < 4096) (h : Q (bz (brB V a y b = true)) M) : Ev d mX8_bears [.ref 1280, zI (b : Int), zI (a : Int), zI y, zI (am : Int)] M Q := by
  obtain ⟨d, rfl, -⟩ := e_of 0 hd
  have hn := hV.1
  obtain ⟨c1, c2, c3, c4, c5, c6⟩ := id hR
  have c7 := (c4 b hb).2.2
  refine e_X8_bears _ _ _ _ (v_X8_bears_0 _ _ _ _ ?_)
  rw [zb_bit (by omega) (by omega), bz_1, zw_n (a := b) (by omega), zw_n (a := a) (by omega), show ((b : Int)).toNat = b by omega, (c4 b hb).1, hy]
  unfold brB at h
  refine ⟨fun q0 => ⟨by omega, by omega, fun q => ⟨by omega, by omega, fun q2 => ?_, fun q2 => ?_⟩, fun q => ?_⟩, fun q0 => ?_⟩
  · rw [bz_f (by rw [decide_eq_true_iff]; omega)] at h; exact h
  · rw [if_pos q0] at c7
    rw [bz_t (by rw [decide_eq_true_iff]; omega)] at h; exact h
  · rw [if_pos q0] at c7
    rw [bz_f (by rw [decide_eq_true_iff]; omega)] at h; exact h
  · rw [if_neg q0] at c7
    rw [bz_f (by rw [decide_eq_true_iff]; omega)] at h; exact h
def fmB (V : zV) (n a : Nat) (y : Int) : Bool := decide (V 7 a = 1) && anyN (brB V a y) n
theorem l_X4_famed {d : Nat} {M : zM} {Q : Int → zM → Prop} (hd : 1 ≤ d) (o n k : Nat) (V : zV) (ho : zob o 4) (hV : Vok n k V) (hC : CV o n k V M) (a : Nat) (ha : a < 12) (y : Int) (hy : zw y = y) (h : Q (bz (fmB V n a y = true)) M) : ∀ (x i : Nat), i + x = n → (V 7 a = 1 → anyN (brB V a y) i = false) → wp (Ev d) 4 cX4_isFamed (some .boolean) Q 2 [some (.ref o), some (zI (a : Int)), some (zI y), some (zI (i : Int))] [] M
  | 0, i, e, g => by
    have hn := hV.1
    refine v_X4_isFamed_2 o _ _ _ ho ?_
    rw [zw_n (a := i) (by omega), hC.1]
    refine ⟨fun z => absurd z (by omega), fun _ => ?_⟩
    have ei : i = n := by omega
    subst ei
    rw [bz_f (fun z => by unfold fmB at z; rw [Bool.and_eq_true, decide_eq_true_iff] at z; rw [g z.1] at z; exact absurd z.2 (by decide))] at h
    exact h
  | x + 1, i, e, g => by
    have hn := hV.1
    refine v_X4_isFamed_2 o _ _ _ ho ?_
    rw [zw_n (a := i) (by omega), hC.1, zw_n (a := a) (by omega), show ((a : Int)).toNat = a by omega, (hC.2.2.2.2.2 a ha).1, show (i : Int) + 1 = ((i + 1 : Nat) : Int) by omega]
    refine ⟨fun _ => ⟨by omega, by omega, fun q => c_X4_isBearer hd o n k V ho hV hC i a (by omega) ha y hy (bz_br (fun q2 => ?_) (fun q2 => ?_)), fun q => ?_⟩, fun z => absurd (by omega) z⟩
    · refine l_X4_famed hd o n k V ho hV hC a ha y hy h x (i + 1) (by omega) (fun _ => ?_)
      rw [anyN, g q, Bool.false_or, Bool.eq_false_iff]; exact q2
    · rw [bz_t (by unfold fmB; rw [Bool.and_eq_true, decide_eq_true_iff]; exact ⟨q, (anyN_iff n).mpr ⟨i, by omega, q2⟩⟩)] at h; exact h
    · rw [bz_f (fun z => by unfold fmB at z; rw [Bool.and_eq_true, decide_eq_true_iff] at z; exact q z.1)] at h; exact h
theorem c_X4_isFamed {d : Nat} {M : zM} {Q : Int → zM → Prop} (hd : 2 ≤ d) (o n k : Nat) (V : zV) (ho : zob o 4) (hV : Vok n k V) (hC : CV o n k V M) (a : Nat) (ha : a < 12) (y : Int) (hy : zw y = y) (h : Q (bz (fmB V n a y = true)) M) : Ev d mX4_isFamed [.ref o, zI (a : Int), zI y] M Q := by
  obtain ⟨d, rfl, hdd⟩ := e_of 1 hd; replace hd := hdd
  exact e_X4_isFamed o _ _ (v_X4_isFamed_0 o _ _ ho (l_X4_famed hd o n k V ho hV hC a ha y hy h n 0 (by omega) (fun _ => rfl)))
theorem l_X8_famed {d : Nat} {M : zM} {Q : Int → zM → Prop} (hd : 1 ≤ d) (n k am : Nat) (V : zV) (hV : Vok n k V) (hR : RV n k V am M) (ham : am < 4096) (a : Nat) (ha : a < 12) (y : Int) (hy : zw y = y) (h : Q (bz (fmB V n a y = true)) M) : ∀ (x i : Nat), i + x = n → (V 7 a = 1 → anyN (brB V a y) i = false) → wp (Ev d) 8 cX8_isFamous (some .boolean) Q 3 [some (.ref 1280), some (zI (a : Int)), some (zI y), some (zI (am : Int)), some (zI (i : Int))] [] M
  | 0, i, e, g => by
    have hn := hV.1
    refine v_X8_isFamous_3 _ _ _ _ ?_
    rw [zw_n (a := i) (by omega), hR.1]
    refine ⟨fun z => absurd z (by omega), fun _ => ?_⟩
    have ei : i = n := by omega
    subst ei
    rw [bz_f (fun z => by unfold fmB at z; rw [Bool.and_eq_true, decide_eq_true_iff] at z; rw [g z.1] at z; exact absurd z.2 (by decide))] at h
    exact h
  | x + 1, i, e, g => by
    have hn := hV.1
    refine v_X8_isFamous_3 _ _ _ _ ?_
    rw [zw_n (a := i) (by omega), hR.1, zw_n (a := a) (by omega), show ((a : Int)).toNat = a by omega, (hR.2.2.2.2.2 a ha).1, show (i : Int) + 1 = ((i + 1 : Nat) : Int) by omega]
    refine ⟨fun _ => ⟨by omega, by omega, fun q => c_X8_bears hd n k am V hV hR i a (by omega) ha y hy ham (bz_br (fun q2 => ?_) (fun q2 => ?_)), fun q => ?_⟩, fun z => absurd (by omega) z⟩
    · refine l_X8_famed hd n k am V hV hR ham a ha y hy h x (i + 1) (by omega) (fun _ => ?_)
      rw [anyN, g q, Bool.false_or, Bool.eq_false_iff]; exact q2
    · rw [bz_t (by unfold fmB; rw [Bool.and_eq_true, decide_eq_true_iff]; exact ⟨q, (anyN_iff n).mpr ⟨i, by omega, q2⟩⟩)] at h; exact h
    · exact l_X8_famed hd n k am V hV hR ham a ha y hy h x (i + 1) (by omega) (fun z => absurd z q)
theorem c_X8_isFamous {d : Nat} {M : zM} {Q : Int → zM → Prop} (hd : 2 ≤ d) (n k am : Nat) (V : zV) (hV : Vok n k V) (hR : RV n k V am M) (ham : am < 4096) (a : Nat) (ha : a < 12) (y : Int) (hy : zw y = y) (h : Q (bz (fmB V n a y = true)) M) : Ev d mX8_isFamous [.ref 1280, zI (a : Int), zI y, zI (am : Int)] M Q := by
  obtain ⟨d, rfl, hdd⟩ := e_of 1 hd; replace hd := hdd
  exact e_X8_isFamous _ _ _ (v_X8_isFamous_0 _ _ _ (l_X8_famed hd n k am V hV hR ham a ha y hy h n 0 (by omega) (fun _ => rfl)))
theorem c_X4_livesKnowing {d : Nat} {M : zM} {Q : Int → zM → Prop} (hd : 2 ≤ d) (o n k : Nat) (V : zV) (ho : zob o 4) (hV : Vok n k V) (hC : CV o n k V M) (K : Nat → Nat) (hK : KnA M (o + 15) n K) (hb4 : ∀ p, p < n → K p < 4096) (p b : Nat) (hp : p < n) (hb : b < n) (y : Int) (hy : zw y = y) (h : Q (bz (lkB V K y p b = true)) M) : Ev d mX4_livesKnowing [.ref o, zI (p : Int), zI (b : Int), zI y] M Q := by
  obtain ⟨d, rfl, hdd⟩ := e_of 1 hd; replace hd := hdd
  have hn := hV.1
  have l4 := hb4 p hp
  obtain ⟨c1, c2, c3, c4, c5, c6⟩ := id hC
  refine e_X4_livesKnowing o _ _ _ (v_X4_livesKnowing_0 o _ _ _ ho ?_)
  have wp1 : zw (p : Int) = (p : Int) := zw_n (by omega)
  rw [wp1, show ((p : Int)).toNat = p by omega, hK p hp, zb_bit (by omega) (by omega), bz_1]
  unfold lkB at h
  refine ⟨by omega, by omega, fun q => c_X4_lives hd o ho _ _ (by omega) (by omega) ?_, fun q => ?_⟩
  · rw [wp1, show ((p : Int)).toNat = p by omega, (c4 p hp).1, (c4 p hp).2.1, hy]
    refine bz_br (fun q2 => ?_) (fun q2 => ?_)
    · rw [bz_f (by rw [Bool.and_eq_true, decide_eq_true_iff]; exact fun z => q2 z.2)] at h; exact h
    · rw [bz_t (by rw [Bool.and_eq_true, decide_eq_true_iff]; exact ⟨q, q2⟩)] at h; exact h
  · rw [bz_f (by rw [Bool.and_eq_true]; exact fun z => q z.1)] at h; exact h
/-- p holds name a by b -/
def hB (V : zV) (LS : Option (List lwL)) (K : Nat → Nat) (a : Nat) (y : Int) (p b : Nat) : Bool := brB V a y b && (lkB V K y p b && hlB V LS y p b)
theorem l_X8_does {d : Nat} {M0 : zM} {Q : Int → zM → Prop} (hd : 4 ≤ d) (n k am : Nat) (V : zV) (hV : Vok n k V) (hR : RV n k V am M0) (ham : am < 4096) (LS : Option (List lwL)) (hL : LR M0 LS) (K : Nat → Nat) (hK : KnA M0 1313 n K) (hb4 : ∀ p, p < n → K p < 4096) (p a : Nat) (hp : p < n) (ha : a < 12) (y : Int) (hy0 : 0 ≤ y) (hy1 : y < 100) (hlv : V 0 p ≤ y ∧ y < V 1 p) (h : ∀ M2 : zM, FrQ M0 M2 → Q (bz (anyN (hB V LS K a y p) n = true)) M2) : ∀ (x i : Nat) (M : zM), i + x = n → FrQ M0 M → anyN (hB V LS K a y p) i = false → wp (Ev d) 8 cX8_doesHold (some .boolean) Q 14 [some (.ref 1280), some (zI (p : Int)), some (zI (a : Int)), some (zI y), some (zI (am : Int)), some (zI (i : Int))] [] M
  | 0, i, M, e, f, g => by
    have hn := hV.1
    have hR2 := RV_R (FrQ_R f) hR
    refine v_X8_doesHold_14 _ _ _ _ _ ?_
    rw [zw_n (a := i) (by omega), hR2.1]
    refine ⟨fun z => absurd z (by omega), fun _ => ?_⟩
    have ei : i = n := by omega
    subst ei
    have hh := h M f
    rw [bz_f (by rw [g]; decide)] at hh; exact hh
  | x + 1, i, M, e, f, g => by
    have hn := hV.1
    have hR2 := RV_R (FrQ_R f) hR
    have wy : zw y = y := zw_of (by omega) (by omega)
    have l4 := hb4 p hp
    have nx : ∀ M2 : zM, FrQ M0 M2 → hB V LS K a y p i = false → wp (Ev d) 8 cX8_doesHold (some .boolean) Q 14 [some (.ref 1280), some (zI (p : Int)), some (zI (a : Int)), some (zI y), some (zI (am : Int)), some (zI ((i : Int) + 1))] [] M2 := by
      intro M2 f2 q
      rw [show (i : Int) + 1 = ((i + 1 : Nat) : Int) by omega]
      exact l_X8_does hd n k am V hV hR ham LS hL K hK hb4 p a hp ha y hy0 hy1 hlv h x (i + 1) M2 (by omega) f2 (by rw [anyN, g, q]; rfl)
    refine v_X8_doesHold_14 _ _ _ _ _ ?_
    rw [zw_n (a := i) (by omega), hR2.1]
    refine ⟨fun _ => c_X8_bears (by omega) n k am V hV hR2 i a (by omega) ha y wy ham (bz_br (fun q => nx M f ?_) (fun q => ?_)), fun z => absurd (by omega) z⟩
    · rw [Bool.not_eq_true] at q
      unfold hB; rw [q]; rfl
    · rw [zw_n (a := p) (by omega), show ((p : Int)).toNat = p by omega, f.1 1313 _ (by omega) (by omega), hK p hp, zb_bit (by omega) (by omega), bz_1]
      have qn : V 2 i = (a : Int) := by unfold brB at q; rw [decide_eq_true_iff] at q; exact q.1
      refine ⟨by omega, by omega, fun q2 => c_X8_holdsFor hd n k am V hV hR2 LS (LR_R (FrQ_R f) hL) p i a hp (by omega) y hy0 hy1 qn (fun M2 f2 => bz_br (fun q3 => nx M2 (FrQ_tr f f2) ?_) (fun q3 => ?_)), fun q2 => nx M f ?_⟩
      · rw [Bool.not_eq_true] at q3
        unfold hB; rw [q3, Bool.and_false, Bool.and_false]
      · have hh := h M2 (FrQ_tr f f2)
        rw [bz_t ((anyN_iff n).mpr ⟨i, by omega, by unfold hB lkB; rw [q, q2, q3, decide_eq_true hlv]; rfl⟩)] at hh; exact hh
      · rw [Bool.not_eq_true] at q2
        unfold hB lkB; rw [q2, Bool.false_and, Bool.false_and, Bool.and_false]
theorem c_X8_doesHold {d : Nat} {M : zM} {Q : Int → zM → Prop} (hd : 5 ≤ d) (n k am : Nat) (V : zV) (hV : Vok n k V) (hR : RV n k V am M) (ham : am < 4096) (LS : Option (List lwL)) (hL : LR M LS) (K : Nat → Nat) (hK : KnA M 1313 n K) (hb4 : ∀ p, p < n → K p < 4096) (p a : Nat) (hp : p < n) (ha : a < 12) (y : Int) (hy0 : 0 ≤ y) (hy1 : y < 100) (h : ∀ M2 : zM, FrQ M M2 → Q (bz (anyN (hB V LS K a y p) n = true)) M2) : Ev d mX8_doesHold [.ref 1280, zI (p : Int), zI (a : Int), zI y, zI (am : Int)] M Q := by
  obtain ⟨d, rfl, hdd⟩ := e_of 4 hd; replace hd := hdd
  have hn := hV.1
  have wy : zw y = y := zw_of (by omega) (by omega)
  have wp1 : zw (p : Int) = (p : Int) := zw_n (by omega)
  refine e_X8_doesHold _ _ _ _ (v_X8_doesHold_0 _ _ _ _ (c_X8_lives (by omega) _ _ (by omega) (by omega) ?_))
  rw [wp1, show ((p : Int)).toNat = p by omega, (hR.2.2.2.1 p hp).1, (hR.2.2.2.1 p hp).2.1, wy]
  refine bz_br (fun q => ?_) (fun q => ?_)
  · have hh := h M (FrQ_rf M)
    rw [bz_f (fun z => by
      obtain ⟨i, h1, h2⟩ := (anyN_iff n).mp z
      unfold hB lkB at h2
      simp only [Bool.and_eq_true, decide_eq_true_eq] at h2
      exact q h2.2.1.2)] at hh
    exact hh
  · exact l_X8_does hd n k am V hV hR ham LS hL K hK hb4 p a hp ha y hy0 hy1 q h n 0 M (by omega) (FrQ_rf M) rfl
/-- the holders of a name -/
def hdS (V : zV) (LS : Option (List lwL)) (K : Nat → Nat) (n a : Nat) (y : Int) : Nat := bs (fun p => anyN (hB V LS K a y p) n) n
theorem bs_12 {P : Nat → Bool} {n : Nat} (hn : n ≤ 12) : bs P n < 4096 := Nat.lt_of_lt_of_le (bs_lt P n) (show 2 ^ n ≤ 2 ^ 12 from Nat.pow_le_pow_right (by omega) hn)
theorem l_X8_holders {d : Nat} {M0 : zM} {Q : Int → zM → Prop} (hd : 5 ≤ d) (n k am : Nat) (V : zV) (hV : Vok n k V) (hR : RV n k V am M0) (ham : am < 4096) (LS : Option (List lwL)) (hL : LR M0 LS) (K : Nat → Nat) (hK : KnA M0 1313 n K) (hb4 : ∀ p, p < n → K p < 4096) (a : Nat) (ha : a < 12) (y : Int) (hy0 : 0 ≤ y) (hy1 : y < 100) (h : ∀ M2 : zM, FrQ M0 M2 → Q (hdS V LS K n a y : Int) M2) : ∀ (x i : Nat) (M : zM), i + x = n → FrQ M0 M → wp (Ev d) 8 cX8_holders (some .int) Q 6 [some (.ref 1280), some (zI (a : Int)), some (zI y), some (zI (am : Int)), some (zI ((bs (fun p => anyN (hB V LS K a y p) n) i : Nat) : Int)), some (zI (i : Int))] [] M
  | 0, i, M, e, f => by
    have hn := hV.1
    have hR2 := RV_R (FrQ_R f) hR
    have lt := bs_12 (P := fun p => anyN (hB V LS K a y p) n) (n := i) (by omega)
    refine v_X8_holders_6 _ _ _ _ _ ?_
    rw [zw_n (a := i) (by omega), hR2.1, zw_n (a := bs (fun p => anyN (hB V LS K a y p) n) i) (by omega)]
    refine ⟨fun z => absurd z (by omega), fun _ => ?_⟩
    have ei : i = n := by omega
    have hh := h M f
    unfold hdS at hh
    rw [← ei] at hh ⊢
    exact hh
  | x + 1, i, M, e, f => by
    have hn := hV.1
    have hR2 := RV_R (FrQ_R f) hR
    have lt := bs_12 (P := fun p => anyN (hB V LS K a y p) n) (n := i) (by omega)
    have ti := tp_12 (p := i) (by omega)
    refine v_X8_holders_6 _ _ _ _ _ ?_
    rw [zw_n (a := i) (by omega), hR2.1, zb_shl (by omega), zb_or (by omega) (by omega), show (i : Int) + 1 = ((i + 1 : Nat) : Int) by omega]
    refine ⟨fun _ => c_X8_doesHold hd n k am V hV hR2 ham LS (LR_R (FrQ_R f) hL) K (KnA_fr (fun j => f.1 _ _ (by omega) (by omega)) hK) hb4 i a (by omega) ha y hy0 hy1 (fun M2 f2 => bz_br (fun q => ?_) (fun q => ?_)), fun z => absurd (by omega) z⟩
    · have := l_X8_holders hd n k am V hV hR ham LS hL K hK hb4 a ha y hy0 hy1 h x (i + 1) M2 (by omega) (FrQ_tr f f2)
      rw [bs, if_neg q] at this; exact this
    · have := l_X8_holders hd n k am V hV hR ham LS hL K hK hb4 a ha y hy0 hy1 h x (i + 1) M2 (by omega) (FrQ_tr f f2)
      rw [bs, if_pos q] at this; exact this
theorem c_X8_holders {d : Nat} {M : zM} {Q : Int → zM → Prop} (hd : 6 ≤ d) (n k am : Nat) (V : zV) (hV : Vok n k V) (hR : RV n k V am M) (ham : am < 4096) (LS : Option (List lwL)) (hL : LR M LS) (K : Nat → Nat) (hK : KnA M 1313 n K) (hb4 : ∀ p, p < n → K p < 4096) (a : Nat) (ha : a < 12) (y : Int) (hy0 : 0 ≤ y) (hy1 : y < 100) (h : ∀ M2 : zM, FrQ M M2 → Q (hdS V LS K n a y : Int) M2) : Ev d mX8_holders [.ref 1280, zI (a : Int), zI y, zI (am : Int)] M Q := by
  obtain ⟨d, rfl, hdd⟩ := e_of 5 hd; replace hd := hdd
  exact e_X8_holders _ _ _ (v_X8_holders_0 _ _ _ (l_X8_holders hd n k am V hV hR ham LS hL K hK hb4 a ha y hy0 hy1 h n 0 M (by omega) (FrQ_rf M)))
/-- a name is held -/
def hdA (V : zV) (LS : Option (List lwL)) (K : Nat → Nat) (n : Nat) (y : Int) (a : Nat) : Bool := fmB V n a y || anyN (fun p => anyN (hB V LS K a y p) n) n
theorem c_X8_isHeld {d : Nat} {M : zM} {Q : Int → zM → Prop} (hd : 7 ≤ d) (n k am : Nat) (V : zV) (hV : Vok n k V) (hR : RV n k V am M) (ham : am < 4096) (LS : Option (List lwL)) (hL : LR M LS) (K : Nat → Nat) (hK : KnA M 1313 n K) (hb4 : ∀ p, p < n → K p < 4096) (a : Nat) (ha : a < 12) (y : Int) (hy0 : 0 ≤ y) (hy1 : y < 100) (h : ∀ M2 : zM, FrQ M M2 → Q (bz (hdA V LS K n y a = true)) M2) : Ev d mX8_isHeld [.ref 1280, zI (a : Int), zI y, zI (am : Int)] M Q := by
  obtain ⟨d, rfl, hdd⟩ := e_of 6 hd; replace hd := hdd
  have hn := hV.1
  have wy : zw y = y := zw_of (by omega) (by omega)
  refine e_X8_isHeld _ _ _ (v_X8_isHeld_0 _ _ _ (c_X8_isFamous (by omega) n k am V hV hR ham a ha y wy (bz_br (fun q => ?_) (fun q => ?_))))
  · refine c_X8_holders hd n k am V hV hR ham LS hL K hK hb4 a ha y hy0 hy1 (fun M2 f => ?_)
    have hh := h M2 f
    have lt : hdS V LS K n a y < 4096 := bs_12 hn
    rw [zw_n (by omega)]
    rw [Bool.not_eq_true] at q
    have e : hdA V LS K n y a = anyN (fun p => anyN (hB V LS K a y p) n) n := by unfold hdA; rw [q, Bool.false_or]
    rw [e] at hh
    have z := bs_z (P := fun p => anyN (hB V LS K a y p) n) n
    refine ⟨fun g => ?_, fun g => ?_⟩
    · have g2 : hdS V LS K n a y = 0 := by omega
      rw [bz_f (by rw [z.mp g2]; decide)] at hh; exact hh
    · have g2 : ¬ hdS V LS K n a y = 0 := by omega
      rw [bz_t (by rw [← Bool.not_eq_false]; exact fun y2 => g2 (z.mpr y2))] at hh; exact hh
  · have hh := h M (FrQ_rf M)
    rw [bz_t (by unfold hdA; rw [q]; rfl)] at hh; exact hh
