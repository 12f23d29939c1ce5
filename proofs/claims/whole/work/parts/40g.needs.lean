/-! needs -/
theorem zI_w (a : Int) : zI a = zI (zw a) := by unfold zI; rw [ofi_zw]
theorem ushr_w (a b : Int) : z_ushr a b = z_ushr (zw a) b := by unfold z_ushr; rw [ofi_zw]
def nz (z : Int) : Int := zw (z * 1103515245 + 12345)
def zst (z : Int) : Nat → Int
  | 0 => z
  | p + 1 => nz (zst z p)
/-- a drawn death -/
def dd (z b : Int) : Int := b + 1 + z_rem (z_ushr z 8) (100 - b)
theorem dd_bd {z b : Int} (h0 : 0 ≤ b) (h1 : b < 100) : b < dd z b ∧ dd z b ≤ 100 := by
  have u := ushr8 z
  have w : zw (z_ushr z 8) = z_ushr z 8 := zx_ushr _ _
  have w2 : zw (100 - b) = 100 - b := zw_of (by omega) (by omega)
  have r := rem_bd (a := z_ushr z 8) (b := 100 - b) (by rw [w]; exact u.1) (by rw [w]; exact u.2) (by omega) (by omega)
  unfold dd
  omega
def vD (V : zV) (D : Nat → Int) : zV := fun r j => if r = 1 then D j else V r j
theorem vD_ne (V : zV) (D : Nat → Int) {r : Nat} (h : r ≠ 1) (j : Nat) : vD V D r j = V r j := if_neg h
theorem vD_1 (V : zV) (D : Nat → Int) (j : Nat) : vD V D 1 j = D j := if_pos rfl
theorem vD_0 (V : zV) (D : Nat → Int) : vD V D 0 = V 0 := funext (fun j => vD_ne V D (by omega) j)
theorem Vok_D {n k : Nat} {V : zV} {D : Nat → Int} (h : Vok n k V) (hD : ∀ p, p < n → V 0 p < D p ∧ D p ≤ 100) : Vok n k (vD V D) := by
  have e : ∀ r j, r ≠ 1 → vD V D r j = V r j := fun r j q => vD_ne V D q j
  unfold Vok at h ⊢
  simp only [e 0 _ (by omega), e 2 _ (by omega), e 3 _ (by omega), e 4 _ (by omega), e 5 _ (by omega), e 6 _ (by omega), e 7 _ (by omega), e 8 _ (by omega), vD_1]
  obtain ⟨v1, v2, v3, v4, v5, v6, v7, v8⟩ := h
  exact ⟨v1, v2, fun p hp => ⟨(v3 p hp).1, (v3 p hp).2.1, (hD p hp).1, (hD p hp).2, (v3 p hp).2.2.2.2.1, (v3 p hp).2.2.2.2.2⟩, v4, v5, v6, v7, v8⟩
/-- the deaths drawn from z on -/
def dz (V : zV) (z : Int) (q : Nat) : Int := dd (zst z (q + 1)) (V 0 q)
theorem CV_D {n k : Nat} {V : zV} {E D N : Nat → Int} {M M2 : zM} (h : CV 256 n k (vNm (vD V E) N) M) (f : ∀ i j, i ≠ 259 → zg M2 i j = zg M i j) (g : ∀ q, q < n → zg M2 259 q = D q) : CV 256 n k (vNm (vD V D) N) M2 := by
  obtain ⟨c1, c2, c3, c4, c5, c6⟩ := h
  have e : ∀ r j, r ≠ 1 → vNm (vD V D) N r j = vNm (vD V E) N r j := by
    intro r j q
    by_cases q2 : r = 2
    · subst q2; rw [vNm_2, vNm_2]
    · rw [vNm_ne _ _ q2, vNm_ne _ _ q2, vD_ne _ _ q, vD_ne _ _ q]
  refine ⟨by rw [f _ _ (by omega)]; exact c1, by rw [f _ _ (by omega)]; exact c2, by rw [f _ _ (by omega), e 9 _ (by omega)]; exact c3, fun q hq => ⟨by rw [f _ _ (by omega), e 0 _ (by omega)]; exact (c4 q hq).1, ?_, by rw [f _ _ (by omega), e 2 _ (by omega)]; exact (c4 q hq).2.2⟩, fun m hm => ⟨by rw [f _ _ (by omega), e 3 _ (by omega)]; exact (c5 m hm).1, by rw [f _ _ (by omega), e 4 _ (by omega)]; exact (c5 m hm).2.1, by rw [f _ _ (by omega), e 5 _ (by omega)]; exact (c5 m hm).2.2.1, by rw [f _ _ (by omega), e 6 _ (by omega)]; exact (c5 m hm).2.2.2⟩, fun a ha => ⟨by rw [f _ _ (by omega), e 7 _ (by omega)]; exact (c6 a ha).1, by rw [f _ _ (by omega), e 8 _ (by omega)]; exact (c6 a ha).2⟩⟩
  rw [vNm_ne _ _ (by omega), vD_1]
  exact g q hq
theorem c_X3_drawDeaths {d : Nat} {M : zM} {Q : Int → zM → Prop} (hd : 1 ≤ d) (n k : Nat) (V : zV) (E N : Nat → Int) (hV : Vok n k V) (hC : CV 256 n k (vNm (vD V E) N) M) (z : Int) (hz : zw z = z) (h : ∀ M2 : zM, FrT M M2 → (∀ i j, i ≠ 259 → zg M2 i j = zg M i j) → CV 256 n k (vNm (vD V (dz V z)) N) M2 → Q (zst z n) M2) : Ev d mX3_drawDeaths [.ref 320, zI z] M Q := by
  obtain ⟨d, rfl, -⟩ := e_of 0 hd
  have hn := hV.1
  have hb : ∀ q, q < n → zg M 258 q = V 0 q := fun q hq => by
    have := (hC.2.2.2.1 q hq).1
    rw [vNm_ne _ _ (by omega), vD_ne _ _ (by omega)] at this; exact this
  have wz : ∀ p, zw (zst z p) = zst z p := by
    intro p
    match p with
    | 0 => exact hz
    | p + 1 => exact zw_zw _
  have l : ∀ (x i : Nat) (M2 : zM), i + x = n → (∀ a b, a ≠ 259 → zg M2 a b = zg M a b) → (∀ a b, zh M2 a b = zh M a b) → (∀ q, q < i → zg M2 259 q = dz V z q) → wp (Ev d) 3 cX3_drawDeaths (some .int) Q 4 [some (.ref 320), none, some (zI (zst z i)), some (zI (i : Int)), none] [] M2 := by
    intro x
    induction x with
    | zero =>
      intro i M2 e f1 f2 g
      refine v_X3_drawDeaths_4 _ _ ?_
      rw [zw_n (a := i) (by omega), f1 _ _ (by omega), hC.1, wz]
      refine ⟨fun y => absurd y (by omega), fun _ => ?_⟩
      rw [show i = n by omega] at g ⊢
      exact h M2 ⟨fun a b _ _ _ _ q => f1 a b (by omega), f2⟩ f1 (CV_D hC f1 g)
    | succ x ih =>
      intro i M2 e f1 f2 g
      have v3 := hV.2.2.1 i (by omega)
      have bd := dd_bd (z := zst z (i + 1)) v3.1 v3.2.1
      have w2 : zw (100 - V 0 i) = 100 - V 0 i := zw_of (by omega) (by omega)
      refine v_X3_drawDeaths_4 _ _ ?_
      rw [zw_n (a := i) (by omega), f1 256 _ (by omega), hC.1, show ((i : Int)).toNat = i by omega, f1 258 _ (by omega), hb i (by omega), w2, zI_w (zst z i * 1103515245 + 12345), ushr_w (zst z i * 1103515245 + 12345), show zw (zst z i * 1103515245 + 12345) = zst z (i + 1) from rfl, show (i : Int) + 1 = ((i + 1 : Nat) : Int) by omega]
      refine ⟨fun _ => ⟨by omega, by omega, fun _ => ⟨by omega, by omega, by omega, by omega, by omega, ?_⟩, fun y => absurd (by omega) y⟩, fun y => absurd (by omega) y⟩
      rintro _ rfl
      refine ih (i + 1) _ (by omega) (fun a b q => by rw [zg_zsi _ _ _ _ q]; exact f1 a b q) (fun a b => by rw [zh_zs]; exact f2 a b) (fun q hq => ?_)
      by_cases y : q = i
      · subst y
        rw [zg_zs1]
        exact zw_of (by show -2147483648 ≤ dd (zst z (q + 1)) (V 0 q); omega) (by show dd (zst z (q + 1)) (V 0 q) < 2147483648; omega)
      · rw [zg_zsj _ _ _ _ y]; exact g q (by omega)
  exact e_X3_drawDeaths _ (v_X3_drawDeaths_0 _ (l n 0 M (by omega) (fun _ _ _ => rfl) (fun _ _ => rfl) (fun q hq => absurd hq (by omega))))
/-- the seed, the sum and the most, time by time -/
def ndz (n : Nat) (z : Int) : Nat → Int
  | 0 => z
  | t + 1 => zst (ndz n z t) n
def ndc (V : zV) (LS : Option (List lwL)) (n k : Nat) (W : Nat → Int) (z : Int) : Nat := pcv (um (nmU (vD V (dz V z)) LS n k W 0 n) n)
theorem ndc_lt (V : zV) (LS : Option (List lwL)) (n k : Nat) (W : Nat → Int) (z : Int) : ndc V LS n k W z < 4096 := pcv_lt (um_lt (fun p => (nmU_bd _ _ _ _ _ _ _ p).2) n)
def nds (V : zV) (LS : Option (List lwL)) (n k : Nat) (W : Nat → Int) (z : Int) : Nat → Nat
  | 0 => 0
  | t + 1 => nds V LS n k W z t + ndc V LS n k W (ndz n z t)
def ndm (V : zV) (LS : Option (List lwL)) (n k : Nat) (W : Nat → Int) (z : Int) : Nat → Nat
  | 0 => 0
  | t + 1 => if ndm V LS n k W z t < ndc V LS n k W (ndz n z t) then ndc V LS n k W (ndz n z t) else ndm V LS n k W z t
theorem nds_lt (V : zV) (LS : Option (List lwL)) (n k : Nat) (W : Nat → Int) (z : Int) : ∀ t, nds V LS n k W z t ≤ 4096 * t
  | 0 => Nat.le_refl _
  | t + 1 => by
    have := nds_lt V LS n k W z t
    have := ndc_lt V LS n k W (ndz n z t)
    rw [nds]; omega
theorem ndm_lt (V : zV) (LS : Option (List lwL)) (n k : Nat) (W : Nat → Int) (z : Int) : ∀ t, ndm V LS n k W z t < 4096
  | 0 => by rw [ndm]; decide
  | t + 1 => by
    have := ndm_lt V LS n k W z t
    have := ndc_lt V LS n k W (ndz n z t)
    rw [ndm]; split <;> omega
theorem zst_w {z : Int} (hz : zw z = z) : ∀ p, zw (zst z p) = zst z p
  | 0 => hz
  | _ + 1 => zw_zw _
theorem ndz_w {z : Int} (n : Nat) (hz : zw z = z) : ∀ t, zw (ndz n z t) = ndz n z t
  | 0 => hz
  | t + 1 => zst_w (ndz_w n hz t) n
theorem dz_ok {n k : Nat} {V : zV} (hV : Vok n k V) (z : Int) : Vok n k (vD V (dz V z)) := Vok_D hV (fun p hp => by
  have v3 := hV.2.2.1 p hp
  exact dd_bd v3.1 v3.2.1)
theorem l_X7_needs {d : Nat} {M0 : zM} {Q : Int → zM → Prop} (hd : 7 ≤ d) (n k : Nat) (V : zV) (LS : Option (List lwL)) (W : Nat → Int) (hV : Vok n k V) (hO : Ook n (V 0) W) (hL : LC M0 LS) (m : Nat) (hm : m ≤ 20) (hm0 : 0 < m) (w : Int) (hw : zw w = w) (z : Int) (hz : zw z = z) (h : ∀ M2 : zM, FrT M0 M2 → Q (if w = 0 then z_div (nds V LS n k W z m : Int) (m : Int) else (ndm V LS n k W z m : Int)) M2) : ∀ (x t : Nat) (M : zM) (E N : Nat → Int), t + x = m → FrT M0 M → CV 256 n k (vNm (vD V E) N) M → (∀ j, j < n → zg M 261 j = W j) → wp (Ev d) 7 cX7_needs (some .int) Q 41 [some (.ref 64), none, some (zI (m : Int)), some (zI w), some (zI (ndz n z t)), some (zI (nds V LS n k W z t : Int)), some (zI (ndm V LS n k W z t : Int)), some (zI (t : Int))] [] M
  | 0, t, M, E, N, e, f, hC, hW => by
    have b1 := nds_lt V LS n k W z t
    have b2 := ndm_lt V LS n k W z t
    refine v_X7_needs_41 _ _ _ _ _ _ ?_
    rw [zw_n (a := t) (by omega), zw_n (a := m) (by omega), hw, zw_n (a := ndm V LS n k W z t) (by omega)]
    have hh := h M f
    have et : t = m := by omega
    subst et
    refine ⟨fun y => absurd y (by omega), fun _ => ⟨fun q => ⟨by omega, ?_⟩, fun q => ?_⟩⟩
    · rw [if_pos q] at hh; exact hh
    · rw [if_neg q] at hh; exact hh
  | x + 1, t, M, E, N, e, f, hC, hW => by
    have hn := hV.1
    have b1 := nds_lt V LS n k W z t
    have b2 := ndm_lt V LS n k W z t
    have b3 := ndc_lt V LS n k W (ndz n z t)
    refine v_X7_needs_41 _ _ _ _ _ _ ?_
    rw [zw_n (a := t) (by omega), zw_n (a := m) (by omega)]
    refine ⟨fun _ => c_X3_drawDeaths (by omega) n k V E N hV hC (ndz n z t) (ndz_w n hz t) (fun M2 f1 f2 f3 => ?_), fun y => absurd (by omega) y⟩
    have hV2 := dz_ok hV (ndz n z t)
    have hO2 : Ook n (vD V (dz V (ndz n z t)) 0) W := by rw [vD_0]; exact hO
    refine c_X3_nameAll hd n k _ LS W hV2 hO2 0 (Or.inl rfl) (LC_T (FrT_tr f f1) hL) N f3 (fun j hj => by rw [f2 _ _ (by omega)]; exact hW j hj) (fun M3 g1 g2 g3 => ?_)
    have c : ∀ p, p < n → zg M3 260 p = nmU (vD V (dz V (ndz n z t))) LS n k W 0 n p := fun p hp => by
      have := (g2.2.2.2.1 p hp).2.2
      rw [vNm_2] at this; exact this
    refine c_X3_namesThatCame (by omega) n hn _ (fun p => nmU_bd _ _ _ _ _ _ _ p) g2.1 c (c_X3_namesThatCame (by omega) n hn _ (fun p => nmU_bd _ _ _ _ _ _ _ p) g2.1 c ?_)
    rw [show pcv (um (nmU (vD V (dz V (ndz n z t))) LS n k W 0 n) n) = ndc V LS n k W (ndz n z t) from rfl, show (t : Int) + 1 = ((t + 1 : Nat) : Int) by omega, zw_n (a := ndm V LS n k W z t) (by omega), zw_n (a := ndc V LS n k W (ndz n z t)) (by omega), show (nds V LS n k W z t : Int) + (ndc V LS n k W (ndz n z t) : Int) = (nds V LS n k W z (t + 1) : Int) by rw [nds]; omega]
    have nx := l_X7_needs hd n k V LS W hV hO hL m hm hm0 w hw z hz h x (t + 1) M3 (dz V (ndz n z t)) _ (by omega) (FrT_tr f (FrT_tr f1 g1)) g2 g3
    have em : (if (ndm V LS n k W z t : Int) < (ndc V LS n k W (ndz n z t) : Int) then (ndc V LS n k W (ndz n z t) : Int) else (ndm V LS n k W z t : Int)) = (ndm V LS n k W z (t + 1) : Int) := by
      rw [ndm]
      by_cases q : ndm V LS n k W z t < ndc V LS n k W (ndz n z t)
      · rw [if_pos q, if_pos (by omega)]
      · rw [if_neg q, if_neg (by omega)]
    rw [em]
    exact nx
/-! the reference: real deaths are set aside, drawn, and laid back -/
def FrE (n : Nat) (M M2 : zM) : Prop := (∀ i j, i ≠ 137 → i ≠ 138 → i ≠ 207 → i ≠ 271 → ¬ (i = 128 ∧ j = 10) → i ≠ 1310 → i ≠ 1311 → i ≠ 1313 → i ≠ 1314 → i ≠ 1315 → ¬ (i = 1284 ∧ j < n) → zg M2 i j = zg M i j) ∧ (∀ i j, zh M2 i j = zh M i j)
theorem FrE_rf (n : Nat) (M : zM) : FrE n M M := ⟨fun _ _ _ _ _ _ _ _ _ _ _ _ _ => rfl, fun _ _ => rfl⟩
theorem FrE_tr {n : Nat} {M M2 M3 : zM} (h : FrE n M M2) (g : FrE n M2 M3) : FrE n M M3 := ⟨fun i j a b c e f l m o p q r => by rw [g.1 i j a b c e f l m o p q r, h.1 i j a b c e f l m o p q r], fun i j => by rw [g.2, h.2]⟩
theorem FrB_E {n : Nat} {M M2 : zM} (h : FrB M M2) : FrE n M M2 := ⟨fun i j a b c e f l m o p q _ => h.1 i j a b c e f l m o p q, h.2⟩
theorem FrE_84 {n : Nat} (M : zM) {j : Nat} (hj : j < n) (v : Int) : FrE n M (zs M 1284 j v) := ⟨fun a b _ _ _ _ _ _ _ _ _ _ q => by rw [zg_zs, if_neg (fun z => q ⟨z.1, by omega⟩)], fun _ _ => rfl⟩
theorem fE {n : Nat} {M M2 : zM} (h : FrE n M M2) (i j : Nat) (c : 1280 ≤ i ∧ (i < 1310 ∨ i = 1316) ∧ i ≠ 1284) : zg M2 i j = zg M i j := h.1 i j (by omega) (by omega) (by omega) (by omega) (by omega) (by omega) (by omega) (by omega) (by omega) (by omega) (by omega)
theorem l_X8_needs74 {d : Nat} {M0 : zM} {Q : Int → zM → Prop} (n k : Nat) (V : zV) (hV : Vok n k V) (n1 : zg M0 1280 1 = (n : Int)) (hb : ∀ q, q < n → zg M0 1283 q = V 0 q) (m w s mo t z : Int) (h : ∀ M2 : zM, FrE n M0 M2 → (∀ q, q < n → zg M2 1284 q = dz V z q) → wp (Ev d) 8 cX8_needs (some .int) Q 74 [some (.ref 1280), none, some (zI m), some (zI w), some (zI (zst z n)), some (zI s), some (zI mo), some (zI t), some (zI (n : Int))] [] M2) : ∀ (x i : Nat) (M : zM), i + x = n → FrE n M0 M → (∀ q, q < i → zg M 1284 q = dz V z q) → wp (Ev d) 8 cX8_needs (some .int) Q 74 [some (.ref 1280), none, some (zI m), some (zI w), some (zI (zst z i)), some (zI s), some (zI mo), some (zI t), some (zI (i : Int))] [] M
  | 0, i, M, e, f, g => by
    have ei : i = n := by omega
    subst ei
    exact h M f g
  | x + 1, i, M, e, f, g => by
    have hn := hV.1
    have v3 := hV.2.2.1 i (by omega)
    have bd := dd_bd (z := zst z (i + 1)) v3.1 v3.2.1
    have w2 : zw (100 - V 0 i) = 100 - V 0 i := zw_of (by omega) (by omega)
    refine v_X8_needs_74 _ _ _ _ _ _ _ ?_
    rw [zw_n (a := i) (by omega), fE f 1280 _ (by omega), n1, show ((i : Int)).toNat = i by omega, fE f 1283 _ (by omega), hb i (by omega), w2, zI_w (zst z i * 1103515245 + 12345), ushr_w (zst z i * 1103515245 + 12345), show zw (zst z i * 1103515245 + 12345) = zst z (i + 1) from rfl, show (i : Int) + 1 = ((i + 1 : Nat) : Int) by omega]
    refine ⟨fun _ => ⟨by omega, by omega, by omega, by omega, by omega, by omega, by omega, ?_⟩, fun y => absurd (by omega) y⟩
    rintro _ rfl
    refine l_X8_needs74 n k V hV n1 hb m w s mo t z h x (i + 1) _ (by omega) (FrE_tr f (FrE_84 _ (by omega) _)) (fun q hq => ?_)
    by_cases y : q = i
    · subst y
      rw [zg_zs1]
      exact zw_of (by show -2147483648 ≤ dd (zst z (q + 1)) (V 0 q); omega) (by show dd (zst z (q + 1)) (V 0 q) < 2147483648; omega)
    · rw [zg_zsj _ _ _ _ y]; exact g q (by omega)
theorem RV_E {n k : Nat} {V : zV} {D : Nat → Int} {M M2 : zM} (h : RV n k (vN V) 0 M) (f : FrE n M M2) (g : ∀ q, q < n → zg M2 1284 q = D q) : RV n k (vN (vD V D)) 0 M2 := by
  have e : ∀ a j, (1280 ≤ a ∧ a < 1310) → a ≠ 1284 → zg M2 a j = zg M a j := fun a j ha hb => fE f a j (by omega)
  obtain ⟨c1, c2, c3, c4, c5, c6⟩ := h
  have eN : ∀ r i, r ≠ 1 → vN (vD V D) r i = vN V r i := by
    intro r i q
    by_cases q2 : r = 2
    · subst q2; rfl
    · rw [← vN_ne _ r i q2, ← vN_ne _ r i q2, vD_ne _ _ q]
  refine ⟨by rw [e _ _ (by omega) (by omega)]; exact c1, by rw [e _ _ (by omega) (by omega)]; exact c2, by rw [e _ _ (by omega) (by omega), eN 9 _ (by omega)]; exact c3, fun p hp => ⟨by rw [e _ _ (by omega) (by omega), eN 0 _ (by omega)]; exact (c4 p hp).1, ?_, ?_⟩, fun m hm => ⟨by rw [e _ _ (by omega) (by omega), eN 3 _ (by omega)]; exact (c5 m hm).1, by rw [e _ _ (by omega) (by omega), eN 4 _ (by omega)]; exact (c5 m hm).2.1, by rw [e _ _ (by omega) (by omega), eN 5 _ (by omega)]; exact (c5 m hm).2.2⟩, fun a ha => ⟨by rw [e _ _ (by omega) (by omega), eN 7 _ (by omega)]; exact (c6 a ha).1, by rw [e _ _ (by omega) (by omega), eN 8 _ (by omega)]; exact (c6 a ha).2⟩⟩
  · rw [g p hp, ← vN_ne _ 1 p (by omega), vD_1]
  · rw [eN 2 _ (by omega), (c4 p hp).2.2, Nat.zero_testBit, if_neg (by decide), if_neg (by decide)]
theorem l_X8_needs65 {d : Nat} {M0 : zM} {Q : Int → zM → Prop} (hd : 10 ≤ d) (n k : Nat) (V : zV) (LS : Option (List lwL)) (W : Nat → Int) (hV : Vok n k V) (hO : Ook n (V 0) W) (hR : RV n k (vN V) 0 M0) (hL : LR M0 LS) (m : Nat) (hm : m ≤ 20) (w : Int) (z : Int) (hz : zw z = z) (h : ∀ M2 : zM, FrE n M0 M2 → wp (Ev d) 8 cX8_needs (some .int) Q 172 [some (.ref 1280), none, some (zI (m : Int)), some (zI w), none, some (zI (nds V LS n k W z m : Int)), some (zI (ndm V LS n k W z m : Int)), some (zI 0), none] [] M2) : ∀ (x t : Nat) (M : zM), t + x = m → FrE n M0 M → wp (Ev d) 8 cX8_needs (some .int) Q 65 [some (.ref 1280), none, some (zI (m : Int)), some (zI w), some (zI (ndz n z t)), some (zI (nds V LS n k W z t : Int)), some (zI (ndm V LS n k W z t : Int)), some (zI (t : Int)), none] [] M
  | 0, t, M, e, f => by
    have et : t = m := by omega
    subst et
    refine v_X8_needs_65 _ _ _ _ _ _ ?_
    exact ⟨fun y => absurd y (Int.lt_irrefl _), fun _ => h M f⟩
  | x + 1, t, M, e, f => by
    have hn := hV.1
    have b1 := nds_lt V LS n k W z t
    have b2 := ndm_lt V LS n k W z t
    have b3 := ndc_lt V LS n k W (ndz n z t)
    have eN : ∀ r i, r ≠ 2 → vN V r i = V r i := fun r i q => (vN_ne V r i q).symm
    have e80 : zg M 1280 1 = (n : Int) := by rw [fE f _ _ (by omega)]; exact hR.1
    refine v_X8_needs_65 _ _ _ _ _ _ ?_
    rw [zw_n (a := t) (by omega), zw_n (a := m) (by omega)]
    refine ⟨fun _ => ?_, fun y => absurd (by omega) y⟩
    refine l_X8_needs74 (M0 := M) n k V hV e80 (fun q hq => by rw [fE f _ _ (by omega), (hR.2.2.2.1 q hq).1, eN 0 q (by omega)]) _ _ _ _ _ (ndz n z t) (fun M2 f1 f2 => ?_) n 0 M (by omega) (FrE_rf n M) (fun q hq => absurd hq (by omega))
    have f3 := FrE_tr f f1
    have hV2 := dz_ok hV (ndz n z t)
    have hO2 : Ook n (vD V (dz V (ndz n z t)) 0) W := by rw [vD_0]; exact hO
    have hR2 : RV n k (vN (vD V (dz V (ndz n z t)))) 0 M2 := RV_E hR f3 f2
    refine v_X8_needs_74 _ _ _ _ _ _ _ ?_
    rw [zw_n (a := n) (by omega), hR2.1]
    refine ⟨fun y => absurd y (by omega), fun _ => ?_⟩
    refine c_X8_runBy hd n k _ LS W hV2 hO2 0 (Or.inl rfl) hR2 (LR_fr (fun i j q => fE f3 i j (by omega)) hL) (fun M3 g1 g2 => ?_)
    refine c_X8_unlikeNames (by omega) n hn _ (fun p => nmU_bd _ _ _ _ _ _ _ p) (RVN_B hR2 g1).1 g2 ?_
    rw [show pcv (um (nmU (vD V (dz V (ndz n z t))) LS n k W 0 n) n) = ndc V LS n k W (ndz n z t) from rfl, show (t : Int) + 1 = ((t + 1 : Nat) : Int) by omega, zw_n (a := ndm V LS n k W z t) (by omega), zw_n (a := ndc V LS n k W (ndz n z t)) (by omega), show (nds V LS n k W z t : Int) + (ndc V LS n k W (ndz n z t) : Int) = (nds V LS n k W z (t + 1) : Int) by rw [nds]; omega]
    have nx := l_X8_needs65 hd n k V LS W hV hO hR hL m hm w z hz h x (t + 1) M3 (by omega) (FrE_tr f3 (FrB_E g1))
    have e1 : ndz n z (t + 1) = zst (ndz n z t) n := rfl
    rw [e1, ndm] at nx
    refine ⟨fun q => ?_, fun q => ?_⟩
    · rw [if_pos (by omega)] at nx; exact nx
    · rw [if_neg (by omega)] at nx; exact nx
theorem l_X8_needs172 {E : zE} {M0 : zM} {Q : Int → zM → Prop} (n : Nat) (hn : n ≤ 12) (n1 : zg M0 1280 1 = (n : Int)) (m : Nat) (hm : 0 < m) (hm2 : m ≤ 20) (w : Int) (hw : zw w = w) (s mo : Nat) (hmo : mo < 4096) (h : ∀ M2 : zM, FrE n M0 M2 → (∀ q, q < n → zg M2 1284 q = zg M0 1316 q) → Q (if w = 0 then z_div (s : Int) (m : Int) else (mo : Int)) M2) : ∀ (x i : Nat) (M : zM), i + x = n → FrE n M0 M → (∀ q, q < i → zg M 1284 q = zg M0 1316 q) → wp E 8 cX8_needs (some .int) Q 172 [some (.ref 1280), none, some (zI (m : Int)), some (zI w), none, some (zI (s : Int)), some (zI (mo : Int)), some (zI (i : Int)), none] [] M
  | 0, i, M, e, f, g => by
    refine v_X8_needs_172 _ _ _ _ _ ?_
    rw [zw_n (a := i) (by omega), fE f 1280 _ (by omega), n1, zw_n (a := m) (by omega), hw, zw_n (a := mo) (by omega)]
    have ei : i = n := by omega
    subst ei
    have hh := h M f g
    refine ⟨fun y => absurd y (by omega), fun _ => ⟨fun q => ⟨by omega, ?_⟩, fun q => ?_⟩⟩
    · rw [if_pos q] at hh; exact hh
    · rw [if_neg q] at hh; exact hh
  | x + 1, i, M, e, f, g => by
    refine v_X8_needs_172 _ _ _ _ _ ?_
    rw [zw_n (a := i) (by omega), fE f 1280 _ (by omega), n1, show ((i : Int)).toNat = i by omega, fE f 1316 _ (by omega), show (i : Int) + 1 = ((i + 1 : Nat) : Int) by omega]
    refine ⟨fun _ => ⟨by omega, by omega, by omega, by omega, ?_⟩, fun y => absurd (by omega) y⟩
    rintro _ rfl
    refine l_X8_needs172 n hn n1 m hm hm2 w hw s mo hmo h x (i + 1) _ (by omega) (FrE_tr f (FrE_84 _ (by omega) _)) (fun q hq => ?_)
    by_cases y : q = i
    · subst y; rw [zg_zs1, zw_zg]
    · rw [zg_zsj _ _ _ _ y]; exact g q (by omega)
theorem l_X8_needs24 {E : zE} {M0 : zM} {Q : Int → zM → Prop} (n : Nat) (hn : n ≤ 12) (n1 : zg M0 1280 1 = (n : Int)) (z m w : Int) (h : ∀ M2 : zM, (∀ i j, i ≠ 1316 → zg M2 i j = zg M0 i j) → (∀ i j, zh M2 i j = zh M0 i j) → (∀ q, q < n → zg M2 1316 q = zg M0 1284 q) → wp E 8 cX8_needs (some .int) Q 65 [some (.ref 1280), none, some (zI m), some (zI w), some (zI z), some (zI 0), some (zI 0), some (zI 0), none] [] M2) : ∀ (x i : Nat) (M : zM), i + x = n → (∀ i j, i ≠ 1316 → zg M i j = zg M0 i j) → (∀ i j, zh M i j = zh M0 i j) → (∀ q, q < i → zg M 1316 q = zg M0 1284 q) → wp E 8 cX8_needs (some .int) Q 24 [some (.ref 1280), some (zI z), some (zI m), some (zI w), some (zI (i : Int)), none, none, none, none] [] M
  | 0, i, M, e, f1, f2, g => by
    refine v_X8_needs_24 _ _ _ _ ?_
    rw [zw_n (a := i) (by omega), f1 _ _ (by omega), n1]
    have ei : i = n := by omega
    subst ei
    exact ⟨fun y => absurd y (by omega), fun _ => h M f1 f2 g⟩
  | x + 1, i, M, e, f1, f2, g => by
    refine v_X8_needs_24 _ _ _ _ ?_
    rw [zw_n (a := i) (by omega), f1 1280 _ (by omega), n1, show ((i : Int)).toNat = i by omega, f1 1284 _ (by omega), show (i : Int) + 1 = ((i + 1 : Nat) : Int) by omega]
    refine ⟨fun _ => ⟨by omega, by omega, by omega, by omega, ?_⟩, fun y => absurd (by omega) y⟩
    rintro _ rfl
    refine l_X8_needs24 n hn n1 z m w h x (i + 1) _ (by omega) (fun a b q => by rw [zg_zsi _ _ _ _ q]; exact f1 a b q) (fun a b => by rw [zh_zs]; exact f2 a b) (fun q hq => ?_)
    by_cases y : q = i
    · subst y; rw [zg_zs1, zw_zg]
    · rw [zg_zsj _ _ _ _ y]; exact g q (by omega)
theorem vD_self (V : zV) : vD V (V 1) = V := by
  funext r j
  by_cases q : r = 1
  · subst q; exact vD_1 V _ j
  · exact vD_ne V _ q j
theorem p_needs {d : Nat} {M : zM} (hd : 11 ≤ d) (z m w : Int) (hz : zw z = z) (hm : zw m = m) (hw : zw w = w) (hI : Inv M) : Pr d mX7_needs mX8_needs [zI z, zI m, zI w] M := by
  obtain ⟨n, k, n1, k1, hV, hC, LS, hL, hL2⟩ := Inv_V hI
  have hn := hV.1
  have hO := Inv_O hI n1
  obtain ⟨d, rfl, hdd⟩ := e_of 10 hd; replace hd := hdd
  have R : ∀ (r : Int) (M1 : zM), FrW M M1 → (¬ ((1 ≤ m ∧ m ≤ 20) ∧ 0 ≤ w ∧ w ≤ 1) → r = -1) → ((1 ≤ m ∧ m ≤ 20) ∧ 0 ≤ w ∧ w ≤ 1 → ∀ mn : Nat, m = (mn : Int) → r = if w = 0 then z_div (nds (vR M) LS n k (fun j => zg M 197 j) z mn : Int) (mn : Int) else (ndm (vR M) LS n k (fun j => zg M 197 j) z mn : Int)) → Ev (d + 1) mX8_needs [.ref 1280, zI z, zI m, zI w] M1 (fun r2 M2 => r = r2 ∧ Inv M2) := by
    intro r M1 fw hb hg
    refine e_X8_needs _ _ _ (v_X8_needs_0 _ _ _ (c_X8_in (by omega) _ _ _ ?_))
    rw [hm, zq_1, zq_20]
    refine bz_br (fun q => ⟨hb (by omega), Inv_W fw hI⟩) (fun q => c_X8_in (by omega) _ _ _ ?_)
    rw [hw, zq_0, zq_1]
    refine bz_br (fun q2 => ⟨hb (by omega), Inv_W fw hI⟩) (fun q2 => ?_)
    obtain ⟨mn, rfl⟩ : ∃ mn : Nat, m = (mn : Int) := ⟨m.toNat, by omega⟩
    have g := hg ⟨by omega, q2⟩ mn rfl
    have x1 : zg M1 1280 1 = (n : Int) := by rw [W1 fw]; exact n1
    refine l_X8_needs24 n hn x1 z _ w (fun M2 f1 f2 f3 => ?_) n 0 M1 (by omega) (fun _ _ _ => rfl) (fun _ _ => rfl) (fun q hq => absurd hq (by omega))
    have fw2 : FrW M M2 := FrW_tr fw ⟨fun i j _ _ _ _ _ _ _ _ _ _ a => f1 i j a, f2⟩
    have x2 : zg M2 1280 1 = (n : Int) := by rw [W1 fw2]; exact n1
    refine l_X8_needs65 hd n k (vR M) LS (fun j => zg M 197 j) hV hO (RV_W0 n1 k1 fw2) (LR_W fw2 hL2) mn (by omega) w z hz (fun M3 g1 => ?_) mn 0 M2 (by omega) (FrE_rf n M2)
    refine l_X8_needs172 n hn (by rw [fE g1 _ _ (by omega)]; exact x2) mn (by omega) (by omega) w hw _ _ (ndm_lt _ _ _ _ _ _ _) (fun M4 k1 k2 => ⟨g, ?_⟩) n 0 M3 (by omega) (FrE_rf n M3) (fun q hq => absurd hq (by omega))
    have fe := FrE_tr g1 k1
    refine Inv_fr (M := M) (fun i j c => ?_) (fun i j _ => by rw [fe.2, fw2.2]) hI
    obtain ⟨a1, a2, a3, a4, a5, a6, a7, a8, a9, a10⟩ := cI_no c
    obtain ⟨b1, b2⟩ := cI_no2 c
    by_cases y : i = 1284 ∧ j < n
    · obtain ⟨rfl, y2⟩ := y
      rw [k2 j y2, fE g1 1316 _ (by omega), f3 j y2, fw.1 _ _ (by omega) (by omega) (by omega) (by omega) (by omega) (by omega) (by omega) (by omega) (by omega) (by omega) (by omega)]
    · rw [fe.1 i j a1 a2 a3 a4 a5 a6 a7 a8 a9 a10 y, fw2.1 i j a1 a2 a3 a5 b1 a6 a7 a8 a9 a10 b2]
  have go : (1 ≤ m ∧ m ≤ 20) ∧ 0 ≤ w ∧ w ≤ 1 → wp (Ev d) 7 cX7_needs (some .int) (fun r M1 => Ev (d + 1) mX8_needs [.ref 1280, zI z, zI m, zI w] M1 (fun r2 M2 => r = r2 ∧ Inv M2)) 22 [some (.ref 64), some (zI z), some (zI m), some (zI w), none, none, none, none] [] M := by
    intro q
    obtain ⟨mn, hmn⟩ : ∃ mn : Nat, m = (mn : Int) := ⟨m.toNat, by omega⟩
    refine v_X7_needs_22 _ _ _ (c_X3_begin (by omega) n k (vR M) hV hC (fun M2 f1 f2 f3 f4 f5 => ?_))
    have go2 := l_X7_needs (d := d) (M0 := M2) (Q := fun r M1 => Ev (d + 1) mX8_needs [.ref 1280, zI z, zI m, zI w] M1 (fun r2 M2 => r = r2 ∧ Inv M2)) (by omega) n k (vR M) LS (fun j => zg M 197 j) hV hO (LC_T f1 hL) mn (by omega) (by omega) w hw z hz (fun M3 g => R _ _ (FrT_W (FrT_tr f1 g)) (fun y => absurd q y) (fun _ mn2 e2 => by rw [show mn = mn2 by omega])) mn 0 M2 (vR M 1) (fun _ => -1) (by omega) (FrT_rf M2) (by rw [vD_self]; exact f2) f3
    rw [← hmn] at go2
    exact go2
  refine e_X7_needs _ _ _ (v_X7_needs_0 _ _ _ ?_)
  rw [hm, hw]
  exact ⟨fun q => R _ _ (FrW_rf M) (fun _ => rfl) (fun y => absurd y.1 (by omega)), fun q => ⟨fun q2 => R _ _ (FrW_rf M) (fun _ => rfl) (fun y => absurd y.1 (by omega)), fun q2 => ⟨fun q3 => go (by omega), fun q3 => ⟨fun q4 => go (by omega), fun q4 => R _ _ (FrW_rf M) (fun _ => rfl) (fun y => absurd y.2 (by omega))⟩⟩⟩⟩
