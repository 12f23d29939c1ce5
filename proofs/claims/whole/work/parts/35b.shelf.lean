/-! shelves: put, element -/
theorem zv_zv (a : Int) : zv (zv a) = zv a := by unfold zv; rw [Int64.ofInt_toInt]
def rfn (M : zM) (s i : Int) : Int := if 0 ≤ s ∧ s < 6 then (if zg M 1324 s.toNat = -1 then -11 else if 0 ≤ zg M 1324 s.toNat then -12 else if 0 ≤ i ∧ i < zg M 1325 s.toNat then 0 else -13) else -1
theorem rfn_0 {M : zM} {s i : Int} (h : rfn M s i = 0) : 0 ≤ s ∧ s < 6 ∧ zg M 1324 s.toNat < -1 ∧ 0 ≤ i ∧ i < zg M 1325 s.toNat := by
  unfold rfn at h
  split at h
  · split at h
    · omega
    · split at h
      · omega
      · split at h
        · omega
        · omega
  · omega
theorem rfn_n {M : zM} {s i : Int} : rfn M s i = 0 ∨ rfn M s i < 0 := by
  unfold rfn
  split
  · split
    · omega
    · split
      · omega
      · split
        · omega
        · omega
  · omega
theorem rfn_w {M : zM} {s i : Int} : zw (rfn M s i) = rfn M s i := by
  unfold rfn
  split
  · split
    · rfl
    · split
      · rfl
      · split
        · rfl
        · rfl
  · rfl
theorem c_X8_whyNoPlace {d : Nat} {M : zM} {Q : Int → zM → Prop} (hd : 3 ≤ d) (s i : Int) (hs : zw s = s) (hi : zw i = i) (hz : ∀ j : Nat, j < 6 → zg M 1324 j < -1 → 0 ≤ zg M 1325 j) (h : Q (rfn M s i) M) : Ev d mX8_whyNoPlace [.ref 1280, zI s, zI i] M Q := by
  obtain ⟨d, rfl, -⟩ := e_of 2 hd
  unfold rfn at h
  refine e_X8_whyNoPlace s i (v_X8_whyNoPlace_0 s i (c_X8_isShelf (by omega) s ?_))
  rw [hs]
  refine bz_br (fun q => by rw [if_neg q] at h; exact h) (fun q => ?_)
  rw [if_pos q] at h
  refine ⟨by omega, by omega, fun q2 => by rw [if_pos q2] at h; exact h, fun q2 => ⟨by omega, by omega, fun q3 => ⟨by omega, by omega, c_X8_in (by omega) _ _ _ ?_⟩, fun q3 => ?_⟩⟩
  · rw [if_neg q2, if_neg (by omega)] at h
    have hz := hz s.toNat (by omega) (by omega)
    have hh := zg_hi M 1325 s.toNat
    rw [hi, zq_0, zw_of (a := zg M 1325 s.toNat - 1) (by omega) (by omega)]
    exact bz_br (fun q4 => by rw [if_neg (by omega)] at h; exact h) (fun q4 => by rw [if_pos (by omega)] at h; exact h)
  · rw [if_neg q2, if_pos (by omega)] at h; exact h
theorem c_X7_refusalOf {d : Nat} {M : zM} {Q : Int → zM → Prop} (hd : 3 ≤ d) (s i : Int) (hs : zw s = s) (hi : zw i = i) (hS : IS M) (h : Q (rfn M s i) M) : Ev d mX7_refusalOf [.ref 64, zI s, zI i] M Q := by
  obtain ⟨d, rfl, -⟩ := e_of 2 hd
  unfold rfn at h
  refine e_X7_refusalOf s i (v_X7_refusalOf_0 s i (c_X7_isShelf (by omega) s ?_))
  rw [hs]
  refine bz_br (fun q => by rw [if_neg q] at h; exact h) (fun q => ?_)
  rw [if_pos q] at h
  have hj := hS s.toNat (by omega)
  unfold ISj at hj
  refine ⟨by omega, by omega, c_X6_isEmpty (by omega) _ (ob_sh (by omega)) (bz_br (fun q2 => ⟨by omega, by omega, c_X6_isRow (by omega) _ (ob_sh (by omega)) (bz_br (fun q3 => ?_) (fun q3 => ⟨by omega, by omega, c_X6_hasPlaces (by omega) _ (ob_sh (by omega)) _ _ (by omega) ?_⟩))⟩) (fun q2 => ?_))⟩
  · rw [if_neg (by omega), if_pos (by omega)] at h; exact h
  · rw [if_neg (by omega), if_neg (by omega)] at h
    rw [hi, zq_1]
    exact bz_br (fun q4 => by rw [if_neg (by omega)] at h; exact h) (fun q4 => by rw [if_pos (by omega)] at h; exact h)
  · rw [if_pos (by omega)] at h; exact h
theorem IS_sz {M : zM} (hS : IS M) : ∀ j : Nat, j < 6 → zg M 1324 j < -1 → 0 ≤ zg M 1325 j := by
  intro j hj h
  have := hS j hj
  unfold ISj at this
  omega
theorem p_element {d : Nat} {M : zM} (hd : 5 ≤ d) (s i : Int) (hs : zw s = s) (hi : zw i = i) (hI : Inv M) : Pr d mX7_element mX8_element [zI s, zI i] M := by
  have h14 := hI.2.2.2.2.2.2.2.2.2.2.2.2.2
  obtain ⟨d, rfl, -⟩ := e_of 4 hd
  have R : ∀ r : Int, (rfn M s i < 0 → r = -9223372036854775808) → (rfn M s i = 0 → r = zh M 1326 (60 * s.toNat + i.toNat)) → Ev (d + 1) mX8_element [.ref 1280, zI s, zI i] M (fun r2 M2 => r = r2 ∧ Inv M2) := by
    intro r h1 h2
    refine e_X8_element s i (v_X8_element_0 s i (c_X8_whyNoPlace (by omega) s i hs hi (IS_sz h14) ?_))
    rw [rfn_w]
    refine ⟨fun q => ⟨h1 q, hI⟩, fun q => ?_⟩
    have q0 : rfn M s i = 0 := by have := @rfn_n M s i; omega
    have q1 := rfn_0 q0
    have hj := h14 s.toNat (by omega)
    unfold ISj at hj
    rw [zw_of (a := 60 * s + i) (by omega) (by omega)]
    refine ⟨by omega, by omega, ?_, hI⟩
    rw [h2 q0, show (60 * s + i).toNat = 60 * s.toNat + i.toNat by omega]
  refine e_X7_element s i (v_X7_element_0 s i (c_X7_refusalOf (by omega) s i hs hi h14 ?_))
  rw [rfn_w, hs, hi]
  refine ⟨fun q => ?_, fun q => R _ (fun _ => rfl) (fun z => absurd z q)⟩
  have q1 := rfn_0 q
  have hj := h14 s.toNat (by omega)
  unfold ISj at hj
  refine ⟨by omega, by omega, by omega, by omega, R _ (fun z => absurd z (by omega)) (fun _ => ?_)⟩
  rcases hj with hj | hj
  · omega
  · exact hj.2.2.2.2.2.2.2 i.toNat (by omega)
def lbv (t v : Int) : Int := if t = 0 then zv (zw (z_b (zv v))) else if t = 1 then zv (zw (z_s (zv v))) else if t = 2 then zv (zw (zv v)) else if t = 3 then zv v else if zw (z_lc v 0) = 0 then 0 else 1
theorem zv_0 : zv 0 = 0 := by decide
theorem zv_1 : zv 1 = 1 := by decide
theorem c_X6_lowestBits {d : Nat} {M : zM} {Q : Int → zM → Prop} (hd : 1 ≤ d) (o : Nat) (ho : zob o 6) (v : Int) (h0 : 0 ≤ zg M o 2) (h1 : zg M o 2 ≤ 4) (h : Q (lbv (zg M o 2) v) M) : Ev d mX6_lowestBits [.ref o, zJ v] M Q := by
  obtain ⟨d, rfl, -⟩ := e_of 0 hd
  refine e_X6_lowestBits o v (v_X6_lowestBits_0 o v ho ?_)
  rw [zw_zg]
  unfold lbv at h
  refine ⟨fun q => ?_, fun q => ?_, fun q => ?_, fun q => ⟨fun q2 => ?_, fun q2 => ?_⟩, fun q0 q1 q2 q3 => ?_⟩
  · rw [if_pos q] at h; exact h
  · rw [if_neg (by omega), if_pos q] at h; exact h
  · rw [if_neg (by omega), if_neg (by omega), if_pos q] at h; exact h
  · rw [if_neg (by omega), if_neg (by omega), if_neg (by omega), if_neg (by omega), if_pos q2] at h; exact h
  · rw [if_neg (by omega), if_neg (by omega), if_neg (by omega), if_neg (by omega), if_neg q2] at h; exact h
  · rw [if_neg (by omega), if_neg (by omega), if_neg (by omega), if_pos (by omega)] at h; exact h
theorem f_put {M M3 : zM} (s i : Nat) (X : Int) (hs : s < 6) (hr : zg M 1324 s < -1) (k1 : ∀ i j, zg M3 i j = zg M i j) (k2 : ∀ a b, zh M3 a b = if a = 1326 ∧ b = 60 * s + i then X else if a = 640 + 64 * s + 1 ∧ b = i then X else zh M a b) (hi : i < 60) (hI : Inv M) : Inv M3 := by
  have h14 := hI.2.2.2.2.2.2.2.2.2.2.2.2.2
  refine Inv_IS (M := M) (fun i j e1 e2 e3 => k1 _ _) (IS_upd (M := M) s (k1 _ _) (fun j k hj e => ⟨k1 _ _, ?_⟩) (fun j hj e => ⟨k1 _ _, k1 _ _, fun i hi => ?_⟩) ?_ h14) hI
  · rw [k2]; (repeat (first | rw [if_pos (by omega)] | rw [if_neg (by omega)]))
  · rw [k2]; (repeat (first | rw [if_pos (by omega)] | rw [if_neg (by omega)]))
  · have hj := h14 s hs
    unfold ISj at hj ⊢
    simp only [k1]
    rcases hj with hj | ⟨b1, b2, b3, b4, b5, b6, b7, b8⟩
    · omega
    · refine Or.inr ⟨b1, b2, b3, b4, b5, b6, b7, fun x hx => ?_⟩
      rw [k2, k2]
      by_cases e : x = i
      · subst e; (repeat (first | rw [if_pos (by omega)] | rw [if_neg (by omega)]))
      · (repeat (first | rw [if_pos (by omega)] | rw [if_neg (by omega)]))
        exact b8 x hx
theorem p_put {d : Nat} {M : zM} (hd : 5 ≤ d) (s i v : Int) (hs : zw s = s) (hi : zw i = i) (hI : Inv M) : Pr d mX7_put mX8_put [zI s, zI i, zJ v] M := by
  have h14 := hI.2.2.2.2.2.2.2.2.2.2.2.2.2
  obtain ⟨d, rfl, -⟩ := e_of 4 hd
  refine e_X7_put s i v (v_X7_put_0 s i v (c_X7_refusalOf (by omega) s i hs hi h14 ?_))
  rw [rfn_w, hs]
  refine ⟨fun q => ?_, fun q => ?_⟩
  · have q1 := rfn_0 q
    have hj := h14 s.toNat (by omega)
    unfold ISj at hj
    have hj2 : 0 ≤ zg M (640 + 64 * s.toNat) 2 ∧ zg M (640 + 64 * s.toNat) 2 ≤ 4 ∧ zg M 1324 s.toNat = -2 - zg M (640 + 64 * s.toNat) 2 ∧ zg M 1325 s.toNat = zg M (640 + 64 * s.toNat) 3 ∧ zg M (640 + 64 * s.toNat) 3 ≤ 60 := by omega
    obtain ⟨e1, rfl, -⟩ := e_of 3 (show 3 + 1 ≤ d by omega)
    refine ⟨by omega, by omega, e_X6_setElement _ i v (v_X6_setElement_0 _ i v (ob_sh (by omega)) (c_X6_hasPlaces (by omega) _ (ob_sh (by omega)) _ _ (by omega) ?_))⟩
    rw [hi, zq_1]
    refine bz_br (fun z => absurd (by omega) z) (fun _ => c_X6_lowestBits (by omega) _ (ob_sh (by omega)) v (by omega) (by omega) ⟨by omega, by omega, ?_⟩)
    rintro _ rfl
    have g1 : ∀ a b, zg (zt M (640 + 64 * s.toNat + 1) i.toNat (lbv (zg M (640 + 64 * s.toNat) 2) v)) a b = zg M a b := fun _ _ => rfl
    refine e_X8_put s i v (v_X8_put_0 s i v (c_X8_whyNoPlace (by omega) s i hs hi (IS_sz (M := M) h14) ?_))
    rw [rfn_w, show rfn (zt M (640 + 64 * s.toNat + 1) i.toNat (lbv (zg M (640 + 64 * s.toNat) 2) v)) s i = rfn M s i from rfl, q, hs]
    refine ⟨fun z => absurd z (by omega), fun _ => ⟨by omega, by omega, ?_⟩⟩
    have ea : zw (60 * s + i) = ((60 * s.toNat + i.toNat : Nat) : Int) := by rw [zw_of (by omega) (by omega)]; omega
    rw [g1, ea, Int.toNat_natCast]
    have et : zw (-2 - zg M 1324 s.toNat) = zg M (640 + 64 * s.toNat) 2 := by rw [zw_of (by omega) (by omega)]; omega
    rw [et]
    have fin : ∀ (X : Int) (M9 : zM), zv X = zv (lbv (zg M (640 + 64 * s.toNat) 2) v) → M9 = zt (zt M (640 + 64 * s.toNat + 1) i.toNat (lbv (zg M (640 + 64 * s.toNat) 2) v)) 1326 (60 * s.toNat + i.toNat) X → (1 : Int) = 1 ∧ Inv M9 := by
      rintro X _ hX rfl
      refine ⟨rfl, f_put (M := M) s.toNat i.toNat (zv X) (by omega) (by omega) (fun _ _ => rfl) (fun a b => ?_) (by omega) hI⟩
      rw [zh_zt, zh_zt, hX]
    refine ⟨fun z => ⟨by omega, by omega, fun M9 => fin _ M9 ?_⟩, fun z => ⟨fun z1 => ⟨by omega, by omega, fun M9 => fin _ M9 ?_⟩, fun z1 => ⟨fun z2 => ⟨by omega, by omega, fun M9 => fin _ M9 ?_⟩, fun z2 => ⟨fun z3 => ⟨by omega, by omega, fun M9 => fin _ M9 ?_⟩, fun z3 => ⟨fun z4 => ⟨by omega, by omega, fun M9 => fin _ M9 ?_⟩, fun z4 => ⟨by omega, by omega, fun M9 => fin _ M9 ?_⟩⟩⟩⟩⟩⟩ <;> unfold lbv
    · rw [if_pos z, zv_zv]
    · rw [if_neg z, if_pos z1, zv_zv]
    · rw [if_neg z, if_neg z1, if_pos z2, zv_zv]
    · rw [if_neg z, if_neg z1, if_neg z2, if_pos z3, zv_zv]
    · rw [if_neg z, if_neg z1, if_neg z2, if_neg z3, if_pos z4]
    · rw [if_neg z, if_neg z1, if_neg z2, if_neg z3, if_neg z4]
  · refine e_X8_put s i v (v_X8_put_0 s i v (c_X8_whyNoPlace (by omega) s i hs hi (IS_sz h14) ?_))
    rw [rfn_w]
    refine ⟨fun _ => ⟨rfl, hI⟩, fun z => absurd (@rfn_n M s i) (by omega)⟩
