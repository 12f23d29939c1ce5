/-! the real parish as a view; knows -/
def FrB (M M2 : zM) : Prop := (∀ i j, i ≠ 137 → i ≠ 138 → i ≠ 207 → i ≠ 271 → ¬ (i = 128 ∧ j = 10) → i ≠ 1310 → i ≠ 1311 → i ≠ 1313 → i ≠ 1314 → i ≠ 1315 → zg M2 i j = zg M i j) ∧ (∀ i j, zh M2 i j = zh M i j)
theorem FrB_rf (M : zM) : FrB M M := ⟨fun _ _ _ _ _ _ _ _ _ _ _ _ => rfl, fun _ _ => rfl⟩
theorem FrB_tr {M M2 M3 : zM} (h : FrB M M2) (g : FrB M2 M3) : FrB M M3 := ⟨fun i j a b c e f l m n o p => by rw [g.1 i j a b c e f l m n o p, h.1 i j a b c e f l m n o p], fun i j => by rw [g.2, h.2]⟩
theorem FrC_B {M M2 : zM} (h : FrC M M2) : FrB M M2 := ⟨fun i j a b c e f _ _ _ _ _ => h.1 i j a b c e f, h.2⟩
theorem FrR_B {M M2 : zM} (h : FrR M M2) : FrB M M2 := ⟨fun i j _ _ _ _ _ a b c e _ => h.1 i j a b c e, h.2⟩
theorem cI_no {i j : Nat} (h : cInv i j = true) : i ≠ 137 ∧ i ≠ 138 ∧ i ≠ 207 ∧ i ≠ 271 ∧ ¬ (i = 128 ∧ j = 10) ∧ i ≠ 1310 ∧ i ≠ 1311 ∧ i ≠ 1313 ∧ i ≠ 1314 ∧ i ≠ 1315 := by
  refine ⟨?_, ?_, ?_, ?_, ?_, ?_, ?_, ?_, ?_, ?_⟩
  · rintro rfl; exact absurd h (by have : cInv 137 j = false := rfl; rw [this]; decide)
  · rintro rfl; exact absurd h (by have : cInv 138 j = false := rfl; rw [this]; decide)
  · rintro rfl; exact absurd h (by have : cInv 207 j = false := rfl; rw [this]; decide)
  · rintro rfl; exact absurd h (by have : cInv 271 j = false := rfl; rw [this]; decide)
  · rintro ⟨rfl, rfl⟩; exact absurd h (by have : cInv 128 10 = false := rfl; rw [this]; decide)
  · rintro rfl; exact absurd h (by have : cInv 1310 j = false := rfl; rw [this]; decide)
  · rintro rfl; exact absurd h (by have : cInv 1311 j = false := rfl; rw [this]; decide)
  · rintro rfl; exact absurd h (by have : cInv 1313 j = false := rfl; rw [this]; decide)
  · rintro rfl; exact absurd h (by have : cInv 1314 j = false := rfl; rw [this]; decide)
  · rintro rfl; exact absurd h (by have : cInv 1315 j = false := rfl; rw [this]; decide)
theorem Inv_A {M M2 : zM} (h : FrB M M2) (hI : Inv M) : Inv M2 := by
  refine Inv_fr (M := M) (fun i j c => ?_) (fun i j _ => h.2 i j) hI
  obtain ⟨a1, a2, a3, a4, a5, a6, a7, a8, a9, a10⟩ := cI_no c
  exact h.1 i j a1 a2 a3 a4 a5 a6 a7 a8 a9 a10
def vR (M : zM) : zV := fun r j => if r = 0 then zg M 1283 j else if r = 1 then zg M 1284 j else if r = 2 then zg M 1285 j else if r = 3 then zg M 1287 j else if r = 4 then zg M 1288 j else if r = 5 then zg M 1289 j else if r = 6 then zg M 202 j else if r = 7 then zg M 1292 j else if r = 8 then zg M 1291 j else zg M 1280 9
theorem Inv_V {M : zM} (hI : Inv M) : ∃ n k : Nat, zg M 1280 1 = (n : Int) ∧ zg M 1280 5 = (k : Int) ∧ Vok n k (vR M) ∧ CV 192 n k (vR M) M ∧ ∃ LS, LC M LS ∧ LR M LS := by
  obtain ⟨h1, h2, h3, h4, h5, h6, h7, h8, h9, h10, h11, h12, h13, h14⟩ := hI
  obtain ⟨n, p1, p2, p3, p4, p5, p6, p7⟩ := h1
  obtain ⟨k, m1, m2, m3, m4, m5, m6, m7⟩ := h4
  have dd : ∀ p : Nat, p < n → zg M 195 p = zg M 1284 p ∧ zg M 1283 p < zg M 1284 p ∧ zg M 1284 p ≤ 100 := fun p hp => h2 p (by rw [p3]; omega)
  have nn : ∀ p : Nat, p < n → zg M 196 p = zg M 1285 p ∧ -1 ≤ zg M 1285 p ∧ zg M 1285 p < 12 := fun p hp => h3 p (by rw [p3]; omega)
  refine ⟨n, k, p3, m3, ⟨p1, m1, fun p hp => ?_, fun m hm => ?_, m5, m6, m7, fun a ha => ?_⟩, ⟨p2, m2, h5.1, fun p hp => ?_, fun m hm => ?_, fun a ha => ?_⟩, IL_LS h11⟩
  · exact ⟨(p4 p hp).2.1, (p4 p hp).2.2, (dd p hp).2.1, (dd p hp).2.2, (nn p hp).2.1, (nn p hp).2.2⟩
  · have := m4 m hm
    rw [p3] at this
    exact ⟨this.2.2.2.1, this.2.2.2.2.1, this.2.2.2.2.2.1, this.2.2.2.2.2.2.1, this.2.2.2.2.2.2.2.1, this.2.2.2.2.2.2.2.2.1, this.2.2.2.2.2.2.2.2.2⟩
  · have w := h6 a ha
    have f := h7 a ha
    refine ⟨?_, ?_, w.2.1, w.2.2⟩
    · show 0 ≤ zg M 1292 a; omega
    · show zg M 1292 a ≤ 1; omega
  · exact ⟨(p4 p hp).1, (dd p hp).1, (nn p hp).1⟩
  · have := m4 m hm
    exact ⟨this.1, this.2.1, this.2.2.1, rfl⟩
  · exact ⟨(h7 a ha).1, (h6 a ha).1⟩
theorem RV_A {M M2 : zM} {n k am : Nat} (h1 : zg M 1280 1 = (n : Int)) (h5 : zg M 1280 5 = (k : Int)) (h : FrB M M2) (hr : ∀ p : Nat, p < n → zg M 1285 p = if am.testBit p = true then zg M2 1315 p else -1) : RV n k (vR M) am M2 := by
  have e : ∀ a j, (1280 ≤ a ∧ a < 1310) → zg M2 a j = zg M a j := fun a j ha => h.1 a j (by omega) (by omega) (by omega) (by omega) (by omega) (by omega) (by omega) (by omega) (by omega) (by omega)
  refine ⟨by rw [e _ _ (by omega)]; exact h1, by rw [e _ _ (by omega)]; exact h5, by rw [e _ _ (by omega)]; rfl, fun p hp => ⟨by rw [e _ _ (by omega)]; rfl, by rw [e _ _ (by omega)]; rfl, hr p hp⟩, fun m hm => ⟨by rw [e _ _ (by omega)]; rfl, by rw [e _ _ (by omega)]; rfl, by rw [e _ _ (by omega)]; rfl⟩, fun a ha => ⟨by rw [e _ _ (by omega)]; rfl, by rw [e _ _ (by omega)]; rfl⟩⟩
/-- names don't matter for who knows whom -/
theorem kup_cg {V V2 : zV} (h : ∀ r j, r ≠ 2 → V r j = V2 r j) (y : Int) (w : Nat) : ∀ j, kup V (okB V y w) j = kup V2 (okB V2 y w) j
  | 0 => rfl
  | j + 1 => by
    have ih := kup_cg h y w j
    funext p
    have eo : ∀ m, okB V y w m = okB V2 y w m := by
      intro m; unfold okB
      simp only [cnt, h 0 _ (by omega), h 1 _ (by omega), h 3 _ (by omega), h 4 _ (by omega), h 5 _ (by omega)]
    rw [kup, kup, eo, h 6 _ (by omega), ih]
    unfold ks
    simp only [h 3 _ (by omega), h 4 _ (by omega), h 9 _ (by omega)]
/-- a view with nobody named -/
def vN (V : zV) : zV := fun r j => if r = 2 then -1 else V r j
theorem vN_ne (V : zV) : ∀ r j, r ≠ 2 → V r j = vN V r j := fun r j h => by unfold vN; rw [if_neg h]
theorem Vok_N {n k : Nat} {V : zV} (h : Vok n k V) : Vok n k (vN V) := by
  obtain ⟨v1, v2, v3, v4, v5, v6, v7, v8⟩ := h
  exact ⟨v1, v2, fun p hp => ⟨(v3 p hp).1, (v3 p hp).2.1, (v3 p hp).2.2.1, (v3 p hp).2.2.2.1, by show (-1 : Int) ≤ -1; decide, by show (-1 : Int) < 12; decide⟩, v4, v5, v6, v7, v8⟩
theorem RV_N {n k am : Nat} {V : zV} {M : zM} (h : RV n k V am M) : RV n k (vN V) 0 M := by
  obtain ⟨c1, c2, c3, c4, c5, c6⟩ := h
  exact ⟨c1, c2, c3, fun p hp => ⟨(c4 p hp).1, (c4 p hp).2.1, by rw [Nat.zero_testBit, if_neg (by decide)]; rfl⟩, c5, c6⟩
theorem RV_0 {M M2 : zM} {n k : Nat} (h1 : zg M 1280 1 = (n : Int)) (h5 : zg M 1280 5 = (k : Int)) (h : FrB M M2) : RV n k (vN (vR M)) 0 M2 := by
  have e : ∀ a j, (1280 ≤ a ∧ a < 1310) → zg M2 a j = zg M a j := fun a j ha => h.1 a j (by omega) (by omega) (by omega) (by omega) (by omega) (by omega) (by omega) (by omega) (by omega) (by omega)
  refine ⟨by rw [e _ _ (by omega)]; exact h1, by rw [e _ _ (by omega)]; exact h5, by rw [e _ _ (by omega)]; rfl, fun p hp => ⟨by rw [e _ _ (by omega)]; rfl, by rw [e _ _ (by omega)]; rfl, by rw [Nat.zero_testBit, if_neg (by decide)]; rfl⟩, fun m hm => ⟨by rw [e _ _ (by omega)]; rfl, by rw [e _ _ (by omega)]; rfl, by rw [e _ _ (by omega)]; rfl⟩, fun a ha => ⟨by rw [e _ _ (by omega)]; rfl, by rw [e _ _ (by omega)]; rfl⟩⟩
theorem p_knows {d : Nat} {M : zM} (hd : 6 ≤ d) (p y : Int) (hp : zw p = p) (hy : zw y = y) (hI : Inv M) : Pr d mX7_knows mX8_knows [zI p, zI y] M := by
  obtain ⟨n, k, n1, k1, hV, hC, LS, hL, hL2⟩ := Inv_V hI
  have hn := hV.1
  obtain ⟨d, rfl, hdd⟩ := e_of 5 hd; replace hd := hdd
  have R : ∀ (r : Int) (M1 : zM), FrB M M1 → (¬ ((0 ≤ p ∧ p < (n : Int)) ∧ 0 ≤ y ∧ y < 100) → r = -1) → ((0 ≤ p ∧ p < (n : Int)) ∧ 0 ≤ y ∧ y < 100 → r = (kAll (vR M) k y p.toNat : Int)) → Ev (d + 1) mX8_knows [.ref 1280, zI p, zI y] M1 (fun r2 M2 => r = r2 ∧ Inv M2) := by
    intro r M1 fa hb hg
    have e1 : zg M1 1280 1 = (n : Int) := by rw [fa.1 _ _ (by omega) (by omega) (by omega) (by omega) (by omega) (by omega) (by omega) (by omega) (by omega) (by omega)]; exact n1
    refine e_X8_knows _ _ (v_X8_knows_0 _ _ (c_X8_isPerson (by omega) p (by omega) ?_))
    rw [hp, e1]
    refine bz_br (fun q => ⟨hb (by omega), Inv_A fa hI⟩) (fun q => c_X8_isYear (by omega) y ?_)
    rw [hy]
    refine bz_br (fun q2 => ⟨hb (by omega), Inv_A fa hI⟩) (fun q2 => ?_)
    refine c_X8_findKnown (by omega) n k 0 (vN (vR M)) (Vok_N hV) (RV_0 n1 k1 fa) y hy 0 (by omega) (fun M2 f2 f3 => ⟨by omega, by omega, ?_, Inv_A (FrB_tr fa (FrR_B (FrF_R f2))) hI⟩)
    rw [f3 p.toNat (by omega), ← kup_cg (vN_ne (vR M))]
    exact hg ⟨q, q2⟩
  refine e_X7_knows _ _ (v_X7_knows_0 _ _ (c_X4_hasPerson (by omega) 192 ob_192 p ?_))
  rw [hp, hC.1]
  refine bz_br (fun q => R _ _ (FrB_rf M) (fun _ => rfl) (fun z => absurd z.1 q)) (fun q => c_X7_isYear (by omega) y ?_)
  rw [hy]
  refine bz_br (fun q2 => R _ _ (FrB_rf M) (fun _ => rfl) (fun z => absurd z.2 q2)) (fun q2 => ?_)
  refine c_X4_learnUpTo (by omega) 192 n k (vR M) ob_192 (Or.inl rfl) hV hC y hy (fun M2 f2 f3 => ⟨by omega, by omega, R _ _ (FrC_B (FrK_C (Or.inl rfl) f2)) (fun z => absurd ⟨q, q2⟩ z) (fun _ => ?_)⟩)
  exact f3 p.toNat (by omega)
/-! asNamed, everybody, heldIn of the reference -/
def FrN (M M2 : zM) : Prop := (∀ i j, i ≠ 1315 → zg M2 i j = zg M i j) ∧ (∀ i j, zh M2 i j = zh M i j)
theorem FrN_B {M M2 : zM} (h : FrN M M2) : FrB M M2 := ⟨fun i j _ _ _ _ _ _ _ _ _ a => h.1 i j a, h.2⟩
theorem l_X8_named {E : zE} {Q : Int → zM → Prop} (n : Nat) (hn : n ≤ 12) (M0 : zM) (h1 : zg M0 1280 1 = (n : Int)) (h : ∀ M2 : zM, FrN M0 M2 → (∀ p : Nat, p < 12 → zg M2 1315 p = if p < n then zg M0 1285 p else -1) → Q 0 M2) : ∀ (x i : Nat) (M : zM), i + x = 12 → FrN M0 M → (∀ p : Nat, p < i → zg M 1315 p = if p < n then zg M0 1285 p else -1) → wp E 8 cX8_asNamed (none) Q 2 [some (.ref 1280), some (zI (i : Int))] [] M
  | 0, i, M, e, f, g => by
    refine v_X8_asNamed_2 _ ?_
    rw [zw_n (a := i) (by omega)]
    refine ⟨fun z => absurd z (by omega), fun _ => h M f ?_⟩
    rw [show (12 : Nat) = i by omega]; exact g
  | x + 1, i, M, e, f, g => by
    have nx : ∀ v : Int, zw v = (if i < n then zg M0 1285 i else -1) → wp E 8 cX8_asNamed (none) Q 2 [some (.ref 1280), some (zI ((i : Int) + 1))] [] (zs M 1315 i v) := by
      intro v hv
      rw [show (i : Int) + 1 = ((i + 1 : Nat) : Int) by omega]
      refine l_X8_named n hn M0 h1 h x (i + 1) _ (by omega) ⟨fun a b q => by rw [zg_zsi _ _ _ _ q]; exact f.1 a b q, fun a b => by rw [zh_zs]; exact f.2 a b⟩ (fun p hp => ?_)
      by_cases q : p = i
      · subst q; rw [zg_zs1]; exact hv
      · rw [zg_zsj _ _ _ _ q]; exact g p (by omega)
    refine v_X8_asNamed_2 _ ?_
    rw [zw_n (a := i) (by omega), show ((i : Int)).toNat = i by omega, f.1 1280 1 (by omega), h1]
    refine ⟨fun _ => ⟨fun q => ⟨by omega, by omega, by omega, by omega, ?_⟩, fun q => ⟨by omega, by omega, ?_⟩⟩, fun z => absurd (by omega) z⟩
    · rintro _ rfl
      exact nx _ (by rw [zw_zg, if_pos (by omega), f.1 _ _ (by omega)])
    · rintro _ rfl
      exact nx _ (by rw [if_neg (by omega)]; decide)
theorem c_X8_asNamed {d : Nat} {M : zM} {Q : Int → zM → Prop} (hd : 1 ≤ d) (n : Nat) (hn : n ≤ 12) (h1 : zg M 1280 1 = (n : Int)) (h : ∀ M2 : zM, FrN M M2 → (∀ p : Nat, p < 12 → zg M2 1315 p = if p < n then zg M 1285 p else -1) → Q 0 M2) : Ev d mX8_asNamed [.ref 1280] M Q := by
  obtain ⟨d, rfl, -⟩ := e_of 0 hd
  exact e_X8_asNamed (v_X8_asNamed_0 (l_X8_named n hn M h1 h 12 0 M (by omega) ⟨fun _ _ _ => rfl, fun _ _ => rfl⟩ (fun p hp => absurd hp (by omega))))
def evb (n : Nat) : Nat := 2 ^ n - 1
theorem evb_lt {n : Nat} (h : n ≤ 12) : evb n < 4096 := by
  have : 2 ^ n ≤ 2 ^ 12 := Nat.pow_le_pow_right (by omega) h
  unfold evb; omega
theorem evb_bit {n p : Nat} (h : p < n) : (evb n).testBit p = true := by
  unfold evb; rw [Nat.testBit_two_pow_sub_one]; simp [h]
theorem c_X8_everybody {d : Nat} {M : zM} {Q : Int → zM → Prop} (hd : 1 ≤ d) (n : Nat) (hn : n ≤ 12) (h1 : zg M 1280 1 = (n : Int)) (h : Q (evb n : Int) M) : Ev d mX8_everybody [.ref 1280] M Q := by
  obtain ⟨d, rfl, -⟩ := e_of 0 hd
  have lt := evb_lt hn
  have hp := Nat.two_pow_pos n
  refine e_X8_everybody (v_X8_everybody_0 ?_)
  rw [h1, zb_shl (by omega), show ((2 ^ n : Nat) : Int) - 1 = ((evb n : Nat) : Int) by unfold evb; omega, zw_n (by omega)]
  exact h
/-- after asNamed the reference sees the real names -/
theorem RV_named {M M1 M2 : zM} {n k : Nat} (h1 : zg M 1280 1 = (n : Int)) (h5 : zg M 1280 5 = (k : Int)) (hn : n ≤ 12) (fa : FrB M M1) (f : FrN M1 M2) (g : ∀ p : Nat, p < 12 → zg M2 1315 p = if p < n then zg M1 1285 p else -1) : RV n k (vR M) (evb n) M2 := by
  refine RV_A h1 h5 (FrB_tr fa (FrN_B f)) (fun p hp => ?_)
  rw [if_pos (evb_bit hp), g p (by omega), if_pos hp, fa.1 _ _ (by omega) (by omega) (by omega) (by omega) (by omega) (by omega) (by omega) (by omega) (by omega) (by omega)]
theorem l_X8_held10 {d : Nat} {M0 : zM} {Q : Int → zM → Prop} (hd : 7 ≤ d) (n k : Nat) (V : zV) (hV : Vok n k V) (hR : RV n k V (evb n) M0) (LS : Option (List lwL)) (hL : LR M0 LS) (K : Nat → Nat) (hK : KnA M0 1313 n K) (hb4 : ∀ p, p < n → K p < 4096) (y : Int) (hy0 : 0 ≤ y) (hy1 : y < 100) (h : ∀ M2 : zM, FrQ M0 M2 → Q (hdBits V LS K n y : Int) M2) : ∀ (x i : Nat) (M : zM), i + x = 12 → FrQ M0 M → wp (Ev d) 8 cX8_heldIn (some .int) Q 10 [some (.ref 1280), some (zI y), some (zI ((bs (hdA V LS K n y) i : Nat) : Int)), some (zI (i : Int))] [] M
  | 0, i, M, e, f => by
    have lt := bs_12 (P := hdA V LS K n y) (n := i) (by omega)
    refine v_X8_heldIn_10 _ _ _ ?_
    rw [zw_n (a := i) (by omega), zw_n (a := bs (hdA V LS K n y) i) (by omega)]
    refine ⟨fun z => absurd z (by omega), fun _ => ?_⟩
    rw [show i = 12 by omega]; exact h M f
  | x + 1, i, M, e, f => by
    have hR2 := RV_R (FrQ_R f) hR
    have lt := bs_12 (P := hdA V LS K n y) (n := i) (by omega)
    have ti := tp_12 (p := i) (by omega)
    refine v_X8_heldIn_10 _ _ _ ?_
    rw [zw_n (a := i) (by omega), zb_shl (by omega), zb_or (by omega) (by omega), show (i : Int) + 1 = ((i + 1 : Nat) : Int) by omega]
    refine ⟨fun _ => c_X8_everybody (by omega) n hV.1 hR2.1 (c_X8_isHeld hd n k (evb n) V hV hR2 (evb_lt hV.1) LS (LR_R (FrQ_R f) hL) K (KnA_fr (fun j => f.1 _ _ (by omega) (by omega)) hK) hb4 i (by omega) y hy0 hy1 (fun M2 f2 => bz_br (fun q => ?_) (fun q => ?_))), fun z => absurd (by omega) z⟩
    · have := l_X8_held10 hd n k V hV hR LS hL K hK hb4 y hy0 hy1 h x (i + 1) M2 (by omega) (FrQ_tr f f2)
      rw [bs, if_neg q] at this; exact this
    · have := l_X8_held10 hd n k V hV hR LS hL K hK hb4 y hy0 hy1 h x (i + 1) M2 (by omega) (FrQ_tr f f2)
      rw [bs, if_pos q] at this; exact this
theorem c_X8_heldIn {d : Nat} {M : zM} {Q : Int → zM → Prop} (hd : 8 ≤ d) (n k : Nat) (V : zV) (hV : Vok n k V) (hR : RV n k V (evb n) M) (LS : Option (List lwL)) (hL : LR M LS) (y : Int) (hy0 : 0 ≤ y) (hy1 : y < 100) (h : ∀ M2 : zM, FrR M M2 → Q (hdBits V LS (kAll V k y) n y : Int) M2) : Ev d mX8_heldIn [.ref 1280, zI y] M Q := by
  obtain ⟨d, rfl, hdd⟩ := e_of 7 hd; replace hd := hdd
  have wy : zw y = y := zw_of (by omega) (by omega)
  refine e_X8_heldIn _ (v_X8_heldIn_0 _ (c_X8_findKnown (by omega) n k (evb n) V hV hR y wy 0 (by omega) (fun M2 f1 f2 => ?_)))
  have f3 := FrF_R f1
  exact l_X8_held10 hd n k V hV (RV_R f3 hR) LS (LR_R f3 hL) (kAll V k y) f2 (kup_lt hV k (by omega)) y hy0 hy1 (fun M3 g => h M3 (FrR_tr f3 (FrQ_R g))) 12 0 M2 (by omega) (FrQ_rf M2)
