/-! apart -/
def hfB (V : zV) (LS : Option (List lwL)) (a : Nat) (y : Int) (p b : Nat) : Bool := lvB V y p && (brB V a y b && hlB V LS y p b)
def Hf (V : zV) (LS : Option (List lwL)) (n a : Nat) (y : Int) (p : Nat) : Nat := bs (hfB V LS a y p) n
def FrK5 (M M2 : zM) : Prop := (∀ i j, i ≠ 137 → i ≠ 138 → ¬ (i = 128 ∧ j = 10) → i ≠ 386 → zg M2 i j = zg M i j) ∧ (∀ i j, zh M2 i j = zh M i j)
theorem FrK5_tr {M M2 M3 : zM} (h : FrK5 M M2) (g : FrK5 M2 M3) : FrK5 M M3 := ⟨fun i j a b c e => by rw [g.1 i j a b c e, h.1 i j a b c e], fun i j => by rw [g.2, h.2]⟩
theorem FrL_K5 {M M2 : zM} (h : FrL M M2) : FrK5 M M2 := ⟨fun i j a b c _ => h.1 i j a b c, h.2⟩
theorem CV_K5 {n k : Nat} {V : zV} {M M2 : zM} (h : FrK5 M M2) (g : CV 192 n k V M) : CV 192 n k V M2 := by
  have e : ∀ a j, a < 15 → zg M2 (192 + a) j = zg M (192 + a) j := fun a j ha => h.1 _ _ (by omega) (by omega) (by omega) (by omega)
  have e0 : ∀ j, zg M2 192 j = zg M 192 j := fun j => e 0 j (by omega)
  unfold CV
  simp only [e0, e 2 _ (by omega), e 3 _ (by omega), e 4 _ (by omega), e 7 _ (by omega), e 8 _ (by omega), e 9 _ (by omega), e 10 _ (by omega), e 13 _ (by omega), e 14 _ (by omega)]
  exact g
theorem LC_K5 {LS : Option (List lwL)} {M M2 : zM} (h : FrK5 M M2) (g : LC M LS) : LC M2 LS := by
  have e1 : zg M2 128 7 = zg M 128 7 := h.1 _ _ (by omega) (by omega) (by omega) (by omega)
  match LS with
  | none => show zg M2 128 7 = 0; rw [e1]; exact g
  | some ls =>
    obtain ⟨g1, g2, g3, g4⟩ := g
    exact ⟨g1, by rw [e1]; exact g2, g3, CdA_fr _ _ (fun j _ _ => h.1 _ _ (by omega) (by omega) (by omega) (by omega)) g4⟩
theorem c_X5_noteWhoHolds {d : Nat} {M0 : zM} {Q : Int → zM → Prop} (hd : 5 ≤ d) (n k : Nat) (V : zV) (hV : Vok n k V) (hC : CV 192 n k V M0) (LS : Option (List lwL)) (hL : LC M0 LS) (a : Nat) (ha : a < 12) (y : Int) (hy0 : 0 ≤ y) (hy1 : y < 100) (h3 : zg M0 384 3 = y) (hT : (∀ p, p < n → (Hf V LS n a y p).testBit p = false) → ∀ M2 : zM, FrK5 M0 M2 → (∀ p, p < n → zg M2 386 p = (Hf V LS n a y p : Int)) → Q 1 M2) (hF : ∀ p, p < n → (Hf V LS n a y p).testBit p = true → ∀ M2 : zM, FrK5 M0 M2 → Q 0 M2) : Ev d mX5_noteWhoHolds [.ref 384, zI (a : Int)] M0 Q := by
  obtain ⟨d, rfl, hdd⟩ := e_of 4 hd; replace hd := hdd
  have hn := hV.1
  have wy : zw y = y := zw_of (by omega) (by omega)
  have l : ∀ (x p : Nat) (M : zM), p + x = n → FrK5 M0 M → (∀ q, q < p → zg M 386 q = (Hf V LS n a y q : Int)) → (∀ q, q < p → (Hf V LS n a y q).testBit q = false) → wp (Ev d) 5 cX5_noteWhoHolds (some .boolean) Q 2 [some (.ref 384), some (zI (a : Int)), some (zI (p : Int)), none] [] M := by
    intro x
    induction x with
    | zero =>
      intro p M e f g1 g2
      have ep : p = n := by omega
      subst ep
      refine v_X5_noteWhoHolds_2 _ _ ?_
      rw [zw_n (a := p) (by omega), (CV_K5 f hC).1]
      exact ⟨fun z => absurd z (by omega), fun _ => hT g2 M f g1⟩
    | succ x ih =>
      intro p M e f g1 g2
      have fin : ∀ M3 : zM, FrK5 M0 M3 → (∀ q, q < p → zg M3 386 q = (Hf V LS n a y q : Int)) → zg M3 386 p = (Hf V LS n a y p : Int) → wp (Ev d) 5 cX5_noteWhoHolds (some .boolean) Q 98 [some (.ref 384), some (zI (a : Int)), some (zI (p : Int)), none] [] M3 := by
        intro M3 f3 g3 g4
        have lt : Hf V LS n a y p < 4096 := bs_12 hn
        refine v_X5_noteWhoHolds_98 _ _ ?_
        rw [zw_n (a := p) (by omega), show ((p : Int)).toNat = p by omega, g4, zb_bit (by omega) (by omega), bz_1, show (p : Int) + 1 = ((p + 1 : Nat) : Int) by omega]
        refine ⟨by omega, by omega, fun q => hF p (by omega) q M3 f3, fun q => ih (p + 1) M3 (by omega) f3 (fun q2 a1 => ?_) (fun q2 a1 => ?_)⟩
        · by_cases z : q2 = p
          · subst z; exact g4
          · exact g3 q2 (by omega)
        · by_cases z : q2 = p
          · subst z; rw [Bool.not_eq_true] at q; exact q
          · exact g2 q2 (by omega)
      have l2 : ∀ (x2 b : Nat) (M3 : zM), b + x2 = n → FrK5 M0 M3 → (∀ q, q < p → zg M3 386 q = (Hf V LS n a y q : Int)) → zg M3 386 p = (bs (hfB V LS a y p) b : Int) → wp (Ev d) 5 cX5_noteWhoHolds (some .boolean) Q 22 [some (.ref 384), some (zI (a : Int)), some (zI (p : Int)), some (zI (b : Int))] [] M3 := by
        intro x2
        induction x2 with
        | zero =>
          intro b M3 e2 f3 g3 g4
          refine v_X5_noteWhoHolds_22 _ _ _ ?_
          rw [zw_n (a := b) (by omega), (CV_K5 f3 hC).1]
          refine ⟨fun z => absurd z (by omega), fun _ => fin M3 f3 g3 ?_⟩
          rw [g4, show b = n by omega]; rfl
        | succ x2 ih2 =>
          intro b M3 e2 f3 g3 g4
          have hC3 := CV_K5 f3 hC
          have y3 : zg M3 384 3 = y := by rw [f3.1 _ _ (by omega) (by omega) (by omega) (by omega)]; exact h3
          have lt := bs_12 (P := hfB V LS a y p) (n := b) (by omega)
          have tb := tp_12 (p := b) (by omega)
          have wp1 : zw (p : Int) = (p : Int) := zw_n (by omega)
          have nx : ∀ M4 : zM, FrK5 M0 M4 → (∀ q, q < p → zg M4 386 q = (Hf V LS n a y q : Int)) → zg M4 386 p = (bs (hfB V LS a y p) b : Int) → hfB V LS a y p b = false → wp (Ev d) 5 cX5_noteWhoHolds (some .boolean) Q 22 [some (.ref 384), some (zI (a : Int)), some (zI (p : Int)), some (zI ((b : Int) + 1))] [] M4 := by
            intro M4 f4 g5 g6 q
            rw [show (b : Int) + 1 = ((b + 1 : Nat) : Int) by omega]
            refine ih2 (b + 1) M4 (by omega) f4 g5 ?_
            rw [g6, bs, if_neg (by rw [q]; decide)]
          refine v_X5_noteWhoHolds_22 _ _ _ ?_
          rw [zw_n (a := b) (by omega), hC3.1, y3]
          refine ⟨fun _ => c_X4_lives (by omega) 192 ob_192 _ _ (by omega) (by omega) ?_, fun z => absurd (by omega) z⟩
          rw [wp1, show ((p : Int)).toNat = p by omega, (hC3.2.2.2.1 p (by omega)).1, (hC3.2.2.2.1 p (by omega)).2.1, wy]
          refine bz_br (fun q => fin M3 f3 g3 ?_) (fun q => ?_)
          · have z : ∀ b2, hfB V LS a y p b2 = false := fun b2 => by unfold hfB lvB; rw [decide_eq_false q, Bool.false_and]
            have zz : ∀ m, bs (hfB V LS a y p) m = 0 := fun m => (bs_z m).mpr (by
              rw [Bool.eq_false_iff]; intro w
              obtain ⟨i, _, h2⟩ := (anyN_iff m).mp w
              rw [z i] at h2; cases h2)
            rw [g4, zz b]
            unfold Hf
            rw [zz n]
          · rw [y3]
            refine c_X4_isBearer (by omega) 192 n k V ob_192 hV hC3 b a (by omega) ha y wy (bz_br (fun q2 => nx M3 f3 g3 g4 ?_) (fun q2 => ?_))
            · rw [Bool.not_eq_true] at q2
              unfold hfB; rw [q2, Bool.false_and, Bool.and_false]
            · have qn : V 2 b = (a : Int) := by unfold brB at q2; rw [decide_eq_true_iff] at q2; exact q2.1
              rw [y3]
              refine c_X4_wouldHold hd 192 n k V ob_192 (Or.inl rfl) hV hC3 LS (LC_K5 f3 hL) p b (by omega) (by omega) y hy0 hy1 (by omega) (fun M4 f4 => ?_)
              have f5 := FrK5_tr f3 (FrL_K5 f4)
              have k6 : ∀ q, zg M4 386 q = zg M3 386 q := fun q => f4.1 _ _ (by omega) (by omega) (by omega)
              refine bz_br (fun q3 => nx M4 f5 (fun q5 a1 => by rw [k6]; exact g3 q5 a1) (by rw [k6]; exact g4) ?_) (fun q3 => ?_)
              · rw [Bool.not_eq_true] at q3
                unfold hfB; rw [q3, Bool.and_false, Bool.and_false]
              · rw [k6, g4, zb_shl (by omega), zb_or (by omega) (by omega)]
                refine ⟨by omega, by omega, by omega, by omega, ?_⟩
                rintro _ rfl
                rw [show (b : Int) + 1 = ((b + 1 : Nat) : Int) by omega]
                have ol := or_12 lt tb
                refine ih2 (b + 1) _ (by omega) (FrK5_tr f5 ⟨fun i j _ _ _ z => by rw [zg_zsi _ _ _ _ z], fun _ _ => rfl⟩) (fun q5 a1 => by rw [zg_zsj _ _ _ _ (by omega), k6]; exact g3 q5 a1) ?_
                rw [zg_zs1, bs, if_pos (by unfold hfB lvB; rw [decide_eq_true q, q2, q3]; rfl), zw_n (by omega)]
      refine v_X5_noteWhoHolds_2 _ _ ?_
      rw [zw_n (a := p) (by omega), (CV_K5 f hC).1, show ((p : Int)).toNat = p by omega]
      refine ⟨fun _ => ⟨by omega, by omega, ?_⟩, fun z => absurd (by omega) z⟩
      rintro _ rfl
      refine l2 n 0 _ (by omega) (FrK5_tr f ⟨fun i j _ _ _ z => by rw [zg_zsi _ _ _ _ z], fun _ _ => rfl⟩) (fun q5 a1 => by rw [zg_zsj _ _ _ _ (by omega)]; exact g1 q5 a1) (by rw [zg_zs1]; rfl)
  exact e_X5_noteWhoHolds _ (v_X5_noteWhoHolds_0 _ (l n 0 M0 (by omega) ⟨fun _ _ _ _ _ _ => rfl, fun _ _ => rfl⟩ (fun q z => absurd z (by omega)) (fun q z => absurd z (by omega))))
/-- free without a set, for a name that isn't famed -/
theorem hd_fr {n k : Nat} {V : zV} {LS : Option (List lwL)} {a : Nat} {y : Int} (hfm : fmB V n a y = false) (s : Nat) : hdA V LS (kup V (okB V y s) k) n y a = false ↔ frN n k V y (Hf V LS n a y) s := by
  unfold hdA
  rw [hfm, Bool.false_or]
  constructor
  · intro h p b hp hb hk
    rw [Bool.eq_false_iff] at h ⊢
    intro g
    unfold Hf at g
    rw [bs_bit, Bool.and_eq_true] at g
    have g2 := g.2
    unfold hfB at g2
    rw [Bool.and_eq_true, Bool.and_eq_true] at g2
    refine h ((anyN_iff n).mpr ⟨p, hp, (anyN_iff n).mpr ⟨b, hb, ?_⟩⟩)
    have e1 : decide (V 0 p ≤ y ∧ y < V 1 p) = true := g2.1
    unfold hB lkB
    rw [g2.2.1, g2.2.2, hk, e1]; rfl
  · intro h
    rw [Bool.eq_false_iff]
    intro g
    obtain ⟨p, hp, g2⟩ := (anyN_iff n).mp g
    obtain ⟨b, hb, g3⟩ := (anyN_iff n).mp g2
    unfold hB lkB at g3
    rw [Bool.and_eq_true, Bool.and_eq_true, Bool.and_eq_true] at g3
    have := h p b hp hb g3.2.1.1
    unfold Hf at this
    rw [bs_bit, decide_eq_true hb, Bool.true_and] at this
    unfold hfB lvB at this
    rw [g3.2.1.2, g3.1, g3.2.2] at this
    cases this
theorem kup_al {n k : Nat} {V : zV} (hV : Vok n k V) (y : Int) : ∀ j, j ≤ k → ∀ p, kup V (okB V y (AL k V y)) j p = 2 ^ p
  | 0, _, p => rfl
  | j + 1, hj, p => by
    have g6 := hV.2.2.2.2.1 j (by omega)
    have no : okB V y (AL k V y) (V 6 j).toNat = false := by
      rw [Bool.eq_false_iff]
      intro z
      have h1 := AL_in (k := k) (show (V 6 j).toNat < k by omega) z
      unfold okB at z
      rw [h1, Bool.and_eq_true] at z
      exact absurd z.2 (by decide)
    rw [kup, if_neg (by rw [no]; decide)]
    exact kup_al hV y j (by omega) p
theorem al_fr {n k : Nat} {V : zV} (hV : Vok n k V) (y : Int) (H : Nat → Nat) : frN n k V y H (AL k V y) ↔ ∀ p, p < n → (H p).testBit p = false := by
  constructor
  · intro h p hp
    exact h p p hp hp (by rw [kup_al hV y k (Nat.le_refl _) p, Nat.testBit_two_pow]; simp)
  · intro h p b hp hb q
    rw [kup_al hV y k (Nat.le_refl _) p, Nat.testBit_two_pow, decide_eq_true_iff] at q
    subst q
    exact h p hp
/-- the set that is asked for -/
def bestS (n k : Nat) (V : zV) (y : Int) (H : Nat → Nat) (r : Nat) : Prop := r < 65536 ∧ sub r (AL k V y) ∧ frN n k V y H r ∧ ∀ s : Nat, s < 65536 → sub s (AL k V y) → frN n k V y H s → leS (pcv r) r (pcv s) s
theorem best_u {n k : Nat} {V : zV} {y : Int} {H : Nat → Nat} {r r2 : Nat} (h : bestS n k V y H r) (g : bestS n k V y H r2) : r = r2 := by
  have a := h.2.2.2 r2 g.1 g.2.1 g.2.2.1
  have b := g.2.2.2 r h.1 h.2.1 h.2.2.1
  unfold leS at a b
  omega
def FrF5 (M M2 : zM) : Prop := (∀ i j, i ≠ 137 → i ≠ 138 → i ≠ 207 → ¬ (i = 128 ∧ j = 10) → ¬ (384 ≤ i ∧ i < 448) → zg M2 i j = zg M i j) ∧ (∀ i j, zh M2 i j = zh M i j)
theorem c_X5_fewest {d : Nat} {M : zM} {Q : Int → zM → Prop} (hd : 23 ≤ d) (n k : Nat) (V : zV) (hV : Vok n k V) (hC : CV 192 n k V M) (LS : Option (List lwL)) (hL : LC M LS) (a : Nat) (ha : a < 12) (y : Int) (hy0 : 0 ≤ y) (hy1 : y < 100) (hb : fmB V n a y = true ∨ (fmB V n a y = false ∧ ¬ frN n k V y (Hf V LS n a y) (AL k V y)) → ∀ M2 : zM, FrF5 M M2 → Q (-2) M2) (hg : fmB V n a y = false → frN n k V y (Hf V LS n a y) (AL k V y) → ∀ (r : Nat) (M2 : zM), bestS n k V y (Hf V LS n a y) r → FrF5 M M2 → Q (r : Int) M2) : Ev d mX5_fewest [.ref 384, zI (a : Int), zI y] M Q := by
  obtain ⟨d, rfl, hdd⟩ := e_of 22 hd; replace hd := hdd
  have wy : zw y = y := zw_of (by omega) (by omega)
  have hn := hV.1
  refine e_X5_fewest _ _ (v_X5_fewest_0 _ _ ?_)
  rintro _ rfl
  have z : ∀ i j, ¬ (i = 384 ∧ j = 3) → zg (zs M 384 3 y) i j = zg M i j := fun i j q => by rw [zg_zs, if_neg q]
  have e3 : zg (zs M 384 3 y) 384 3 = y := by rw [zg_zs1, wy]
  have fc : FrI5 M M := FrI5_rf M
  have hC1 : CV 192 n k V (zs M 384 3 y) := by
    obtain ⟨c1, c2, c3, c4, c5, c6⟩ := hC
    refine ⟨by rw [z _ _ (by omega)]; exact c1, by rw [z _ _ (by omega)]; exact c2, by rw [z _ _ (by omega)]; exact c3, fun p hp => ⟨by rw [z _ _ (by omega)]; exact (c4 p hp).1, by rw [z _ _ (by omega)]; exact (c4 p hp).2.1, by rw [z _ _ (by omega)]; exact (c4 p hp).2.2⟩, fun m hm => ⟨by rw [z _ _ (by omega)]; exact (c5 m hm).1, by rw [z _ _ (by omega)]; exact (c5 m hm).2.1, by rw [z _ _ (by omega)]; exact (c5 m hm).2.2.1, by rw [z _ _ (by omega)]; exact (c5 m hm).2.2.2⟩, fun q hq => ⟨by rw [z _ _ (by omega)]; exact (c6 q hq).1, by rw [z _ _ (by omega)]; exact (c6 q hq).2⟩⟩
  have hL1 : LC (zs M 384 3 y) LS := by
    match LS, hL with
    | none, g => show zg (zs M 384 3 y) 128 7 = 0; rw [z _ _ (by omega)]; exact g
    | some ls, g =>
      obtain ⟨g1, g2, g3, g4⟩ := g
      exact ⟨g1, by rw [z _ _ (by omega)]; exact g2, g3, CdA_fr _ _ (fun j _ _ => z _ _ (by omega)) g4⟩
  have f0 : FrF5 M (zs M 384 3 y) := ⟨fun i j _ _ _ _ q => z i j (by omega), fun _ _ => rfl⟩
  rw [e3]
  refine c_X4_isFamed (by omega) 192 n k V ob_192 hV hC1 a ha y wy (bz_br (fun q => ?_) (fun q => hb (Or.inl q) _ f0))
  rw [Bool.not_eq_true] at q
  refine c_X5_noteWhoHolds (by omega) n k V hV hC1 LS hL1 a ha y hy0 hy1 e3 (fun hs M2 f1 g1 => ⟨fun y2 => absurd y2 (by decide), fun _ => ?_⟩) (fun p hp hbit M2 f1 => ⟨fun _ => hb (Or.inr ⟨q, fun fz => ?_⟩) M2 ⟨fun i j a1 a2 a3 a4 a5 => by rw [f1.1 i j a1 a2 a4 (by omega), z i j (by omega)], fun i j => by rw [f1.2]; rfl⟩, fun y2 => absurd (by decide) y2⟩)
  · rintro _ rfl _ rfl
    have zz : ∀ i j, ¬ (i = 384 ∧ (j = 4 ∨ j = 5)) → zg (zs (zs M2 384 4 0) 384 5 17) i j = zg M2 i j := fun i j q2 => by rw [zg_zs, if_neg (by omega), zg_zs, if_neg (by omega)]
    have fI : FrI5 M2 (zs (zs M2 384 4 0) 384 5 17) := ⟨fun i j _ _ q2 => zz i j q2, fun _ _ => rfl⟩
    have al := AL_lt V y hV.2.1
    have go := sk_ok hV wy hs 17 d 0 0 0 0 17 (zs (zs M2 384 4 0) 384 5 17) (fun r8 M9 => Q (zg M9 384 4) M9) (by omega) (by omega) (by omega) (by omega) (fun i hi => by rw [Nat.zero_testBit] at hi; cases hi) rfl (by omega) (CV_I5 fI (CV_K5 f1 hC1)) (by rw [zz _ _ (by omega), f1.1 _ _ (by omega) (by omega) (by omega) (by omega)]; exact e3) (fun p hp => ⟨by rw [zz _ _ (by omega)]; exact g1 p hp, bs_12 hn⟩) ⟨by rw [zg_zsj _ _ _ _ (by omega), zg_zs1]; decide, by rw [zg_zs1]; decide, by omega, by omega, Or.inl ⟨rfl, rfl⟩⟩ (fun b2 c2 M3 f3 hB3 hl cov => ?_)
    · exact go
    · have fal := (al_fr hV y (Hf V LS n a y)).mpr hs
      have best : bestS n k V y (Hf V LS n a y) b2 := by
        have cov2 : ∀ s : Nat, s < 65536 → sub s (AL k V y) → frN n k V y (Hf V LS n a y) s → leS c2 b2 (pcv s) s := fun s s1 s2 s3 => cov s s1 s2 s3 (fun i hi => by rw [Nat.zero_testBit] at hi; cases hi) (fun i hi => by rw [Nat.zero_testBit] at hi; cases hi)
        obtain ⟨B1, B2, B3, B4, B5⟩ := hB3
        have c16 := cov2 _ al (fun i hi => hi) fal
        have p16 := pcv_16 al
        rcases B5 with B5 | ⟨B5, B6, B7⟩
        · unfold leS at c16; omega
        · exact ⟨B3, B6, B7, fun s s1 s2 s3 => by rw [← B5]; exact cov2 s s1 s2 s3⟩
      rw [hB3.1]
      refine hg q fal b2 M3 best ⟨fun i j a1 a2 a3 a4 a5 => ?_, fun i j => ?_⟩
      · rw [f3.1 i j a3 (by omega) (by omega), zz i j (by omega), f1.1 i j a1 a2 a4 (by omega), z i j (by omega)]
      · rw [f3.2, zh_zs, zh_zs, f1.2]; rfl
  · have := (al_fr hV y (Hf V LS n a y)).mp fz p hp
    rw [this] at hbit
    cases hbit
/-! the reference -/
theorem c_X8_isFreeWithout {d : Nat} {M : zM} {Q : Int → zM → Prop} (hd : 8 ≤ d) (n k : Nat) (V : zV) (hV : Vok n k V) (hR : RV n k V (evb n) M) (LS : Option (List lwL)) (hL : LR M LS) (a : Nat) (ha : a < 12) (y : Int) (hy0 : 0 ≤ y) (hy1 : y < 100) (s : Nat) (hs : s < 65536) (h : ∀ M2 : zM, FrR M M2 → Q (bz (hdA V LS (kup V (okB V y s) k) n y a = false)) M2) : Ev d mX8_isFreeWithout [.ref 1280, zI (a : Int), zI y, zI (s : Int)] M Q := by
  obtain ⟨d, rfl, hdd⟩ := e_of 7 hd; replace hd := hdd
  have wy : zw y = y := zw_of (by omega) (by omega)
  refine e_X8_isFreeWithout _ _ _ (v_X8_isFreeWithout_0 _ _ _ (c_X8_findKnown (by omega) n k (evb n) V hV hR y wy s hs (fun M2 f1 f2 => ?_)))
  have f3 := FrF_R f1
  refine c_X8_everybody (by omega) n hV.1 (RV_R f3 hR).1 (c_X8_isHeld hd n k (evb n) V hV (RV_R f3 hR) (evb_lt hV.1) LS (LR_R f3 hL) _ f2 (kup_lt hV k (by omega)) a ha y hy0 hy1 (fun M3 f4 => ?_))
  have hh := h M3 (FrR_tr f3 (FrQ_R f4))
  refine bz_br (fun q => ?_) (fun q => ?_)
  · rw [Bool.not_eq_true] at q
    rw [bz_t q] at hh; exact hh
  · rw [bz_f (by rw [q]; decide)] at hh; exact hh
theorem sub_le {s t : Nat} (h : sub s t) : s ≤ t := by
  have e : s &&& t = s := Nat.eq_of_testBit_eq (fun i => by
    rw [Nat.testBit_and]
    cases z : s.testBit i with
    | false => rfl
    | true => rw [h i z]; rfl)
  rw [← e]; exact Nat.and_le_right
theorem andn_z {s t : Nat} : andn s t = 0 ↔ sub s t := by
  constructor
  · intro h i hi
    have := andn_bit s t i
    rw [h, Nat.zero_testBit, hi, Bool.true_and] at this
    cases z : t.testBit i with
    | true => rfl
    | false => rw [z] at this; cases this
  · intro h
    refine Nat.eq_of_testBit_eq (fun i => ?_)
    rw [andn_bit, Nat.zero_testBit]
    cases z : s.testBit i with
    | false => rfl
    | true => rw [h i z]; rfl
theorem l_X8_ap83 {d : Nat} {M0 : zM} {Q : Int → zM → Prop} (hd : 8 ≤ d) (n k : Nat) (V : zV) (hV : Vok n k V) (hR : RV n k V (evb n) M0) (LS : Option (List lwL)) (hL : LR M0 LS) (a : Nat) (ha : a < 12) (y : Int) (hy0 : 0 ≤ y) (hy1 : y < 100) (hfm : fmB V n a y = false) (hal : frN n k V y (Hf V LS n a y) (AL k V y)) (h : ∀ (r : Nat) (M2 : zM), bestS n k V y (Hf V LS n a y) r → FrR M0 M2 → Q (r : Int) M2) : ∀ (x mn : Nat) (M : zM), mn + x = pcv (AL k V y) + 1 → FrR M0 M → (∀ s : Nat, s < 65536 → sub s (AL k V y) → frN n k V y (Hf V LS n a y) s → mn ≤ pcv s) → wp (Ev d) 8 cX8_apart (some .int) Q 83 [some (.ref 1280), some (zI (a : Int)), some (zI y), some (zI ((AL k V y : Nat) : Int)), some (zI (mn : Int)), none] [] M := by
  have k16 := hV.2.1
  have al := AL_lt V y k16
  have pk : pcv (AL k V y) ≤ k := by rw [pcv_pc2 k (AL k V y) (bs_lt _ k)]; exact pc2_le k _
  intro x
  induction x with
  | zero =>
    intro mn M e f g
    have := g _ al (fun i hi => hi) hal
    omega
  | succ x ih =>
    intro mn M e f g
    have hR2 := RV_R f hR
    refine v_X8_apart_83 _ _ _ _ ?_
    rw [zw_n (a := mn) (by omega), hR2.2.1]
    refine ⟨fun z => absurd z (by omega), fun _ => ?_⟩
    have l : ∀ (x2 st : Nat) (M3 : zM), st + x2 = AL k V y + 1 → FrR M0 M3 → (∀ s : Nat, s < 65536 → sub s (AL k V y) → frN n k V y (Hf V LS n a y) s → pcv s = mn → st ≤ s) → wp (Ev d) 8 cX8_apart (some .int) Q 95 [some (.ref 1280), some (zI (a : Int)), some (zI y), some (zI ((AL k V y : Nat) : Int)), some (zI (mn : Int)), some (zI (st : Int))] [] M3 := by
      intro x2
      induction x2 with
      | zero =>
        intro st M3 e2 f3 g2
        refine v_X8_apart_95 _ _ _ _ _ ?_
        rw [zw_n (a := AL k V y) (by omega), zw_n (a := st) (by omega), show (mn : Int) + 1 = ((mn + 1 : Nat) : Int) by omega]
        refine ⟨fun _ => ih (mn + 1) M3 (by omega) f3 (fun s s1 s2 s3 => ?_), fun z => absurd (by omega) z⟩
        have a1 := g s s1 s2 s3
        have a2 := sub_le s2
        by_cases q : pcv s = mn
        · have := g2 s s1 s2 s3 q; omega
        · omega
      | succ x2 ih2 =>
        intro st M3 e2 f3 g2
        have hR3 := RV_R f3 hR
        have nx : ∀ M4 : zM, FrR M0 M4 → ¬ (sub st (AL k V y) ∧ pcv st = mn ∧ frN n k V y (Hf V LS n a y) st) → wp (Ev d) 8 cX8_apart (some .int) Q 95 [some (.ref 1280), some (zI (a : Int)), some (zI y), some (zI ((AL k V y : Nat) : Int)), some (zI (mn : Int)), some (zI ((st : Int) + 1))] [] M4 := by
          intro M4 f4 q
          rw [show (st : Int) + 1 = ((st + 1 : Nat) : Int) by omega]
          refine ih2 (st + 1) M4 (by omega) f4 (fun s s1 s2 s3 s4 => ?_)
          have := g2 s s1 s2 s3 s4
          by_cases z : s = st
          · subst z; exact absurd ⟨s2, s4, s3⟩ q
          · omega
        have p16 := pcv_16 (show st < 65536 by omega)
        refine v_X8_apart_95 _ _ _ _ _ ?_
        rw [zw_n (a := AL k V y) (by omega), zw_n (a := st) (by omega), zb_andn (by omega) (by omega), zw_n (a := mn) (by omega)]
        refine ⟨fun z => absurd z (by omega), fun _ => ⟨fun q => c_X8_bitsOf (by omega) st (by omega) ?_, fun q => nx M3 f3 (fun z => q (by rw [andn_z.mpr z.1]; rfl))⟩⟩
        rw [zw_n (a := pcv st) (by omega)]
        refine ⟨fun q2 => c_X8_isFreeWithout hd n k V hV hR3 LS (LR_R f3 hL) a ha y hy0 hy1 st (by omega) (fun M4 f4 => bz_br (fun q3 => nx M4 (FrR_tr f3 f4) (fun z => q3 ((hd_fr hfm st).mpr z.2.2))) (fun q3 => ?_)), fun q2 => nx M3 f3 (fun z => q2 (by rw [z.2.1]))⟩
        have sst : sub st (AL k V y) := andn_z.mp (by omega)
        have pst : pcv st = mn := by omega
        refine h st M4 ⟨by omega, sst, (hd_fr hfm st).mp q3, fun s s1 s2 s3 => ?_⟩ (FrR_tr f3 f4)
        have a1 := g s s1 s2 s3
        by_cases q5 : pcv s = mn
        · exact Or.inr ⟨by omega, g2 s s1 s2 s3 q5⟩
        · exact Or.inl (by omega)
    exact l (AL k V y + 1) 0 M (by omega) f (fun s _ _ _ _ => Nat.zero_le s)
theorem c_X8_apart25 {d : Nat} {M0 : zM} {Q : Int → zM → Prop} (hd : 8 ≤ d) (n k : Nat) (V : zV) (hV : Vok n k V) (hR : RV n k V (evb n) M0) (LS : Option (List lwL)) (hL : LR M0 LS) (a : Nat) (ha : a < 12) (y : Int) (hy0 : 0 ≤ y) (hy1 : y < 100) (hb : hdA V LS (kup V (okB V y (AL k V y)) k) n y a = true → ∀ M2 : zM, FrR M0 M2 → Q (-2) M2) (hg : hdA V LS (kup V (okB V y (AL k V y)) k) n y a = false → ∀ (r : Nat) (M2 : zM), bestS n k V y (Hf V LS n a y) r → FrR M0 M2 → Q (r : Int) M2) : ∀ (x m : Nat), m + x = k → wp (Ev d) 8 cX8_apart (some .int) Q 25 [some (.ref 1280), some (zI (a : Int)), some (zI y), some (zI ((bs (okB V y 0) m : Nat) : Int)), some (zI (m : Int)), none] [] M0 := by
  have k16 := hV.2.1
  have wy : zw y = y := zw_of (by omega) (by omega)
  intro x
  induction x with
  | zero =>
    intro m e
    have em : m = k := by omega
    subst em
    have al := AL_lt V y k16
    refine v_X8_apart_25 _ _ _ _ ?_
    rw [zw_n (a := m) (by omega), hR.2.1, show bs (okB V y 0) m = AL m V y from rfl]
    refine ⟨fun z => absurd z (by omega), fun _ => c_X8_isFreeWithout hd n m V hV hR LS hL a ha y hy0 hy1 (AL m V y) al (fun M2 f => bz_br (fun q => ?_) (fun q => ?_))⟩
    · rw [Bool.not_eq_false] at q
      exact hb q M2 f
    · have fm : fmB V n a y = false := by
        unfold hdA at q
        cases z : fmB V n a y with
        | false => rfl
        | true => rw [z] at q; cases q
      exact l_X8_ap83 hd n m V hV (RV_R f hR) LS (LR_R f hL) a ha y hy0 hy1 fm ((hd_fr fm _).mp q) (fun r M3 b f2 => hg q r M3 b (FrR_tr f f2)) _ 0 M2 (Nat.zero_add _) (FrR_rf M2) (fun s _ _ _ => Nat.zero_le _)
  | succ x ih =>
    intro m e
    have nx := ih (m + 1) (by omega)
    rw [bs] at nx
    have lt : bs (okB V y 0) m < 65536 := Nat.lt_of_lt_of_le (bs_lt _ m) (show 2 ^ m ≤ 2 ^ 16 from Nat.pow_le_pow_right (by omega) (by omega))
    have tm := tp_16 (p := m) (by omega)
    refine v_X8_apart_25 _ _ _ _ ?_
    rw [zw_n (a := m) (by omega), hR.2.1, zb_shl (by omega), zb_or (by omega) (by omega), show (m : Int) + 1 = ((m + 1 : Nat) : Int) by omega]
    refine ⟨fun _ => c_X8_counts (by omega) n k (evb n) V hV hR m (by omega) (bz_br (fun q => ?_) (fun q => ⟨by omega, by omega, ?_⟩)), fun z => absurd (by omega) z⟩
    · rw [if_neg (by rw [okB_0]; simp [q])] at nx; exact nx
    · rw [show ((m : Int)).toNat = m by omega, (hR.2.2.2.2.1 m (by omega)).2.2, wy]
      refine ⟨fun q2 => ?_, fun q2 => ?_⟩
      · rw [if_neg (by rw [okB_0, decide_eq_true_iff]; omega)] at nx; exact nx
      · rw [if_pos (by rw [okB_0, decide_eq_true_iff]; exact ⟨by omega, q⟩)] at nx; exact nx
theorem p_apart {d : Nat} {M : zM} (hd : 24 ≤ d) (v y : Int) (hv : zw v = v) (hy : zw y = y) (hI : Inv M) : Pr d mX7_apart mX8_apart [zI v, zI y] M := by
  obtain ⟨n, k, n1, k1, hV, hC, LS, hL, hL2⟩ := Inv_V hI
  have hn := hV.1
  obtain ⟨d, rfl, hdd⟩ := e_of 23 hd; replace hd := hdd
  have R : ∀ (r : Int) (M1 : zM), FrW M M1 → (¬ ((0 ≤ v ∧ v < 12) ∧ 0 ≤ y ∧ y < 100) → r = -1) → (∀ a : Nat, v = (a : Int) → a < 12 → 0 ≤ y → y < 100 → (hdA (vR M) LS (kup (vR M) (okB (vR M) y (AL k (vR M) y)) k) n y a = true → r = -2) ∧ (hdA (vR M) LS (kup (vR M) (okB (vR M) y (AL k (vR M) y)) k) n y a = false → ∀ s : Nat, bestS n k (vR M) y (Hf (vR M) LS n a y) s → r = (s : Int))) → Ev (d + 1) mX8_apart [.ref 1280, zI v, zI y] M1 (fun r2 M2 => r = r2 ∧ Inv M2) := by
    intro r M1 fw hb hg
    refine e_X8_apart _ _ (v_X8_apart_0 _ _ (c_X8_isName (by omega) v ?_))
    rw [hv]
    refine bz_br (fun q => ⟨hb (by omega), Inv_W fw hI⟩) (fun q => c_X8_isYear (by omega) y ?_)
    rw [hy]
    refine bz_br (fun q2 => ⟨hb (by omega), Inv_W fw hI⟩) (fun q2 => ?_)
    obtain ⟨a, rfl⟩ : ∃ a : Nat, v = (a : Int) := ⟨v.toNat, by omega⟩
    obtain ⟨g1, g2⟩ := hg a rfl (by omega) q2.1 q2.2
    refine c_X8_asNamed (by omega) n hn (by rw [W1 fw]; exact n1) (fun M2 f1 f2 => ?_)
    have hA : ∀ i j, 1280 ≤ i → i < 1310 → zg M1 i j = zg M i j := fun i j _ _ => fw.1 i j (by omega) (by omega) (by omega) (by omega) (by omega) (by omega) (by omega) (by omega) (by omega) (by omega) (by omega)
    have hR := RV_nm2 n1 k1 hn hA f1 f2
    have fw2 := FrW_tr fw (FrB_W (FrN_B f1))
    exact c_X8_apart25 (by omega) n k (vR M) hV hR LS (LR_W fw2 hL2) a (by omega) y q2.1 q2.2 (fun z M3 f3 => ⟨g1 z, Inv_W (FrW_tr fw2 (FrB_W (FrR_B f3))) hI⟩) (fun z s M3 bs3 f3 => ⟨g2 z s bs3, Inv_W (FrW_tr fw2 (FrB_W (FrR_B f3))) hI⟩) k 0 (by omega)
  refine e_X7_apart _ _ (v_X7_apart_0 _ _ (c_X7_isName (by omega) v ?_))
  rw [hv]
  refine bz_br (fun q => R _ _ (FrW_rf M) (fun _ => rfl) (fun a e1 e2 e3 e4 => absurd (by omega) q)) (fun q => c_X7_isYear (by omega) y ?_)
  rw [hy]
  refine bz_br (fun q2 => R _ _ (FrW_rf M) (fun _ => rfl) (fun a e1 e2 e3 e4 => absurd ⟨e3, e4⟩ q2)) (fun q2 => ?_)
  obtain ⟨a, ha⟩ : ∃ a : Nat, v = (a : Int) := ⟨v.toNat, by omega⟩
  have W5 : ∀ M2 : zM, FrF5 M M2 → FrW M M2 := fun M2 f => ⟨fun i j a1 a2 a3 a4 a5 _ _ _ _ _ _ => f.1 i j a1 a2 a3 a4 (by omega), f.2⟩
  rw [ha]
  refine c_X5_fewest (by omega) n k (vR M) hV hC LS hL a (by omega) y q2.1 q2.2 (fun z M2 f => ?_) (fun z1 z2 s M2 b f => ?_)
  · rw [zq_m2, ← ha]
    refine R _ _ (W5 M2 f) (fun w => absurd (by omega) w) (fun a2 e1 e2 e3 e4 => ⟨fun _ => rfl, fun w => ?_⟩)
    have ea : a2 = a := by omega
    subst ea
    rcases z with z | ⟨z1, z2⟩
    · unfold hdA at w
      rw [z] at w
      cases w
    · exact absurd ((hd_fr z1 _).mp w) z2
  · rw [zw_n (by have := b.1; omega), ← ha]
    refine R _ _ (W5 M2 f) (fun w => absurd (by omega) w) (fun a2 e1 e2 e3 e4 => ⟨fun w => ?_, fun w s2 b2 => ?_⟩)
    · have ea : a2 = a := by omega
      subst ea
      rw [(hd_fr z1 _).mpr z2] at w
      cases w
    · have ea : a2 = a := by omega
      subst ea
      rw [best_u b b2]
