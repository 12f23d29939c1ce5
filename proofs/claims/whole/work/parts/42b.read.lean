/-! the class reads -/
def TPc (M : zM) (t : Nat) (T : Nat → Int) : Prop := zg M 128 1 = (t : Int) ∧ t ≤ 120 ∧ ∀ i : Nat, i < t → zg M 129 i = T i ∧ 0 ≤ T i ∧ T i ≤ 255
def CS (M : zM) (t : Nat) (T : Nat → Int) (h D : Nat) : Prop := TPc M t T ∧ zg M 128 4 = (h : Int) ∧ zg M 128 5 = -1 ∧ zg M 128 3 = (D : Int)
def CX (M : zM) (t : Nat) (T : Nat → Int) (f : Nat) : Prop := TPc M t T ∧ (0 ≤ zg M 128 3 ∧ zg M 128 3 ≤ 120) ∧ (zg M 128 5 = (f : Int) ∨ (zg M 128 5 = -1 ∧ zg M 128 4 = (f : Int) ∧ f < t ∧ dgB (T f) = true))
def FrD (D : Nat) (M M2 : zM) : Prop := (∀ i j, ¬ (i = 128 ∧ (j = 3 ∨ j = 4 ∨ j = 5)) → ¬ (i = 131 ∧ D ≤ j) → zg M2 i j = zg M i j) ∧ (∀ i j, zh M2 i j = zh M i j)
theorem FrD_rf (D : Nat) (M : zM) : FrD D M M := ⟨fun _ _ _ _ => rfl, fun _ _ => rfl⟩
theorem FrD_tr {D : Nat} {M M2 M3 : zM} (h : FrD D M M2) (g : FrD D M2 M3) : FrD D M M3 := ⟨fun i j a b => by rw [g.1 i j a b, h.1 i j a b], fun i j => by rw [g.2, h.2]⟩
theorem FrD_mo {D D2 : Nat} {M M2 : zM} (q : D ≤ D2) (h : FrD D2 M M2) : FrD D M M2 := ⟨fun i j a b => h.1 i j a (by omega), h.2⟩
theorem FrD_4 (D : Nat) (M : zM) (v : Int) : FrD D M (zs M 128 4 v) := ⟨fun i j a _ => by rw [zg_zs, if_neg (by omega)], fun _ _ => rfl⟩
theorem FrD_5 (D : Nat) (M : zM) (v : Int) : FrD D M (zs M 128 5 v) := ⟨fun i j a _ => by rw [zg_zs, if_neg (by omega)], fun _ _ => rfl⟩
theorem TPc_fr {D t : Nat} {T : Nat → Int} {M M2 : zM} (h : FrD D M M2) (g : TPc M t T) : TPc M2 t T := ⟨by rw [h.1 _ _ (by omega) (by omega)]; exact g.1, g.2.1, fun i hi => by rw [h.1 _ _ (by omega) (by omega)]; exact g.2.2 i hi⟩
theorem nb_bd {M : zM} {t : Nat} {T : Nat → Int} (g : TPc M t T) (h : Nat) : -1 ≤ nbT t T h ∧ nbT t T h ≤ 255 := by
  unfold nbT
  by_cases q : h < t
  · rw [if_pos q]; have := g.2.2 h q; omega
  · rw [if_neg q]; omega
theorem nb_w {M : zM} {t : Nat} {T : Nat → Int} (g : TPc M t T) (h : Nat) : zw (nbT t T h) = nbT t T h := by
  have := nb_bd g h
  exact zw_of (by omega) (by omega)
theorem c_X2_nextByte {d : Nat} {M : zM} {Q : Int → zM → Prop} (hd : 1 ≤ d) (t : Nat) (T : Nat → Int) (h : Nat) (g : TPc M t T) (hp : zg M 128 4 = (h : Int)) (hq : Q (nbT t T h) M) : Ev d mX2_nextByte [.ref 128] M Q := by
  obtain ⟨d, rfl, -⟩ := e_of 0 hd
  refine e_X2_nextByte (v_X2_nextByte_0 ?_)
  have t2 := g.2.1
  rw [hp, g.1, show ((h : Int)).toNat = h by omega]
  unfold nbT at hq
  refine ⟨fun z => absurd z (by omega), fun _ => ⟨fun q => ⟨by omega, by omega, ?_⟩, fun q => ?_⟩⟩
  · rw [if_pos (show h < t by omega)] at hq
    rw [(g.2.2 h (by omega)).1]; exact hq
  · rw [if_neg (show ¬ h < t by omega)] at hq; exact hq
theorem c_X2_nextAny {d : Nat} {M : zM} {Q : Int → zM → Prop} (hd : 1 ≤ d) (t : Nat) (T : Nat → Int) (g : TPc M t T) (hq : ∀ r, Q r M) : Ev d mX2_nextByte [.ref 128] M Q := by
  obtain ⟨d, rfl, -⟩ := e_of 0 hd
  refine e_X2_nextByte (v_X2_nextByte_0 ?_)
  have t2 := g.2.1
  rw [g.1]
  exact ⟨fun _ => hq _, fun q => ⟨fun q2 => ⟨by omega, by omega, hq _⟩, fun _ => hq _⟩⟩
theorem c_X2_draftCode {d : Nat} {M : zM} {Q : Int → zM → Prop} (hd : 1 ≤ d) (v : Int) (hv : zw v = v) (D : Nat) (hD : zg M 128 3 = (D : Int)) (hl : D < 120) (h : ∀ M2 : zM, (∀ i j, ¬ (i = 128 ∧ j = 3) → ¬ (i = 131 ∧ j = D) → zg M2 i j = zg M i j) → (∀ i j, zh M2 i j = zh M i j) → zg M2 128 3 = ((D + 1 : Nat) : Int) → zg M2 131 D = v → Q 0 M2) : Ev d mX2_draftCode [.ref 128, zI v] M Q := by
  obtain ⟨d, rfl, -⟩ := e_of 0 hd
  refine e_X2_draftCode _ (v_X2_draftCode_0 _ ?_)
  rw [hD, show ((D : Int)).toNat = D by omega]
  refine ⟨fun _ => ⟨by omega, by omega, ?_⟩, fun z => absurd (by omega) z⟩
  rintro _ rfl _ rfl
  rw [zg_zsi _ _ _ _ (by omega), hD]
  refine h _ (fun i j a b => by rw [zg_zs, if_neg a, zg_zs, if_neg b]) (fun _ _ => rfl) ?_ ?_
  · rw [zg_zs1, zw_of (by omega) (by omega)]; omega
  · rw [zg_zsi _ _ _ _ (by omega), zg_zs1, hv]
theorem c_X2_draftAny {d : Nat} {M : zM} {Q : Int → zM → Prop} (hd : 1 ≤ d) (v : Int) (hD : 0 ≤ zg M 128 3 ∧ zg M 128 3 ≤ 120) (h : ∀ M2 : zM, (∀ i j, ¬ (i = 128 ∧ j = 3) → i ≠ 131 → zg M2 i j = zg M i j) → (∀ i j, zh M2 i j = zh M i j) → (0 ≤ zg M2 128 3 ∧ zg M2 128 3 ≤ 120) → Q 0 M2) : Ev d mX2_draftCode [.ref 128, zI v] M Q := by
  obtain ⟨d, rfl, -⟩ := e_of 0 hd
  refine e_X2_draftCode _ (v_X2_draftCode_0 _ ?_)
  refine ⟨fun q => ⟨by omega, by omega, ?_⟩, fun z => h M (fun _ _ _ _ => rfl) (fun _ _ => rfl) hD⟩
  rintro _ rfl _ rfl
  have e : zg (zs M 131 (zg M 128 3).toNat v) 128 3 = zg M 128 3 := zg_zsi _ _ _ _ (by omega)
  rw [e]
  refine h _ (fun i j a b => by rw [zg_zs, if_neg a, zg_zsi _ _ _ _ b]) (fun _ _ => rfl) ?_
  rw [zg_zs1, zw_of (by omega) (by omega)]; omega
theorem CX_dr {M M2 : zM} {t f : Nat} {T : Nat → Int} (g : CX M t T f) (a : ∀ i j, ¬ (i = 128 ∧ j = 3) → i ≠ 131 → zg M2 i j = zg M i j) (b : 0 ≤ zg M2 128 3 ∧ zg M2 128 3 ≤ 120) : CX M2 t T f := by
  obtain ⟨g1, g2, g3⟩ := g
  refine ⟨⟨by rw [a _ _ (by omega) (by omega)]; exact g1.1, g1.2.1, fun i hi => by rw [a _ _ (by omega) (by omega)]; exact g1.2.2 i hi⟩, b, ?_⟩
  rw [a 128 5 (by omega) (by omega), a 128 4 (by omega) (by omega)]; exact g3
theorem FrD_dr {M M2 : zM} (a : ∀ i j, ¬ (i = 128 ∧ j = 3) → i ≠ 131 → zg M2 i j = zg M i j) (b : ∀ i j, zh M2 i j = zh M i j) : FrD 0 M M2 := ⟨fun i j q1 q2 => a i j (by omega) (by omega), b⟩
theorem c_X2_isDigit {d : Nat} {M : zM} {Q : Int → zM → Prop} (hd : 1 ≤ d) (c : Int) (hc : zw c = c) (h : Q (bz (dgB c = true)) M) : Ev d mX2_isDigit [zI c] M Q := by
  obtain ⟨d, rfl, -⟩ := e_of 0 hd
  refine e_X2_isDigit _ (v_X2_isDigit_0 _ ?_)
  rw [hc]
  refine ⟨fun q => ?_, fun q => ⟨fun q2 => ?_, fun q2 => ?_⟩⟩
  · rw [bz_f (by rw [dg_i]; omega)] at h; exact h
  · rw [bz_f (by rw [dg_i]; omega)] at h; exact h
  · rw [bz_t (by rw [dg_i]; omega)] at h; exact h
theorem c_X2_rankOf {d : Nat} {M : zM} {Q : Int → zM → Prop} (hd : 1 ≤ d) (c : Int) (hc : zw c = c) (h : Q (rkO c) M) : Ev d mX2_rankOf [zI c] M Q := by
  obtain ⟨d, rfl, -⟩ := e_of 0 hd
  refine e_X2_rankOf _ (v_X2_rankOf_0 _ ?_)
  rw [hc]
  unfold rkO at h
  refine ⟨fun q => ?_, fun q => ?_, fun q => ?_, fun q => ?_, fun q => ?_, fun q => ?_, fun q => ?_, fun q => ?_, fun q => ?_, fun q => ?_, fun q1 q2 q3 q4 q5 q6 q7 q8 q9 q10 => ?_⟩
  · rw [if_neg (by omega), if_neg (by omega), if_neg (by omega), if_neg (by omega), if_pos (by omega)] at h; exact h
  · rw [if_neg (by omega), if_pos (by omega)] at h; exact h
  · rw [if_neg (by omega), if_neg (by omega), if_neg (by omega), if_neg (by omega), if_pos (by omega)] at h; exact h
  · rw [if_neg (by omega), if_neg (by omega), if_neg (by omega), if_pos (by omega)] at h; exact h
  · rw [if_neg (by omega), if_neg (by omega), if_neg (by omega), if_pos (by omega)] at h; exact h
  · rw [if_neg (by omega), if_neg (by omega), if_neg (by omega), if_neg (by omega), if_pos (by omega)] at h; exact h
  · rw [if_neg (by omega), if_neg (by omega), if_pos (by omega)] at h; exact h
  · rw [if_neg (by omega), if_neg (by omega), if_pos (by omega)] at h; exact h
  · rw [if_neg (by omega), if_neg (by omega), if_pos (by omega)] at h; exact h
  · rw [if_pos (by omega)] at h; exact h
  · rw [if_neg (by omega), if_neg (by omega), if_neg (by omega), if_neg (by omega), if_neg (by omega)] at h; exact h
theorem rk_w (c : Int) : zw (rkO c) = rkO c ∧ -1 ≤ rkO c ∧ rkO c < 5 := by
  unfold rkO
  by_cases a1 : c = 124
  · rw [if_pos a1]; decide
  rw [if_neg a1]
  by_cases a2 : c = 38
  · rw [if_pos a2]; decide
  rw [if_neg a2]
  by_cases a3 : c = 60 ∨ c = 61 ∨ c = 62
  · rw [if_pos a3]; decide
  rw [if_neg a3]
  by_cases a4 : c = 43 ∨ c = 45
  · rw [if_pos a4]; decide
  rw [if_neg a4]
  by_cases a5 : c = 42 ∨ c = 47 ∨ c = 37
  · rw [if_pos a5]; decide
  rw [if_neg a5]; decide
theorem rk_dg {c : Int} (h : dgB c = true) : rkO c = -1 := by
  have q := dg_i.mp h
  unfold rkO
  rw [if_neg (by omega), if_neg (by omega), if_neg (by omega), if_neg (by omega), if_neg (by omega)]
theorem c_X2_refuse {d : Nat} {M : zM} {Q : Int → zM → Prop} (hd : 1 ≤ d) (t : Nat) (T : Nat → Int) (f : Nat) (g : TPc M t T) (b : 0 ≤ zg M 128 3 ∧ zg M 128 3 ≤ 120) (hf : zg M 128 5 = (f : Int) ∨ (zg M 128 5 = -1 ∧ zg M 128 4 = (f : Int))) (h : ∀ M2 : zM, FrD 0 M M2 → CX M2 t T f → zg M2 128 5 = (f : Int) → Q 0 M2) : Ev d mX2_refuse [.ref 128] M Q := by
  obtain ⟨d, rfl, -⟩ := e_of 0 hd
  refine e_X2_refuse (v_X2_refuse_0 ⟨fun q => ?_, fun q => ?_⟩)
  · rintro _ rfl
    rcases hf with hf | ⟨hf1, hf2⟩
    · omega
    · rw [hf2]
      have fr := FrD_5 0 M (f : Int)
      have e5 : zg (zs M 128 5 (f : Int)) 128 5 = (f : Int) := by rw [zg_zs1, ← hf2, zw_zg]
      refine h _ fr ⟨TPc_fr fr g, by rw [zg_zsj _ _ _ _ (by omega)]; exact b, Or.inl e5⟩ e5
  · rcases hf with hf | hf
    · exact h M (FrD_rf 0 M) ⟨g, b, Or.inl hf⟩ hf
    · exact absurd hf.1 q
def PostC (t : Nat) (T : Nat → Int) (M : zM) (D : Nat) (R : zRs) (K : zM → Prop) : Prop := (R.2.2 = none → ∀ M2 : zM, FrD D M M2 → CS M2 t T R.1 (D + R.2.1.length) → CdA M2 131 D R.2.1 → K M2) ∧ (∀ f, R.2.2 = some f → ∀ M2 : zM, FrD 0 M M2 → CX M2 t T f → K M2)
def ImC (t : Nat) (T : Nat → Int) (d : Nat) (row : zRow) (args : List Value) (S : Nat → zRs) : Prop := ∀ (h D : Nat) (M : zM) (Q : Int → zM → Prop), CS M t T h D → D ≤ h → h ≤ t → PostC t T M D (S h) (Q 0) → Ev d row args M Q
/-- behind a fault a rank does no more -/
theorem l_X2_rankX {d : Nat} {Q : Int → zM → Prop} (hd : 1 ≤ d) (t f : Nat) (T : Nat → Int) (r : Int) (hr : 0 ≤ r ∧ r < 5) (o v3 : Int) (M : zM) (g : CX M t T f) (h : Q 0 M) : wp (Ev d) 2 cX2_readRank none Q 21 [some (.ref 128), some (zI r), some (zI o), some (zI v3), none] [] M := by
  obtain ⟨g1, g2, g3⟩ := g
  refine v_X2_readRank_21 _ _ _ ⟨fun _ => ⟨fun q => ?_, fun _ => h⟩, fun _ => h⟩
  rcases g3 with g3 | ⟨g3, g4, g5, g6⟩
  · omega
  · refine c_X2_nextByte hd t T f g1 g4 (c_X2_rankOf hd _ (nb_w g1 f) ?_)
    have e : nbT t T f = T f := by unfold nbT; rw [if_pos g5]
    rw [(rk_w _).1, e, rk_dg g6, zw_of (a := r) (by omega) (by omega)]
    exact ⟨fun z => absurd z (by omega), fun _ => h⟩
theorem l_X2_rank {d : Nat} {Q : Int → zM → Prop} (hd : 1 ≤ d) (t : Nat) (T : Nat → Int) (r : Int) (hr : 0 ≤ r ∧ r < 5) (o : Int) (S : Nat → zRs) (hS : ImC t T d mX2_readRank [.ref 128, zI (r + 1), zI o] S) (hK : ∀ h, h ≤ t → Sok t h (S h)) (M0 : zM) (D0 h0 : Nat) (hD0 : D0 ≤ h0) : ∀ (x h : Nat) (cs : List Int) (M : zM) (k : Nat), t ≤ h + x → h0 + 1 ≤ h → h ≤ t → cs.length + h0 ≤ h → FrD D0 M0 M → CS M t T h (D0 + cs.length) → CdA M 131 D0 cs → k ≤ h → PostC t T M0 D0 (lp t T S r x h cs) (Q 0) → wp (Ev d) 2 cX2_readRank none Q 21 [some (.ref 128), some (zI r), some (zI o), some (zI (k : Int)), none] [] M := by
  intro x
  induction x with
  | zero =>
    intro h cs M k a1 a2 a3 a4 f c1 c2 a5 hP
    have t2 := c1.1.2.1
    have q : ¬ rkO (nbT t T h) = r := by
      have : nbT t T h = -1 := by unfold nbT; rw [if_neg (by omega)]
      rw [this]
      have : rkO (-1) = -1 := by decide
      omega
    rw [lp_x q] at hP
    have hh := hP.1 rfl M f c1 c2
    refine v_X2_readRank_21 _ _ _ ⟨fun _ => ⟨fun _ => ?_, fun _ => hh⟩, fun _ => hh⟩
    refine c_X2_nextByte hd t T h c1.1 c1.2.1 (c_X2_rankOf hd _ (nb_w c1.1 h) ?_)
    rw [(rk_w _).1, zw_of (a := r) (by omega) (by omega)]
    exact ⟨fun z => absurd z q, fun _ => hh⟩
  | succ x ih =>
    intro h cs M k a1 a2 a3 a4 f c1 c2 a5 hP
    have t2 := c1.1.2.1
    by_cases q : rkO (nbT t T h) = r
    · have bs := rk_p (c := nbT t T h) (by omega)
      unfold bsgn at bs
      have q3 := nb_t (show nbT t T h ≠ -1 by omega)
      have s := hK (h + 1) (by omega)
      refine v_X2_readRank_21 _ _ _ ?_
      rw [zw_n (a := k) (by omega), c1.2.2.1]
      refine ⟨fun _ => ⟨fun _ => ?_, fun z => absurd rfl z⟩, fun z => absurd (by omega) z⟩
      refine c_X2_nextByte hd t T h c1.1 c1.2.1 (c_X2_rankOf hd _ (nb_w c1.1 h) ?_)
      rw [(rk_w _).1, zw_of (a := r) (by omega) (by omega)]
      refine ⟨fun _ => c_X2_nextByte hd t T h c1.1 c1.2.1 ?_, fun z => absurd q z⟩
      rintro _ rfl
      rw [c1.2.1]
      have fr := FrD_4 (D0 + cs.length) M ((h : Int) + 1)
      have c3 : CS (zs M 128 4 ((h : Int) + 1)) t T (h + 1) (D0 + cs.length) := ⟨TPc_fr fr c1.1, by rw [zg_zs1, zw_of (by omega) (by omega)]; omega, by rw [zg_zsj _ _ _ _ (by omega)]; exact c1.2.2.1, by rw [zg_zsj _ _ _ _ (by omega)]; exact c1.2.2.2⟩
      refine hS (h + 1) (D0 + cs.length) _ _ c3 (by omega) (by omega) ⟨fun e M2 f2 c4 c5 => ?_, fun fl e M2 f2 c4 => ?_⟩
      · obtain ⟨s1, s2, s3, s4, s5⟩ := s.1 e
        refine c_X2_draftCode hd _ (zw_of (by omega) (by omega)) (D0 + cs.length + (S (h + 1)).2.1.length) c4.2.2.2 (by omega) (fun M3 e1 e2 e3 e4 => ?_)
        have f3 : FrD D0 M2 M3 := ⟨fun i j b1 b2 => e1 i j (by omega) (by omega), e2⟩
        have f4 : FrD D0 M0 M3 := FrD_tr f (FrD_tr (FrD_mo (by omega) fr) (FrD_tr (FrD_mo (by omega) f2) f3))
        have ll : (cs ++ (S (h + 1)).2.1 ++ [-(nbT t T h)]).length = cs.length + (S (h + 1)).2.1.length + 1 := by simp; omega
        have c6 : CS M3 t T (S (h + 1)).1 (D0 + (cs ++ (S (h + 1)).2.1 ++ [-(nbT t T h)]).length) := ⟨TPc_fr f3 c4.1, by rw [e1 _ _ (by omega) (by omega)]; exact c4.2.1, by rw [e1 _ _ (by omega) (by omega)]; exact c4.2.2.1, by rw [e3, ll]; omega⟩
        have c7 : CdA M3 131 D0 (cs ++ (S (h + 1)).2.1 ++ [-(nbT t T h)]) := by
          rw [CdA_app, CdA_app]
          refine ⟨⟨CdA_fr _ _ (fun j b1 b2 => ?_) c2, CdA_fr _ _ (fun j b1 b2 => e1 _ _ (by omega) (by omega)) c5⟩, ?_, trivial⟩
          · rw [e1 _ _ (by omega) (by omega), f2.1 _ _ (by omega) (by omega), fr.1 _ _ (by omega) (by omega)]
          · have el : D0 + (cs ++ (S (h + 1)).2.1).length = D0 + cs.length + (S (h + 1)).2.1.length := by simp; omega
            rw [el]; exact e4
        by_cases r2 : r = 2
        · rw [lp_2 q e r2] at hP
          exact ⟨fun _ => hP.1 rfl M3 f4 c6 c7, fun z => absurd r2 z⟩
        · rw [lp_n q e r2] at hP
          refine ⟨fun z => absurd z r2, fun _ => ?_⟩
          rw [show (k : Int) + 1 = ((k + 1 : Nat) : Int) by omega]
          exact ih _ _ M3 (k + 1) (by omega) (by omega) s2 (by omega) f4 c6 c7 (by omega) hP
      · refine c_X2_draftAny hd _ c4.2.1 (fun M3 e1 e2 e3 => ?_)
        have c5 := CX_dr c4 e1 e3
        rw [lp_f q e] at hP
        have hh := hP.2 fl rfl M3 (FrD_tr (FrD_mo (by omega) f) (FrD_tr (FrD_mo (by omega) fr) (FrD_tr f2 (FrD_dr e1 e2)))) c5
        exact ⟨fun _ => hh, fun _ => l_X2_rankX hd t fl T r hr o _ M3 c5 hh⟩
    · rw [lp_x q] at hP
      have hh := hP.1 rfl M f c1 c2
      refine v_X2_readRank_21 _ _ _ ⟨fun _ => ⟨fun _ => ?_, fun _ => hh⟩, fun _ => hh⟩
      refine c_X2_nextByte hd t T h c1.1 c1.2.1 (c_X2_rankOf hd _ (nb_w c1.1 h) ?_)
      rw [(rk_w _).1, zw_of (a := r) (by omega) (by omega)]
      exact ⟨fun z => absurd z q, fun _ => hh⟩
theorem rR_ok {t : Nat} {T : Nat → Int} {O : Nat → zRs} {o : Int} {N : Nat} (hN : 1 ≤ N) (hO : ∀ d, N ≤ d → ImC t T d mX2_readOperand [.ref 128, zI o] O) (hK : ∀ h, h ≤ t → Sok t h (O h)) : ∀ j, j ≤ 5 → ∀ d, N + 1 + j ≤ d → ImC t T d mX2_readRank [.ref 128, zI (5 - (j : Int)), zI o] (rkD t T O j)
  | 0, _, d, hd => by
    intro h D M Q c1 c2 c3 hP
    obtain ⟨d, rfl, hdd⟩ := e_of N (show N + 1 ≤ d by omega)
    refine e_X2_readRank _ _ (v_X2_readRank_0 _ _ ?_)
    rw [zw_of (a := 5 - ((0 : Nat) : Int)) (by omega) (by omega)]
    exact ⟨fun z => absurd z (by omega), fun _ => hO d hdd h D M _ c1 c2 c3 hP⟩
  | j + 1, hj, d, hd => by
    intro h D M Q c1 c2 c3 hP
    have ih := rR_ok hN hO hK j (by omega)
    have hs := Sok_rkD (T := T) hK j (by omega)
    obtain ⟨d, rfl, hdd⟩ := e_of (N + 1 + j) (show N + 1 + j + 1 ≤ d by omega)
    refine e_X2_readRank _ _ (v_X2_readRank_0 _ _ ?_)
    rw [zw_of (a := 5 - ((j + 1 : Nat) : Int)) (by omega) (by omega), show 5 - ((j + 1 : Nat) : Int) + 1 = 5 - (j : Int) by omega]
    refine ⟨fun _ => ih d hdd h D M _ c1 c2 c3 ⟨fun e M2 f2 c4 c5 => ?_, fun fl e M2 f2 c4 => ?_⟩, fun z => absurd (by omega) z⟩
    · obtain ⟨s1, s2, s3, s4, s5⟩ := (hs h c3).1 e
      rw [rkD_n e] at hP
      rw [show 5 - ((j + 1 : Nat) : Int) = 4 - (j : Int) by omega]
      refine l_X2_rank (by omega) t T (4 - (j : Int)) (by omega) o (rkD t T O j) ?_ hs M D h c2 t _ _ M2 0 (by omega) s1 s2 s4 f2 c4 c5 (by omega) hP
      rw [show 4 - (j : Int) + 1 = 5 - (j : Int) by omega]
      exact ih d hdd
    · rw [rkD_f e] at hP
      exact l_X2_rankX (by omega) t fl T _ (by omega) o _ M2 c4 (hP.2 fl rfl M2 f2 c4)
