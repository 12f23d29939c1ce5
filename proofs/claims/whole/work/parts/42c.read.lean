theorem c_X2_letterOf {d : Nat} {M : zM} {Q : Int → zM → Prop} (hd : 13 ≤ d) (c : Int) (hc : zw c = c) (h5 : c ≤ 255) (h : Q (zlet c) M) : Ev d mX2_letterOf [zI c] M Q := by
  obtain ⟨d, rfl, hdd⟩ := e_of 12 hd
  refine ⟨kX2_letterOf, Nat.le_of_ble_eq_true rfl, ?_⟩
  rw [if_pos (show mX2_letterOf.2.2.2.2.2.2.2 = true from rfl)]
  exact ⟨rfl, hdd, c, rfl, by rw [hc]; exact h5, by rw [hc]; exact h⟩
theorem l_X2_num {d : Nat} {Q : Int → zM → Prop} (hd : 1 ≤ d) (t : Nat) (T : Nat → Int) (D : Nat) (hD : D < 120) (M0 : zM) : ∀ (f h : Nat) (v : Int) (k : Nat) (M : zM), k + f = 4 → h ≤ t → FrD D M0 M → CS M t T h D → (0 ≤ (nmF t T f h v).2 ∧ (nmF t T f h v).2 < 10000) → (∀ M2 : zM, FrD D M0 M2 → CS M2 t T (nmF t T f h v).1 (D + 1) → zg M2 131 D = (nmF t T f h v).2 → Q 0 M2) → wp (Ev d) 2 cX2_readNumber none Q 4 [some (.ref 128), some (zI v), some (zI (k : Int))] [] M
  | 0, h, v, k, M, e, hh, fr, c1, b, K => by
    refine v_X2_readNumber_4 _ _ ?_
    rw [zw_n (a := k) (by omega)]
    refine ⟨fun z => absurd z (by omega), fun _ => v_X2_readNumber_48 _ ?_⟩
    have b2 : 0 ≤ v ∧ v < 10000 := b
    refine c_X2_draftCode hd _ (zw_of (by omega) (by omega)) D c1.2.2.2 hD (fun M2 e1 e2 e3 e4 => K M2 (FrD_tr fr ⟨fun i j a1 a2 => e1 i j (by omega) (by omega), e2⟩) ?_ e4)
    have f3 : FrD D M M2 := ⟨fun i j a1 a2 => e1 i j (by omega) (by omega), e2⟩
    exact ⟨TPc_fr f3 c1.1, by rw [e1 _ _ (by omega) (by omega)]; exact c1.2.1, by rw [e1 _ _ (by omega) (by omega)]; exact c1.2.2.1, e3⟩
  | f + 1, h, v, k, M, e, hh, fr, c1, b, K => by
    have t2 := c1.1.2.1
    refine v_X2_readNumber_4 _ _ ?_
    rw [zw_n (a := k) (by omega)]
    refine ⟨fun _ => c_X2_nextByte hd t T h c1.1 c1.2.1 (c_X2_isDigit hd _ (nb_w c1.1 h) (bz_br (fun q => v_X2_readNumber_48 _ ?_) (fun q => c_X2_nextByte hd t T h c1.1 c1.2.1 ?_))), fun z => absurd (by omega) z⟩
    · rw [nmF, if_neg q] at b K
      have b2 : 0 ≤ v ∧ v < 10000 := b
      refine c_X2_draftCode hd _ (zw_of (by omega) (by omega)) D c1.2.2.2 hD (fun M2 e1 e2 e3 e4 => K M2 (FrD_tr fr ⟨fun i j a1 a2 => e1 i j (by omega) (by omega), e2⟩) ?_ e4)
      have f3 : FrD D M M2 := ⟨fun i j a1 a2 => e1 i j (by omega) (by omega), e2⟩
      exact ⟨TPc_fr f3 c1.1, by rw [e1 _ _ (by omega) (by omega)]; exact c1.2.1, by rw [e1 _ _ (by omega) (by omega)]; exact c1.2.2.1, e3⟩
    · rintro _ rfl
      rw [nmF, if_pos q] at b K
      have q2 := dg_i.mp q
      have q3 := nb_t (show nbT t T h ≠ -1 by omega)
      rw [c1.2.1, show (k : Int) + 1 = ((k + 1 : Nat) : Int) by omega]
      have f4 := FrD_4 D M ((h : Int) + 1)
      exact l_X2_num hd t T D hD M0 f (h + 1) _ (k + 1) _ (by omega) (by omega) (FrD_tr fr f4) ⟨TPc_fr f4 c1.1, by rw [zg_zs1, zw_of (by omega) (by omega)]; omega, by rw [zg_zsj _ _ _ _ (by omega)]; exact c1.2.2.1, by rw [zg_zsj _ _ _ _ (by omega)]; exact c1.2.2.2⟩ b K
theorem CS_p {M : zM} {t h D : Nat} {T : Nat → Int} (c : CS M t T h D) (hh : h < 1000) : CS (zs M 128 4 ((h : Int) + 1)) t T (h + 1) D := ⟨TPc_fr (FrD_4 0 M _) c.1, by rw [zg_zs1, zw_of (by omega) (by omega)]; omega, by rw [zg_zsj _ _ _ _ (by omega)]; exact c.2.2.1, by rw [zg_zsj _ _ _ _ (by omega)]; exact c.2.2.2⟩
theorem c_X2_readClosing {d : Nat} {M : zM} {Q : Int → zM → Prop} (hd : 2 ≤ d) (t : Nat) (T : Nat → Int) (h D : Nat) (c : CS M t T h D) (hh : h ≤ t) (hD : D ≤ 120) (hy : nbT t T h = 41 → ∀ M2 : zM, FrD D M M2 → CS M2 t T (h + 1) D → (∀ j, zg M2 131 j = zg M 131 j) → Q 0 M2) (hn : ¬ nbT t T h = 41 → ∀ M2 : zM, FrD 0 M M2 → CX M2 t T h → Q 0 M2) : Ev d mX2_readClosing [.ref 128] M Q := by
  obtain ⟨d, rfl, hdd⟩ := e_of 1 hd; replace hd := hdd
  have t2 := c.1.2.1
  refine e_X2_readClosing (v_X2_readClosing_0 (c_X2_nextByte hd t T h c.1 c.2.1 ?_))
  rw [nb_w c.1 h]
  refine ⟨fun q => ?_, fun q => c_X2_refuse hd t T h c.1 (by rw [c.2.2.2]; omega) (Or.inr ⟨c.2.2.1, c.2.1⟩) (fun M2 f1 f2 _ => hn q M2 f1 f2)⟩
  rintro _ rfl
  rw [c.2.1]
  exact hy q _ (FrD_4 D M _) (CS_p c (by omega)) (fun j => zg_zsi _ _ _ _ (by omega))
theorem c_X2_closeX {d : Nat} {M : zM} {Q : Int → zM → Prop} (hd : 2 ≤ d) (t : Nat) (T : Nat → Int) (f : Nat) (c : CX M t T f) (h : ∀ M2 : zM, FrD 0 M M2 → CX M2 t T f → Q 0 M2) : Ev d mX2_readClosing [.ref 128] M Q := by
  obtain ⟨d, rfl, hdd⟩ := e_of 1 hd; replace hd := hdd
  obtain ⟨c1, c2, c3⟩ := c
  refine e_X2_readClosing (v_X2_readClosing_0 ?_)
  rcases c3 with c3 | ⟨c3, c4, c5, c6⟩
  · refine c_X2_nextAny hd t T c1 (fun r => ⟨fun q => ?_, fun q => c_X2_refuse hd t T f c1 c2 (Or.inl c3) (fun M2 f1 f2 _ => h M2 f1 f2)⟩)
    rintro _ rfl
    have fr := FrD_4 0 M (zg M 128 4 + 1)
    exact h _ fr ⟨TPc_fr fr c1, by rw [zg_zsj _ _ _ _ (by omega)]; exact c2, Or.inl (by rw [zg_zsj _ _ _ _ (by omega)]; exact c3)⟩
  · refine c_X2_nextByte hd t T f c1 c4 ?_
    have e : nbT t T f = T f := by unfold nbT; rw [if_pos c5]
    have g := dg_i.mp c6
    rw [nb_w c1 f, e]
    exact ⟨fun z => absurd z (by omega), fun q => c_X2_refuse hd t T f c1 c2 (Or.inr ⟨c3, c4⟩) (fun M2 f1 f2 _ => h M2 f1 f2)⟩
theorem opL_d {t h : Nat} {T : Nat → Int} (q : dgB (nbT t T h) = true) : opL t T h = some ((nmF t T 4 h 0).1, [(nmF t T 4 h 0).2], if dgB (nbT t T (nmF t T 4 h 0).1) = true then some (nmF t T 4 h 0).1 else none) := by unfold opL; rw [if_pos q]
theorem opL_l {t h : Nat} {T : Nat → Int} (q : ¬ dgB (nbT t T h) = true) (q2 : 0 ≤ zlet (nbT t T h)) : opL t T h = some (h + 1, [-1 - zlet (nbT t T h)], none) := by unfold opL; rw [if_neg q, if_pos q2]
theorem opL_n {t h : Nat} {T : Nat → Int} (q : ¬ dgB (nbT t T h) = true) (q2 : ¬ 0 ≤ zlet (nbT t T h)) : opL t T h = none := by unfold opL; rw [if_neg q, if_neg q2]
/-- the operand's unary and opened ways -/
def opX (t : Nat) (T : Nat → Int) (d m : Nat) : Prop := ∀ (h D : Nat) (M : zM) (Q : Int → zM → Prop), CS M t T h D → D ≤ h → h ≤ t → opL t T h = none → PostC t T M D (opF t T m h) (Q 0) → ((nbT t T h = 33 ∨ nbT t T h = 45) → 0 < m → wp (Ev d) 2 cX2_readOperand none Q 67 [some (.ref 128), some (zI (6 - (m : Int))), some (zI (nbT t T h))] [] M) ∧ (¬ ((nbT t T h = 33 ∨ nbT t T h = 45) ∧ 0 < m) → wp (Ev d) 2 cX2_readOperand none Q 104 [some (.ref 128), some (zI (6 - (m : Int))), some (zI (nbT t T h))] [] M)
theorem rO_of {t : Nat} {T : Nat → Int} {m d : Nat} (hm : m ≤ 6) (hd : 13 ≤ d) (hX : opX t T d m) : ImC t T (d + 1) mX2_readOperand [.ref 128, zI (6 - (m : Int))] (opF t T m) := by
  intro h D M Q c1 c2 c3 hP
  have t2 := c1.1.2.1
  have wb := nb_w c1.1 h
  have bb := nb_bd c1.1 h
  have zb := zlet_bd (nbT t T h)
  refine e_X2_readOperand _ (v_X2_readOperand_0 _ (c_X2_nextByte (by omega) t T h c1.1 c1.2.1 (c_X2_isDigit (by omega) _ wb (bz_br (fun q => c_X2_letterOf hd _ wb (by omega) ?_) (fun q => ?_)))))
  · rw [zw_of (a := zlet (nbT t T h)) (by omega) (by omega), wb, zw_of (a := 6 - (m : Int)) (by omega) (by omega)]
    refine ⟨fun q2 => ?_, fun q2 => c_X2_letterOf hd _ wb (by omega) ?_⟩
    · have eL := opL_n q (show ¬ 0 ≤ zlet (nbT t T h) by omega)
      obtain ⟨x1, x2⟩ := hX h D M Q c1 c2 c3 eL hP
      refine ⟨fun q3 => ⟨fun q4 => x1 (Or.inl q4) (by omega), fun q4 => ⟨fun q5 => x1 (Or.inr q5) (by omega), fun q5 => x2 (by omega)⟩⟩, fun q3 => x2 (by omega)⟩
    · have eL := opL_l q (show 0 ≤ zlet (nbT t T h) by omega)
      have p := zlet_p (show 0 ≤ zlet (nbT t T h) by omega)
      have q3 := nb_t (show nbT t T h ≠ -1 by omega)
      rw [opF_l eL] at hP
      refine c_X2_draftCode (by omega) _ (zw_of (by omega) (by omega)) D c1.2.2.2 (by omega) (fun M2 e1 e2 e3 e4 => ?_)
      rintro _ rfl
      have f3 : FrD D M M2 := ⟨fun i j a1 a2 => e1 i j (by omega) (by omega), e2⟩
      have c4 : CS M2 t T h (D + 1) := ⟨TPc_fr f3 c1.1, by rw [e1 _ _ (by omega) (by omega)]; exact c1.2.1, by rw [e1 _ _ (by omega) (by omega)]; exact c1.2.2.1, e3⟩
      rw [c4.2.1]
      exact hP.1 rfl _ (FrD_tr f3 (FrD_4 D M2 _)) (CS_p c4 (by omega)) ⟨by rw [zg_zsi _ _ _ _ (by omega)]; exact e4, trivial⟩
  · obtain ⟨d2, rfl, -⟩ := e_of 12 hd
    have eL := opL_d q
    rw [opF_l eL] at hP
    have n1 := nm_1 q
    have n2 := nm_ok (t := t) (T := T) 4 h 0 1 c3 (by omega) (by omega)
    refine e_X2_readNumber (v_X2_readNumber_0 (l_X2_num (by omega) t T D (by omega) M 4 h 0 0 M (by omega) c3 (FrD_rf D M) c1 ⟨n2.2.2.1, by have := n2.2.2.2; omega⟩ (fun M2 f1 c4 c5 => ?_)))
    by_cases g : dgB (nbT t T (nmF t T 4 h 0).1) = true
    · rw [if_pos g] at hP
      have g2 := dg_i.mp g
      have g3 := nb_t (show nbT t T (nmF t T 4 h 0).1 ≠ -1 by omega)
      refine hP.2 _ rfl M2 (FrD_mo (by omega) f1) ⟨c4.1, by rw [c4.2.2.2]; omega, Or.inr ⟨c4.2.2.1, c4.2.1, g3.1, by rw [← g3.2]; exact g⟩⟩
    · rw [if_neg g] at hP
      exact hP.1 rfl M2 f1 c4 ⟨c5, trivial⟩
theorem l_X2_op141 {d : Nat} {Q : Int → zM → Prop} (hd : 1 ≤ d) {t : Nat} {T : Nat → Int} {h D : Nat} {M : zM} (c1 : CS M t T h D) (c2 : D ≤ h) (c3 : h ≤ t) (hP : PostC t T M D (h, [], some h) (Q 0)) : wp (Ev d) 2 cX2_readOperand none Q 141 [some (.ref 128), none, none] [] M := by
  have t2 := c1.1.2.1
  exact v_X2_readOperand_141 (c_X2_refuse hd t T h c1.1 (by rw [c1.2.2.2]; omega) (Or.inr ⟨c1.2.2.1, c1.2.1⟩) (fun M2 f1 f2 _ => hP.2 h rfl M2 f1 f2))
theorem rO_ok {t : Nat} {T : Nat → Int} : ∀ m : Nat, m ≤ 6 → ∀ d : Nat, 8 * m + 15 ≤ d → ImC t T d mX2_readOperand [.ref 128, zI (6 - (m : Int))] (opF t T m)
  | 0, hm, d, hd => by
    obtain ⟨d, rfl, hdd⟩ := e_of 14 (show 14 + 1 ≤ d by omega)
    refine rO_of (d := d) hm (by omega) (fun h D M Q c1 c2 c3 eL hP => ⟨fun _ z => absurd z (by omega), fun _ => v_X2_readOperand_104 _ _ ?_⟩)
    rw [opF_0 eL] at hP
    rw [zw_of (a := 6 - ((0 : Nat) : Int)) (by omega) (by omega)]
    exact ⟨fun z => absurd z (by omega), fun _ => l_X2_op141 (by omega) c1 c2 c3 hP⟩
  | m + 1, hm, d, hd => by
    obtain ⟨d, rfl, hdd⟩ := e_of (8 * m + 22) (show 8 * m + 22 + 1 ≤ d by omega)
    have ih := rO_ok (t := t) (T := T) m (by omega)
    have hs := fun h hh => Sok_opF (t := t) (T := T) m h hh
    refine rO_of (d := d) hm (by omega) (fun h D M Q c1 c2 c3 eL hP => ?_)
    have t2 := c1.1.2.1
    have wb := nb_w c1.1 h
    rw [opF_s eL] at hP
    have e6 : (6 - ((m + 1 : Nat) : Int)) + 1 = 6 - (m : Int) := by omega
    refine ⟨fun q _ => v_X2_readOperand_67 _ _ ?_, fun q => v_X2_readOperand_104 _ _ ?_⟩
    · rw [if_pos q] at hP
      have q3 := nb_t (show nbT t T h ≠ -1 by omega)
      rintro _ rfl
      rw [c1.2.1, e6, wb]
      have s := hs (h + 1) (by omega)
      refine ih d (by omega) (h + 1) D _ _ (CS_p c1 (by omega)) (by omega) (by omega) ⟨fun e M2 f2 c4 c5 => ?_, fun fl e M2 f2 c4 => ?_⟩
      · obtain ⟨s1, s2, s3, s4, s5⟩ := s.1 e
        rw [unR_n e] at hP
        have go : ∀ v : Int, zw v = v → v = (if nbT t T h = 45 then -126 else -33) → wp (Ev d) 2 cX2_readOperand none Q 98 [none, none, none] [zI v, .ref 128] M2 := by
          rintro v hv1 hv2
          refine v_X2_readOperand_98 _ (c_X2_draftCode (by omega) _ hv1 (D + (opF t T m (h + 1)).2.1.length) c4.2.2.2 (by omega) (fun M3 e1 e2 e3 e4 => ?_))
          have f3 : FrD D M2 M3 := ⟨fun i j b1 b2 => e1 i j (by omega) (by omega), e2⟩
          refine hP.1 rfl M3 (FrD_tr (FrD_4 D M _) (FrD_tr f2 f3)) ⟨TPc_fr f3 c4.1, by rw [e1 _ _ (by omega) (by omega)]; exact c4.2.1, by rw [e1 _ _ (by omega) (by omega)]; exact c4.2.2.1, by rw [e3]; simp; omega⟩ ?_
          rw [CdA_app]
          exact ⟨CdA_fr _ _ (fun j b1 b2 => e1 _ _ (by omega) (by omega)) c5, by rw [e4, hv2], trivial⟩
        refine ⟨fun y => go _ (by decide) (by rw [if_pos y]), fun y => go _ (zw_of (by omega) (by omega)) (by rw [if_neg y]; omega)⟩
      · rw [unR_f e] at hP
        have go : ∀ v : Int, wp (Ev d) 2 cX2_readOperand none Q 98 [none, none, none] [zI v, .ref 128] M2 := by
          intro v
          refine v_X2_readOperand_98 _ (c_X2_draftAny (by omega) _ c4.2.1 (fun M3 e1 e2 e3 => ?_))
          exact hP.2 fl rfl M3 (FrD_tr (FrD_4 0 M _) (FrD_tr f2 (FrD_dr e1 e2))) (CX_dr c4 e1 e3)
        exact ⟨fun _ => go _, fun _ => go _⟩
    · rw [if_neg (fun z => q ⟨z, by omega⟩)] at hP
      rw [zw_of (a := 6 - ((m + 1 : Nat) : Int)) (by omega) (by omega), wb]
      refine ⟨fun _ => ⟨fun q2 => ?_, fun q2 => ?_⟩, fun z => absurd (by omega) z⟩
      · rw [if_pos q2] at hP
        have q3 := nb_t (show nbT t T h ≠ -1 by omega)
        rintro _ rfl
        rw [c1.2.1, e6]
        have s := Sok_rkD (T := T) hs 5 (by omega) (h + 1) (by omega)
        refine rR_ok (N := 8 * m + 15) (by omega) ih hs 5 (by omega) d (by omega) (h + 1) D _ _ (CS_p c1 (by omega)) (by omega) (by omega) ⟨fun e M2 f2 c4 c5 => ?_, fun fl e M2 f2 c4 => ?_⟩
        · obtain ⟨s1, s2, s3, s4, s5⟩ := s.1 e
          refine c_X2_readClosing (by omega) t T _ _ c4 s2 (by omega) (fun y M3 f3 c6 k3 => ?_) (fun y M3 f3 c6 => ?_)
          · rw [prR_c e y] at hP
            exact hP.1 rfl M3 (FrD_tr (FrD_4 D M _) (FrD_tr f2 (FrD_mo (by omega) f3))) c6 (CdA_fr _ _ (fun j _ _ => k3 j) c5)
          · rw [prR_o e y] at hP
            exact hP.2 _ rfl M3 (FrD_tr (FrD_4 0 M _) (FrD_tr (FrD_mo (by omega) f2) f3)) c6
        · rw [prR_f e] at hP
          exact c_X2_closeX (by omega) t T fl c4 (fun M3 f3 c6 => hP.2 fl rfl M3 (FrD_tr (FrD_4 0 M _) (FrD_tr f2 f3)) c6)
      · rw [if_neg q2] at hP
        exact l_X2_op141 (by omega) c1 c2 c3 hP
theorem ei_ok {t : Nat} {T : Nat → Int} {d : Nat} (hd : 70 ≤ d) : ImC t T d mX2_readRank [.ref 128, zI 0, zI 0] (eiS t T) := by
  have := rR_ok (N := 63) (by omega) (fun d hd => rO_ok (t := t) (T := T) 6 (by omega) d (by omega)) (fun h hh => Sok_opF 6 h hh) 5 (by omega) d (by omega)
  exact this
