theorem c_X8_opens {d : Nat} {M : zM} {Q : Int → zM → Prop} (hd : 2 ≤ d) (t : Nat) (T : Nat → Int) (h L m : Nat) (c1 : RS M t T h L m) (hm : m ≤ 6) (hh : h ≤ t) (h0 : m = 0 → ∀ M2 : zM, FrY L M M2 → RX M2 t T h L L → Q 0 M2) (h1 : ∀ m2, m = m2 + 1 → ∀ M2 : zM, FrY L M M2 → RS M2 t T (h + 1) L m2 → Q 1 M2) : Ev d mX8_opens [.ref 1280] M Q := by
  obtain ⟨d, rfl, hdd⟩ := e_of 1 hd; replace hd := hdd
  have t2 := c1.1.2.1
  refine e_X8_opens (v_X8_opens_0 ?_)
  rw [c1.2.2.2.1]
  refine ⟨fun q => c_X8_faulty hd h c1.2.2.1 c1.2.1 (fun M2 e _ => ?_), fun q => ?_⟩
  · subst e
    exact h0 (by omega) _ (FrY_z L M 21 _ (by omega)) (RX_of c1 (by omega))
  · obtain ⟨m2, rfl⟩ : ∃ m2, m = m2 + 1 := ⟨m - 1, by omega⟩
    rintro _ rfl _ rfl
    rw [zg_zsj _ _ _ _ (by omega), c1.2.1]
    have fr : FrY L M (zs (zs M 1280 22 (6 - ((m2 + 1 : Nat) : Int) + 1)) 1280 20 ((h : Int) + 1)) := FrY_tr (FrY_z L M 22 _ (by omega)) (FrY_z L _ 20 _ (by omega))
    refine h1 m2 rfl _ fr ⟨TPr_fr fr c1.1, by rw [zg_zs1, zw_of (by omega) (by omega)]; omega, by rw [zg_zsj _ _ _ _ (by omega), zg_zsj _ _ _ _ (by omega)]; exact c1.2.2.1, ?_, by rw [zg_zsj _ _ _ _ (by omega), zg_zsj _ _ _ _ (by omega)]; exact c1.2.2.2.2⟩
    rw [zg_zsj _ _ _ _ (by omega), zg_zs1, zw_of (by omega) (by omega)]; omega
theorem RS_22 {M : zM} {t h L m : Nat} {T : Nat → Int} (c : RS M t T h L m) (hm : m ≤ 6) : RS (zs M 1280 22 (zg M 1280 22 - 1)) t T h L (m + 1) := ⟨TPr_fr (FrY_z 0 M 22 _ (by omega)) c.1, by rw [zg_zsj _ _ _ _ (by omega)]; exact c.2.1, by rw [zg_zsj _ _ _ _ (by omega)]; exact c.2.2.1, by rw [zg_zs1, c.2.2.2.1, zw_of (by omega) (by omega)]; omega, by rw [zg_zsj _ _ _ _ (by omega)]; exact c.2.2.2.2⟩
theorem RX_22 {M : zM} {t f A B : Nat} {T : Nat → Int} (v : Int) (c : RX M t T f A B) : RX (zs M 1280 22 v) t T f A B := ⟨TPr_fr (FrY_z 0 M 22 _ (by omega)) c.1, by rw [zg_zsj _ _ _ _ (by omega)]; exact c.2.1, by rw [zg_zsj _ _ _ _ (by omega)]; exact c.2.2.1, by rw [zg_zsj _ _ _ _ (by omega)]; exact c.2.2.2.1, by rw [zg_zsj _ _ _ _ (by omega)]; exact c.2.2.2.2⟩
theorem opF_b {t : Nat} {T : Nat → Int} {m h : Nat} (e : opL t T h = none) (q1 : ¬ (nbT t T h = 33 ∨ nbT t T h = 45)) (q2 : ¬ nbT t T h = 40) : opF t T m h = (h, [], some h) := by
  match m with
  | 0 => exact opF_0 e
  | m + 1 => rw [opF_s e, if_neg q1, if_neg q2]
theorem rp_ok {t : Nat} {T : Nat → Int} : ∀ m : Nat, m ≤ 6 → ∀ d : Nat, 8 * m + 5 ≤ d → ImR t T d mX8_operand m (opF t T m) := by
  intro m
  induction m with
  | zero =>
    intro hm d hd h L M Q c1 c2 c3 hP
    obtain ⟨d, rfl, hdd⟩ := e_of 4 (show 4 + 1 ≤ d by omega)
    have t2 := c1.1.2.1
    have bb := nbr_bd c1.1 h
    have zb := zlet_bd (nbT t T h)
    have bad : opL t T h = none → ∀ M2 : zM, FrY L M M2 → RX M2 t T h L (L + 1) → Q 0 M2 := by
      intro e M2 f x
      rw [opF_0 e] at hP
      obtain ⟨x1, x2, x3, x4, x5⟩ := x
      exact hP.2 h rfl M2 f ⟨x1, x2, x3, x4, by omega⟩
    have ops : opL t T h = none → Ev d mX8_opens [.ref 1280] M (fun r1 M2 => r1 = 0 ∧ Q 0 M2) := fun e => c_X8_opens (by omega) t T h L 0 c1 (by omega) c3 (fun _ M2 f x => ⟨rfl, bad e M2 f ⟨x.1, x.2.1, x.2.2.1, x.2.2.2.1, by have := x.2.2.2.2; omega⟩⟩) (fun m2 z => absurd z (by omega))
    have op46 : opL t T h = none → ∀ v : Int, wp (Ev d) 8 cX8_operand none Q 46 [some (.ref 1280), some (zI v)] [] M := by
      intro e v
      refine v_X8_operand_46 _ (c_X8_opens (by omega) t T h L 0 c1 (by omega) c3 (fun _ M2 f x => ⟨fun _ => bad e M2 f ⟨x.1, x.2.1, x.2.2.1, x.2.2.2.1, by have := x.2.2.2.2; omega⟩, fun z => absurd (by decide) z⟩) (fun m2 z => absurd z (by omega)))
    refine e_X8_operand (v_X8_operand_0 (c_X8_look (by omega) t T h c1.1 c1.2.1 (c_X8_nameOf (by omega) _ (rb_w bb.1 bb.2) ?_)))
    rw [rb_let bb.1 bb.2, zw_of (a := zlet (nbT t T h)) (by omega) (by omega), rb_w bb.1 bb.2, rb_eq bb.1 bb.2 (s := 33) (by omega) (by omega), rb_eq bb.1 bb.2 (s := 45) (by omega) (by omega), rb_eq bb.1 bb.2 (s := 40) (by omega) (by omega)]
    refine ⟨fun q2 => ⟨fun q3 => op46 (opL_n (by rw [dg_i]; omega) (by omega)) _, fun q3 => ⟨fun q4 => op46 (opL_n (by rw [dg_i]; omega) (by omega)) _, fun q4 => ⟨fun q5 => ?_, fun q5 => c_X8_figure (by omega) t T h L 0 c1 c2 c3 (fun g M2 f x => bad (opL_n g (by omega)) M2 f x) (fun R g e => by rw [opF_l e] at hP; exact hP)⟩⟩⟩, fun q2 => ?_⟩
    · have e := opL_n (t := t) (T := T) (h := h) (by rw [dg_i]; omega) (by omega)
      exact c_X8_opens (by omega) t T h L 0 c1 (by omega) c3 (fun _ M2 f x => ⟨fun _ => bad e M2 f ⟨x.1, x.2.1, x.2.2.1, x.2.2.2.1, by have := x.2.2.2.2; omega⟩, fun z => absurd (by decide) z⟩) (fun m2 z => absurd z (by omega))
    · have p := zlet_p (show 0 ≤ zlet (nbT t T h) by omega)
      have e := opL_l (t := t) (T := T) (h := h) (by rw [dg_i]; omega) (by omega)
      have q3 := nb_t (show nbT t T h ≠ -1 by omega)
      rw [opF_l e] at hP
      refine c_X8_nameOf (by omega) _ (rb_w bb.1 bb.2) ?_
      rw [rb_let bb.1 bb.2]
      refine c_X8_addStep (by omega) 2 _ (by omega) (by omega) (zw_of (by omega) (by omega)) L c1.2.2.2.2 (by omega) (fun M2 e1 e2 e3 e4 e5 => ?_)
      rintro _ rfl
      have f3 : FrY L M M2 := ⟨fun i j b1 b2 => e1 i j (by omega) (by omega), e2⟩
      have c4 : RS M2 t T h (L + 1) 0 := ⟨TPr_fr f3 c1.1, by rw [e1 _ _ (by omega) (by omega)]; exact c1.2.1, by rw [e1 _ _ (by omega) (by omega)]; exact c1.2.2.1, by rw [e1 _ _ (by omega) (by omega)]; exact c1.2.2.2.1, e3⟩
      rw [c4.2.1]
      refine hP.1 rfl _ (FrY_tr f3 (FrY_z L M2 20 _ (by omega))) (RS_p c4 (by omega)) ⟨⟨?_, ?_⟩, trivial⟩
      · rw [zg_zsi _ _ _ _ (by omega), e4]; unfold tk1; rw [if_neg (by omega), if_pos (by omega)]
      · rw [zg_zsi _ _ _ _ (by omega), e5]; unfold tk2; rw [if_neg (by omega), if_pos (by omega)]; omega
  | succ m ih =>
    intro hm d hd h L M Q c1 c2 c3 hP
    obtain ⟨d, rfl, hdd⟩ := e_of (8 * m + 12) (show 8 * m + 12 + 1 ≤ d by omega)
    have hs := fun h hh => Sok_opF (t := t) (T := T) m h hh
    have t2 := c1.1.2.1
    have bb := nbr_bd c1.1 h
    have zb := zlet_bd (nbT t T h)
    have op46 : (nbT t T h = 33 ∨ nbT t T h = 45) → opL t T h = none → wp (Ev d) 8 cX8_operand none Q 46 [some (.ref 1280), some (zI (rbC (nbT t T h)))] [] M := by
      intro q e
      rw [opF_s e, if_pos q] at hP
      have q3 := nb_t (show nbT t T h ≠ -1 by omega)
      refine v_X8_operand_46 _ (c_X8_opens (by omega) t T h L (m + 1) c1 hm c3 (fun z => absurd z (by omega)) (fun m2 em M2 f c4 => ⟨fun z => absurd z (by decide), fun _ => ?_⟩))
      have em2 : m2 = m := by omega
      subst em2
      have s := hs (h + 1) (by omega)
      refine ih (by omega) d (by omega) (h + 1) L M2 _ c4 (by omega) (by omega) ⟨fun e2 M3 f3 c5 c6 => ?_, fun fl e2 M3 f3 c5 => ?_⟩
      · obtain ⟨s1, s2, s3, s4, s5⟩ := s.1 e2
        rw [unR_n e2] at hP
        rintro _ rfl
        have c7 := RS_22 c5 (by omega)
        have f4 := FrY_z L M3 22 (zg M3 1280 22 - 1) (by omega)
        have go : ∀ (v : Int) (c : Int), 0 ≤ v → v < 128 → c = (if nbT t T h = 45 then -126 else -33) → v = tk1 c → wp (Ev d) 8 cX8_operand none Q 80 [none, none] [zI v, .ref 1280] (zs M3 1280 22 (zg M3 1280 22 - 1)) := by
          intro v c v0 v1 hc hv
          refine v_X8_operand_80 _ (c_X8_addStep (by omega) v 0 v0 v1 (by decide) (L + (opF t T m2 (h + 1)).2.1.length) c7.2.2.2.2 (by omega) (fun M5 e1 e3 e4 e5 e6 => ?_))
          have f5 : FrY L (zs M3 1280 22 (zg M3 1280 22 - 1)) M5 := ⟨fun i j b1 b2 => e1 i j (by omega) (by omega), e3⟩
          refine hP.1 rfl M5 (FrY_tr f (FrY_tr f3 (FrY_tr f4 f5))) ⟨TPr_fr f5 c7.1, by rw [e1 _ _ (by omega) (by omega)]; exact c7.2.1, by rw [e1 _ _ (by omega) (by omega)]; exact c7.2.2.1, by rw [e1 _ _ (by omega) (by omega)]; exact c7.2.2.2.1, by rw [e4]; simp; omega⟩ ?_
          rw [← hc, StpA_app]
          refine ⟨StpA_f2 _ _ (fun i j b1 b2 b3 => ?_) c6, ⟨?_, ?_⟩, trivial⟩
          · rw [e1 _ _ (by omega) (by omega), zg_zsi _ _ _ _ (by omega)]
          · rw [show 130 + L + (opF t T m2 (h + 1)).2.1.length = 130 + (L + (opF t T m2 (h + 1)).2.1.length) by omega, e5, hv]
          · rw [show 130 + L + (opF t T m2 (h + 1)).2.1.length = 130 + (L + (opF t T m2 (h + 1)).2.1.length) by omega, e6]
            rw [hc]; split <;> decide
        rw [rb_w bb.1 bb.2, rb_eq bb.1 bb.2 (s := 33) (by omega) (by omega)]
        exact ⟨fun y => go 3 (-33) (by omega) (by omega) (by rw [if_neg (by omega)]) (by decide), fun y => go 4 (-126) (by omega) (by omega) (by rw [if_pos (by omega)]) (by decide)⟩
      · have s2 := s.2 fl e2
        rw [unR_f e2] at hP
        rintro _ rfl
        have c7 := RX_22 (zg M3 1280 22 - 1) c5
        have f4 := FrY_z L M3 22 (zg M3 1280 22 - 1) (by omega)
        obtain ⟨x1, x2, x3, x4, x5⟩ := id c7
        obtain ⟨LL, hLL⟩ : ∃ LL : Nat, zg (zs M3 1280 22 (zg M3 1280 22 - 1)) 1280 23 = (LL : Int) := ⟨(zg (zs M3 1280 22 (zg M3 1280 22 - 1)) 1280 23).toNat, by omega⟩
        have go : ∀ (v : Int), 0 ≤ v → v < 128 → wp (Ev d) 8 cX8_operand none Q 80 [none, none] [zI v, .ref 1280] (zs M3 1280 22 (zg M3 1280 22 - 1)) := by
          intro v v0 v1
          refine v_X8_operand_80 _ (c_X8_addStep (by omega) v 0 v0 v1 (by decide) LL hLL (by omega) (fun M5 e1 e3 e4 e5 e6 => ?_))
          have f5 : FrY L (zs M3 1280 22 (zg M3 1280 22 - 1)) M5 := ⟨fun i j b1 b2 => e1 i j (by omega) (by omega), e3⟩
          exact hP.2 fl rfl M5 (FrY_tr f (FrY_tr f3 (FrY_tr f4 f5))) ⟨TPr_fr f5 x1, by rw [e1 _ _ (by omega) (by omega)]; exact x2, by rw [e1 _ _ (by omega) (by omega)]; exact x3, by rw [e4]; omega, by rw [e4]; omega⟩
        exact ⟨fun _ => go 3 (by omega) (by omega), fun _ => go 4 (by omega) (by omega)⟩
    refine e_X8_operand (v_X8_operand_0 (c_X8_look (by omega) t T h c1.1 c1.2.1 (c_X8_nameOf (by omega) _ (rb_w bb.1 bb.2) ?_)))
    rw [rb_let bb.1 bb.2, zw_of (a := zlet (nbT t T h)) (by omega) (by omega), rb_w bb.1 bb.2, rb_eq bb.1 bb.2 (s := 33) (by omega) (by omega), rb_eq bb.1 bb.2 (s := 45) (by omega) (by omega), rb_eq bb.1 bb.2 (s := 40) (by omega) (by omega)]
    refine ⟨fun q2 => ⟨fun q3 => op46 (by omega) (opL_n (by rw [dg_i]; omega) (by omega)), fun q3 => ⟨fun q4 => op46 (by omega) (opL_n (by rw [dg_i]; omega) (by omega)), fun q4 => ⟨fun q5 => ?_, fun q5 => c_X8_figure (by omega) t T h L (m + 1) c1 c2 c3 (fun g M2 f x => ?_) (fun R g e => by rw [opF_l e] at hP; exact hP)⟩⟩⟩, fun q2 => ?_⟩
    · have e := opL_n (t := t) (T := T) (h := h) (by rw [dg_i]; omega) (by omega)
      rw [opF_s e, if_neg (by omega), if_pos q5] at hP
      have q6 := nb_t (show nbT t T h ≠ -1 by omega)
      refine c_X8_opens (by omega) t T h L (m + 1) c1 hm c3 (fun z => absurd z (by omega)) (fun m2 em M2 f c4 => ⟨fun z => absurd z (by decide), fun _ => ?_⟩)
      have em2 : m2 = m := by omega
      subst em2
      have s := Sok_rkD (T := T) hs 5 (by omega) (h + 1) (by omega)
      refine im_ei (N := 8 * m2 + 5) (by omega) (ih (by omega)) hs d (by omega) (h + 1) L M2 _ c4 (by omega) (by omega) ⟨fun e2 M3 f3 c5 c6 => ?_, fun fl e2 M3 f3 c5 => ?_⟩
      · obtain ⟨s1, s2, s3, s4, s5⟩ := s.1 e2
        have b2 := nbr_bd c5.1 (rkD t T (opF t T m2) 5 (h + 1)).1
        rw [c5.2.2.1]
        refine ⟨fun _ => c_X8_look (by omega) t T _ c5.1 c5.2.1 ?_, fun z => absurd (by omega) z⟩
        rw [rb_w b2.1 b2.2, rb_eq b2.1 b2.2 (s := 41) (by omega) (by omega)]
        refine ⟨fun y => ?_, fun y => c_X8_faulty (by omega) _ c5.2.2.1 c5.2.1 (fun M4 e4 _ => ?_)⟩
        · rw [prR_c e2 y] at hP
          rintro _ rfl _ rfl
          rw [c5.2.1]
          have c7 := RS_22 (RS_p c5 (by omega)) (by omega)
          refine hP.1 rfl _ (FrY_tr f (FrY_tr f3 (FrY_tr (FrY_z L M3 20 _ (by omega)) (FrY_z L _ 22 _ (by omega))))) c7 (StpA_f2 _ _ (fun i j b1 _ _ => ?_) c6)
          rw [zg_zsi _ _ _ _ (by omega), zg_zsi _ _ _ _ (by omega)]
        · subst e4
          rw [prR_o e2 y] at hP
          have x := RX_of c5 (by omega)
          exact hP.2 _ rfl _ (FrY_tr f (FrY_tr f3 (FrY_z L M3 21 _ (by omega)))) ⟨x.1, x.2.1, x.2.2.1, by have := x.2.2.2.1; omega, by have := x.2.2.2.2; omega⟩
      · have s2 := s.2 fl e2
        rw [prR_f e2] at hP
        dsimp only
        rw [c5.2.2.1]
        refine ⟨fun z => absurd z (by omega), fun _ => hP.2 fl rfl M3 (FrY_tr f f3) ⟨c5.1, c5.2.1, c5.2.2.1, c5.2.2.2.1, by have := c5.2.2.2.2; omega⟩⟩
    · rw [opF_b (opL_n g (by omega)) (by omega) (by omega)] at hP
      exact hP.2 h rfl M2 f ⟨x.1, x.2.1, x.2.2.1, x.2.2.2.1, by have := x.2.2.2.2; omega⟩
    · have p := zlet_p (show 0 ≤ zlet (nbT t T h) by omega)
      have e := opL_l (t := t) (T := T) (h := h) (by rw [dg_i]; omega) (by omega)
      have q3 := nb_t (show nbT t T h ≠ -1 by omega)
      rw [opF_l e] at hP
      refine c_X8_nameOf (by omega) _ (rb_w bb.1 bb.2) ?_
      rw [rb_let bb.1 bb.2]
      refine c_X8_addStep (by omega) 2 _ (by omega) (by omega) (zw_of (by omega) (by omega)) L c1.2.2.2.2 (by omega) (fun M2 e1 e2 e3 e4 e5 => ?_)
      rintro _ rfl
      have f3 : FrY L M M2 := ⟨fun i j b1 b2 => e1 i j (by omega) (by omega), e2⟩
      have c4 : RS M2 t T h (L + 1) (m + 1) := ⟨TPr_fr f3 c1.1, by rw [e1 _ _ (by omega) (by omega)]; exact c1.2.1, by rw [e1 _ _ (by omega) (by omega)]; exact c1.2.2.1, by rw [e1 _ _ (by omega) (by omega)]; exact c1.2.2.2.1, e3⟩
      rw [c4.2.1]
      refine hP.1 rfl _ (FrY_tr f3 (FrY_z L M2 20 _ (by omega))) (RS_p c4 (by omega)) ⟨⟨?_, ?_⟩, trivial⟩
      · rw [zg_zsi _ _ _ _ (by omega), e4]; unfold tk1; rw [if_neg (by omega), if_pos (by omega)]
      · rw [zg_zsi _ _ _ _ (by omega), e5]; unfold tk2; rw [if_neg (by omega), if_pos (by omega)]; omega
theorem er_ok {t : Nat} {T : Nat → Int} {d : Nat} (hd : 58 ≤ d) : ImR t T d mX8_either 6 (eiS t T) := im_ei (N := 53) (by omega) (fun d hd => rp_ok (t := t) (T := T) 6 (by omega) d (by omega)) (fun h hh => Sok_opF 6 h hh) d (by omega)
