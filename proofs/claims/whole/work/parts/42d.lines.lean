/-! lines, the tape -/
def PostL (t : Nat) (T : Nat → Int) (M : zM) (D : Nat) (R : zRl) (K : zM → Prop) : Prop := (R.2.2 = none → ∀ M2 : zM, FrD D M M2 → CS M2 t T R.1 (D + (lwC R.2.1).length) → CdA M2 131 D (lwC R.2.1) → K M2) ∧ (∀ f, R.2.2 = some f → ∀ M2 : zM, FrD 0 M M2 → CX M2 t T f → K M2)
theorem c_X2_draftSign {d : Nat} {M : zM} {Q : Int → zM → Prop} (hd : 2 ≤ d) (t : Nat) (T : Nat → Int) (h D : Nat) (c : CS M t T h D) (hD : D ≤ h) (hh : h < t) (hq : ∀ M2 : zM, FrD D M M2 → CS M2 t T (h + 1) (D + 1) → zg M2 131 D = -(nbT t T h) → Q 0 M2) : Ev d mX2_draftSign [.ref 128] M Q := by
  obtain ⟨d, rfl, hdd⟩ := e_of 1 hd; replace hd := hdd
  have t2 := c.1.2.1
  have bb := nb_bd c.1 h
  refine e_X2_draftSign (v_X2_draftSign_0 (c_X2_nextByte hd t T h c.1 c.2.1 (c_X2_draftCode hd _ (zw_of (by omega) (by omega)) D c.2.2.2 (by omega) (fun M2 e1 e2 e3 e4 => ?_))))
  rintro _ rfl
  have f3 : FrD D M M2 := ⟨fun i j a1 a2 => e1 i j (by omega) (by omega), e2⟩
  have c4 : CS M2 t T h (D + 1) := ⟨TPc_fr f3 c.1, by rw [e1 _ _ (by omega) (by omega)]; exact c.2.1, by rw [e1 _ _ (by omega) (by omega)]; exact c.2.2.1, e3⟩
  rw [c4.2.1]
  exact hq _ (FrD_tr f3 (FrD_4 D M2 _)) (CS_p c4 (by omega)) (by rw [zg_zsi _ _ _ _ (by omega)]; exact e4)
theorem c_X2_readLine {d : Nat} {M : zM} {Q : Int → zM → Prop} (hd : 71 ≤ d) (t : Nat) (T : Nat → Int) (h D : Nat) (c : CS M t T h D) (hD : D ≤ h) (hh : h ≤ t) (hP : PostL t T M D (liS t T h) (Q 0)) : Ev d mX2_readLine [.ref 128] M Q := by
  obtain ⟨d, rfl, hdd⟩ := e_of 70 hd; replace hd := hdd
  have t2 := c.1.2.1
  have s := Sok_ei (T := T) hh
  refine e_X2_readLine (v_X2_readLine_0 (ei_ok (t := t) (T := T) hd h D M _ c hD hh ⟨fun e M2 f2 c4 c5 => ?_, fun fl e M2 f2 c4 => ?_⟩))
  · obtain ⟨s1, s2, s3, s4, s5⟩ := s.1 e
    refine ⟨fun _ => c_X2_nextByte (by omega) t T _ c4.1 c4.2.1 ?_, fun z => absurd c4.2.2.1 z⟩
    rw [nb_w c4.1 _]
    refine ⟨fun q => ?_, fun q => ?_⟩
    · have q3 := nb_t (show nbT t T (eiS t T h).1 ≠ -1 by omega)
      refine c_X2_draftSign (by omega) t T _ _ c4 (by omega) q3.1 (fun M3 f3 c6 e6 => ?_)
      have u := Sok_ei (t := t) (T := T) (h := (eiS t T h).1 + 1) (by omega)
      refine ei_ok (t := t) (T := T) hd _ _ M3 _ c6 (by omega) (by omega) ⟨fun e2 M4 f4 c7 c8 => ?_, fun fl e2 M4 f4 c7 => ?_⟩
      · obtain ⟨u1, u2, u3, u4, u5⟩ := u.1 e2
        rw [liS_t e q e2] at hP
        have lc : lwC (some (eiS t T h).2.1, (eiS t T ((eiS t T h).1 + 1)).2.1) = (eiS t T h).2.1 ++ (-63) :: (eiS t T ((eiS t T h).1 + 1)).2.1 := rfl
        refine hP.1 rfl M4 (FrD_tr f2 (FrD_tr (FrD_mo (by omega) f3) (FrD_mo (by omega) f4))) ?_ ?_
        · show CS M4 t T (eiS t T ((eiS t T h).1 + 1)).1 (D + (lwC (some (eiS t T h).2.1, (eiS t T ((eiS t T h).1 + 1)).2.1)).length)
          rw [lc, List.length_append, List.length_cons, show D + ((eiS t T h).2.1.length + ((eiS t T ((eiS t T h).1 + 1)).2.1.length + 1)) = D + (eiS t T h).2.1.length + 1 + (eiS t T ((eiS t T h).1 + 1)).2.1.length by omega]
          exact c7
        · show CdA M4 131 D (lwC (some (eiS t T h).2.1, (eiS t T ((eiS t T h).1 + 1)).2.1))
          rw [lc, CdA_app]
          refine ⟨CdA_fr _ _ (fun j b1 b2 => ?_) c5, ?_, ?_⟩
          · rw [f4.1 _ _ (by omega) (by omega), f3.1 _ _ (by omega) (by omega)]
          · rw [f4.1 _ _ (by omega) (by omega), e6, q]
          · rw [show D + (eiS t T h).2.1.length + 1 = D + (eiS t T h).2.1.length + 1 by rfl]; exact c8
      · rw [liS_tf e q e2] at hP
        exact hP.2 fl rfl M4 (FrD_tr (FrD_mo (by omega) f2) (FrD_tr (FrD_mo (by omega) f3) f4)) c7
    · rw [liS_n e q] at hP
      exact hP.1 rfl M2 f2 c4 c5
  · rw [liS_f e] at hP
    have hh2 := hP.2 fl rfl M2 f2 c4
    obtain ⟨g1, g2, g3⟩ := id c4
    refine ⟨fun q => ?_, fun _ => hh2⟩
    rcases g3 with g3 | ⟨g3, g4, g5, g6⟩
    · omega
    · refine c_X2_nextByte (by omega) t T fl g1 g4 ?_
      have e5 : nbT t T fl = T fl := by unfold nbT; rw [if_pos g5]
      have g := dg_i.mp g6
      rw [nb_w g1 fl, e5]
      exact ⟨fun z => absurd z (by omega), fun _ => hh2⟩
def LI (t h : Nat) (ls : List lwL) : Prop := ls ≠ [] ∧ (∀ l ∈ ls, lnOk l) ∧ (lwCs ls).length ≤ h ∧ 2 * ls.length ≤ h + 1 ∧ (∀ l ∈ ls, ∀ c ∈ lwS l, CcO c) ∧ h ≤ t
theorem lwCs_sn : ∀ (ls : List lwL) (l : lwL), ls ≠ [] → lwCs (ls ++ [l]) = lwCs ls ++ (-59) :: lwC l
  | [], _, h => absurd rfl h
  | [a], l, _ => rfl
  | a :: b :: r, l, _ => by
    have ih := lwCs_sn (b :: r) l (by simp)
    show lwC a ++ (-59) :: lwCs (b :: r ++ [l]) = (lwC a ++ (-59) :: lwCs (b :: r)) ++ (-59) :: lwC l
    rw [ih]; simp
theorem LI_sn {t h : Nat} {T : Nat → Int} {ls : List lwL} (g : LI t h ls) (hh : h < t) (e : (liS t T (h + 1)).2.2 = none) : LI t (liS t T (h + 1)).1 (ls ++ [(liS t T (h + 1)).2.1]) := by
  obtain ⟨s1, s2, s3, s4, s5⟩ := (Lok_li (T := T) (h := h + 1) (by omega)).1 e
  obtain ⟨g1, g2, g3, g4, g5, g6⟩ := g
  refine ⟨by simp, fun l hl => ?_, ?_, ?_, fun l hl => ?_, s2⟩
  · rcases List.mem_append.mp hl with hl | hl
    · exact g2 l hl
    · rw [List.mem_singleton] at hl; subst hl; exact s3
  · rw [lwCs_sn ls _ g1]; simp; omega
  · simp; omega
  · rcases List.mem_append.mp hl with hl | hl
    · exact g5 l hl
    · rw [List.mem_singleton] at hl; subst hl; exact s5
theorem LI_1 {t : Nat} {T : Nat → Int} (e : (liS t T 0).2.2 = none) : LI t (liS t T 0).1 [(liS t T 0).2.1] := by
  obtain ⟨s1, s2, s3, s4, s5⟩ := (Lok_li (t := t) (T := T) (h := 0) (by omega)).1 e
  refine ⟨by simp, fun l hl => ?_, by show (lwC (liS t T 0).2.1).length ≤ _; omega, by simp; omega, fun l hl => ?_, s2⟩
  · rw [List.mem_singleton] at hl; subst hl; exact s3
  · rw [List.mem_singleton] at hl; subst hl; exact s5
theorem LI_ls {t : Nat} {T : Nat → Int} : ∀ (x h : Nat) (ls : List lwL), LI t h ls → (lsS t T x h ls).2.2 = none → LI t (lsS t T x h ls).1 (lsS t T x h ls).2.1
  | 0, h, ls, g, _ => g
  | x + 1, h, ls, g, e => by
    by_cases q : nbT t T h = 59
    · have q3 := nb_t (show nbT t T h ≠ -1 by omega)
      cases e2 : (liS t T (h + 1)).2.2 with
      | none =>
        rw [lsS_n q e2] at e ⊢
        exact LI_ls x _ _ (LI_sn g q3.1 e2) e
      | some f =>
        rw [lsS_f q e2] at e
        cases e
    · rw [lsS_x q]; exact g
def PostT (M0 : zM) (R : List lwL × Option Nat) (K : zM → Prop) : Prop := (R.2 = none → ∀ M2 : zM, FrD 0 M0 M2 → zg M2 128 5 = -1 → zg M2 128 3 = ((lwCs R.1).length : Int) → CdA M2 131 0 (lwCs R.1) → K M2) ∧ (∀ f : Nat, R.2 = some f → ∀ M2 : zM, FrD 0 M0 M2 → zg M2 128 5 = (f : Int) → K M2)
theorem l_X2_lines43X {d : Nat} {Q : Int → zM → Prop} (hd : 1 ≤ d) (t f : Nat) (T : Nat → Int) (M : zM) (c : CX M t T f) (h : ∀ M2 : zM, FrD 0 M M2 → zg M2 128 5 = (f : Int) → Q 0 M2) : wp (Ev d) 2 cX2_readLines none Q 43 [some (.ref 128), none] [] M := by
  obtain ⟨g1, g2, g3⟩ := c
  refine v_X2_readLines_43 ?_
  rcases g3 with g3 | ⟨g3, g4, g5, g6⟩
  · exact c_X2_nextAny hd t T g1 (fun r => ⟨fun _ => h M (FrD_rf 0 M) g3, fun _ => c_X2_refuse hd t T f g1 g2 (Or.inl g3) (fun M2 f1 _ f3 => h M2 f1 f3)⟩)
  · refine c_X2_nextByte hd t T f g1 g4 ?_
    have e5 : nbT t T f = T f := by unfold nbT; rw [if_pos g5]
    have g := dg_i.mp g6
    rw [nb_w g1 f, e5]
    exact ⟨fun z => absurd z (by omega), fun _ => c_X2_refuse hd t T f g1 g2 (Or.inr ⟨g3, g4⟩) (fun M2 f1 _ f3 => h M2 f1 f3)⟩
theorem l_X2_lines6X {d : Nat} {Q : Int → zM → Prop} (hd : 1 ≤ d) (t f : Nat) (T : Nat → Int) (M : zM) (v : Int) (c : CX M t T f) (h : ∀ M2 : zM, FrD 0 M M2 → zg M2 128 5 = (f : Int) → Q 0 M2) : wp (Ev d) 2 cX2_readLines none Q 6 [some (.ref 128), some (zI v)] [] M := by
  have x := l_X2_lines43X hd t f T M c h
  obtain ⟨g1, g2, g3⟩ := c
  refine v_X2_readLines_6 _ ⟨fun _ => ⟨fun q => ?_, fun _ => x⟩, fun _ => x⟩
  rcases g3 with g3 | ⟨g3, g4, g5, g6⟩
  · omega
  · refine c_X2_nextByte hd t T f g1 g4 ?_
    have e5 : nbT t T f = T f := by unfold nbT; rw [if_pos g5]
    have g := dg_i.mp g6
    rw [nb_w g1 f, e5]
    exact ⟨fun z => absurd z (by omega), fun _ => x⟩
/-- what is left when no line follows -/
def tlR (t : Nat) (R : Nat × List lwL × Option Nat) : List lwL × Option Nat := match R.2.2 with | some f => ([], some f) | none => if R.1 < t then ([], some R.1) else (R.2.1, none)
theorem l_X2_lines {d : Nat} {Q : Int → zM → Prop} (hd : 71 ≤ d) (t : Nat) (T : Nat → Int) (M0 : zM) : ∀ (x h : Nat) (ls : List lwL) (M : zM) (k : Nat), t ≤ h + x → LI t h ls → FrD 0 M0 M → CS M t T h (lwCs ls).length → CdA M 131 0 (lwCs ls) → k ≤ h → PostT M0 (tlR t (lsS t T x h ls)) (Q 0) → wp (Ev d) 2 cX2_readLines none Q 6 [some (.ref 128), some (zI (k : Int))] [] M := by
  intro x
  induction x with
  | zero =>
    intro h ls M k a1 g f c1 c2 a5 hP
    obtain ⟨g1, g2, g3, g4, g5, g6⟩ := id g
    have t2 := c1.1.2.1
    have nb1 : nbT t T h = -1 := by unfold nbT; rw [if_neg (by omega)]
    have x43 : wp (Ev d) 2 cX2_readLines none Q 43 [some (.ref 128), none] [] M := by
      refine v_X2_readLines_43 (c_X2_nextByte (by omega) t T h c1.1 c1.2.1 ?_)
      rw [nb1, zq_m1]
      refine ⟨fun _ => ?_, fun z => absurd rfl z⟩
      have e : tlR t (lsS t T 0 h ls) = (ls, none) := by unfold tlR; rw [lsS]; dsimp only; rw [if_neg (by omega)]
      rw [e] at hP
      exact hP.1 rfl M f c1.2.2.1 c1.2.2.2 c2
    refine v_X2_readLines_6 _ ⟨fun _ => ⟨fun _ => c_X2_nextByte (by omega) t T h c1.1 c1.2.1 ?_, fun _ => x43⟩, fun _ => x43⟩
    rw [nb1, zq_m1]
    exact ⟨fun z => absurd z (by omega), fun _ => x43⟩
  | succ x ih =>
    intro h ls M k a1 g f c1 c2 a5 hP
    obtain ⟨g1, g2, g3, g4, g5, g6⟩ := id g
    have t2 := c1.1.2.1
    by_cases q : nbT t T h = 59
    · have q3 := nb_t (show nbT t T h ≠ -1 by omega)
      refine v_X2_readLines_6 _ ?_
      rw [zw_n (a := k) (by omega), c1.2.2.1]
      refine ⟨fun _ => ⟨fun _ => c_X2_nextByte (by omega) t T h c1.1 c1.2.1 ?_, fun z => absurd rfl z⟩, fun z => absurd (by omega) z⟩
      rw [nb_w c1.1 h]
      refine ⟨fun _ => c_X2_draftSign (by omega) t T h _ c1 g3 q3.1 (fun M2 f2 c3 e3 => ?_), fun z => absurd q z⟩
      refine c_X2_readLine hd t T (h + 1) _ c3 (by omega) (by omega) ⟨fun e M3 f3 c4 c5 => ?_, fun fl e M3 f3 c4 => ?_⟩
      · have gn := LI_sn (T := T) g q3.1 e
        rw [lsS_n q e] at hP
        rw [show (k : Int) + 1 = ((k + 1 : Nat) : Int) by omega]
        have ls1 := lwCs_sn ls (liS t T (h + 1)).2.1 g1
        have s1 := ((Lok_li (T := T) (h := h + 1) (by omega)).1 e).1
        refine ih _ _ M3 (k + 1) (by omega) gn (FrD_tr f (FrD_tr (FrD_mo (by omega) f2) (FrD_mo (by omega) f3))) ?_ ?_ (by omega) hP
        · rw [ls1, List.length_append, List.length_cons, show (lwCs ls).length + ((lwC (liS t T (h + 1)).2.1).length + 1) = (lwCs ls).length + 1 + (lwC (liS t T (h + 1)).2.1).length by omega]
          exact c4
        · rw [ls1, CdA_app]
          refine ⟨CdA_fr _ _ (fun j b1 b2 => ?_) c2, ?_, ?_⟩
          · rw [f3.1 _ _ (by omega) (by omega), f2.1 _ _ (by omega) (by omega)]
          · rw [Nat.zero_add, f3.1 _ _ (by omega) (by omega), e3, q]
          · rw [Nat.zero_add]; exact c5
      · rw [lsS_f q e] at hP
        exact l_X2_lines6X (by omega) t fl T M3 _ c4 (fun M4 f4 c5 => hP.2 fl rfl M4 (FrD_tr f (FrD_tr (FrD_mo (by omega) f2) (FrD_tr f3 f4))) c5)
    · rw [lsS_x q] at hP
      have x43 : wp (Ev d) 2 cX2_readLines none Q 43 [some (.ref 128), none] [] M := by
        refine v_X2_readLines_43 (c_X2_nextByte (by omega) t T h c1.1 c1.2.1 ?_)
        rw [nb_w c1.1 h]
        unfold tlR at hP
        dsimp only at hP
        refine ⟨fun y => ?_, fun y => ?_⟩
        · have nl : ¬ h < t := fun z => by
            have := c1.1.2.2 h z
            unfold nbT at y
            rw [if_pos z] at y
            omega
          rw [if_neg nl] at hP
          exact hP.1 rfl M f c1.2.2.1 c1.2.2.2 c2
        · have q3 := nb_t y
          rw [if_pos q3.1] at hP
          exact c_X2_refuse (by omega) t T h c1.1 (by rw [c1.2.2.2]; omega) (Or.inr ⟨c1.2.2.1, c1.2.1⟩) (fun M2 f1 _ f3 => hP.2 h rfl M2 (FrD_tr f f1) f3)
      refine v_X2_readLines_6 _ ⟨fun _ => ⟨fun _ => c_X2_nextByte (by omega) t T h c1.1 c1.2.1 ?_, fun _ => x43⟩, fun _ => x43⟩
      rw [nb_w c1.1 h]
      exact ⟨fun z => absurd z q, fun _ => x43⟩
theorem tx_tl {t : Nat} {T : Nat → Int} (e : (liS t T 0).2.2 = none) : txS t T = tlR t (lsS t T t (liS t T 0).1 [(liS t T 0).2.1]) := by
  unfold tlR
  cases e2 : (lsS t T t (liS t T 0).1 [(liS t T 0).2.1]).2.2 with
  | some f => rw [txS_2 e e2]
  | none =>
    dsimp only
    by_cases q : (lsS t T t (liS t T 0).1 [(liS t T 0).2.1]).1 < t
    · rw [txS_3 e e2 q, if_pos q]
    · rw [txS_4 e e2 q, if_neg q]
theorem c_X2_readLines {d : Nat} {M : zM} {Q : Int → zM → Prop} (hd : 72 ≤ d) (t : Nat) (T : Nat → Int) (c : CS M t T 0 0) (hP : PostT M (txS t T) (Q 0)) : Ev d mX2_readLines [.ref 128] M Q := by
  obtain ⟨d, rfl, hdd⟩ := e_of 71 hd; replace hd := hdd
  refine e_X2_readLines (v_X2_readLines_0 (c_X2_readLine hd t T 0 0 c (by omega) (by omega) ⟨fun e M2 f2 c4 c5 => ?_, fun fl e M2 f2 c4 => ?_⟩))
  · rw [tx_tl e] at hP
    have g := LI_1 e
    refine l_X2_lines hd t T M t _ [(liS t T 0).2.1] M2 0 (by omega) g f2 ?_ c5 (by omega) hP
    rw [Nat.zero_add] at c4
    exact c4
  · rw [txS_1 e] at hP
    exact l_X2_lines6X (by omega) t fl T M2 _ c4 (fun M3 f3 c5 => hP.2 fl rfl M3 (FrD_tr f2 f3) c5)
/-- what taking the tape leaves changed -/
def FrV (M M2 : zM) : Prop := (∀ i j, ¬ (i = 128 ∧ (j = 1 ∨ j = 3 ∨ j = 4 ∨ j = 5 ∨ j = 7)) → i ≠ 131 → i ≠ 135 → zg M2 i j = zg M i j) ∧ (∀ i j, zh M2 i j = zh M i j)
theorem tx_ok {t : Nat} {T : Nat → Int} (e : (txS t T).2 = none) : ∃ h, LI t h (txS t T).1 := by
  cases e1 : (liS t T 0).2.2 with
  | some f => rw [txS_1 e1] at e; cases e
  | none =>
    cases e2 : (lsS t T t (liS t T 0).1 [(liS t T 0).2.1]).2.2 with
    | some f => rw [txS_2 e1 e2] at e; cases e
    | none =>
      by_cases q : (lsS t T t (liS t T 0).1 [(liS t T 0).2.1]).1 < t
      · rw [txS_3 e1 e2 q] at e; cases e
      · rw [txS_4 e1 e2 q]
        exact ⟨_, LI_ls t _ _ (LI_1 e1) e2⟩
theorem c_X2_takeTape {d : Nat} {M : zM} {Q : Int → zM → Prop} (hd : 73 ≤ d) (t : Nat) (T : Nat → Int) (g : TPc M t T) (hy : (txS t T).2 = none → ∀ M2 : zM, FrV M M2 → zg M2 128 1 = 0 → LC M2 (some (txS t T).1) → Q (-1) M2) (hn : ∀ f : Nat, (txS t T).2 = some f → ∀ M2 : zM, FrV M M2 → zg M2 128 1 = 0 → (∀ j, zg M2 135 j = zg M 135 j) → zg M2 128 7 = zg M 128 7 → Q (f : Int) M2) : Ev d mX2_takeTape [.ref 128] M Q := by
  obtain ⟨d, rfl, hdd⟩ := e_of 72 hd; replace hd := hdd
  refine e_X2_takeTape (v_X2_takeTape_0 ?_)
  rintro _ rfl _ rfl _ rfl
  have z : ∀ i j, ¬ (i = 128 ∧ (j = 3 ∨ j = 4 ∨ j = 5)) → zg (zs (zs (zs M 128 3 0) 128 4 0) 128 5 (-1)) i j = zg M i j := fun i j q => by
    rw [zg_zs, if_neg (by omega), zg_zs, if_neg (by omega), zg_zs, if_neg (by omega)]
  have c : CS (zs (zs (zs M 128 3 0) 128 4 0) 128 5 (-1)) t T 0 0 := by
    refine ⟨⟨by rw [z _ _ (by omega)]; exact g.1, g.2.1, fun i hi => by rw [z _ _ (by omega)]; exact g.2.2 i hi⟩, ?_, ?_, ?_⟩
    · rw [zg_zsj _ _ _ _ (by omega), zg_zs1]; rfl
    · rw [zg_zs1]; decide
    · rw [zg_zsj _ _ _ _ (by omega), zg_zsj _ _ _ _ (by omega), zg_zs1]; rfl
  refine c_X2_readLines hd t T c ⟨fun e M2 f1 f2 f3 f4 => ?_, fun f e M2 f1 f2 => ?_⟩
  · rintro _ rfl
    obtain ⟨h, l1, l2, l3, l4, l5, l6⟩ := tx_ok e
    have t2 := g.2.1
    rw [zg_zsj _ _ _ _ (by omega), f2, zg_zsj _ _ _ _ (by omega), f3]
    refine ⟨fun _ => ⟨by omega, by omega, by omega, ?_⟩, fun y => absurd rfl y⟩
    rw [show (((lwCs (txS t T).1).length : Int)).toNat = (lwCs (txS t T).1).length by omega]
    rintro _ rfl _ rfl
    have d3 : zg (zci (zs M2 128 1 0) 131 135 0 0 (lwCs (txS t T).1).length) 128 3 = ((lwCs (txS t T).1).length : Int) := by rw [zg_zci, if_neg (by omega), zg_zsj _ _ _ _ (by omega), f3]
    rw [d3]
    have e5 : zg (zs (zci (zs M2 128 1 0) 131 135 0 0 (lwCs (txS t T).1).length) 128 7 ((lwCs (txS t T).1).length : Int)) 128 5 = -1 := by
      rw [zg_zsj _ _ _ _ (by omega), zg_zci, if_neg (by omega), zg_zsj _ _ _ _ (by omega), f2]
    rw [e5]
    refine hy e _ ⟨fun i j a1 a2 a3 => ?_, fun i j => ?_⟩ ?_ ⟨⟨l1, l2⟩, ?_, by omega, ?_⟩
    · rw [zg_zs, if_neg (by omega), zg_zci, if_neg (by omega), zg_zs, if_neg (by omega), f1.1 i j (by omega) (by omega), z i j (by omega)]
    · rw [zh_zs, zh_zci, zh_zs, f1.2]; rfl
    · rw [zg_zsj _ _ _ _ (by omega), zg_zci, if_neg (by omega), zg_zs1]; decide
    · rw [zg_zs1, zw_of (by omega) (by omega)]
    · refine CdA_of _ _ (fun i hi => ?_)
      rw [Nat.zero_add, zg_zsi _ _ _ _ (by omega), zg_zci, if_pos rfl, if_pos (by omega), zg_zsi _ _ _ _ (by omega), show 0 + (i - 0) = 0 + i by omega]
      exact CdA_to 0 _ f4 i hi
  · rintro _ rfl
    rw [zg_zsj _ _ _ _ (by omega), f2]
    refine ⟨fun y => absurd y (by omega), fun _ => hn f e _ ⟨fun i j a1 a2 a3 => ?_, fun i j => ?_⟩ (by rw [zg_zs1]; decide) (fun j => ?_) ?_⟩
    · rw [zg_zs, if_neg (by omega), f1.1 i j (by omega) (by omega), z i j (by omega)]
    · rw [zh_zs, f1.2]; rfl
    · rw [zg_zsi _ _ _ _ (by omega), f1.1 _ _ (by omega) (by omega), z _ _ (by omega)]
    · rw [zg_zsj _ _ _ _ (by omega), f1.1 _ _ (by omega) (by omega), z _ _ (by omega)]
