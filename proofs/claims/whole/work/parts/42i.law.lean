/-! the text is taken: law -/
def LpN (M : zM) (ls : List lwL) : Prop := StpA M 130 (lwSs ls) ∧ (∀ k : Nat, k < ls.length → zg M 1308 (61 + k) = ((lwB ls k + (((ls.getD k (none, [])).1).getD []).length : Nat) : Int) ∧ zg M 1309 (61 + k) = ((lwB ls (k + 1) : Nat) : Int)) ∧ zg M 1307 1 = (ls.length : Int)
theorem lwSs_sn (ls : List lwL) (l : lwL) : lwSs (ls ++ [l]) = lwSs ls ++ lwS l := by simp [lwSs]
theorem lwB_sn {ls : List lwL} {l : lwL} {k : Nat} (h : k ≤ ls.length) : lwB (ls ++ [l]) k = lwB ls k := by
  unfold lwB; rw [List.take_append_of_le_length h]
theorem lwB_all (ls : List lwL) : lwB ls ls.length = (lwSs ls).length := by unfold lwB; rw [List.take_length]
theorem LpN_sn {M M2 : zM} {ls : List lwL} {l : lwL} (g : LpN M ls) (f : FrZ (lwSs ls).length ls.length M M2) (g2 : StpA M2 (130 + (lwSs ls).length) (lwS l)) (g3 : zg M2 1308 (61 + ls.length) = (((lwSs ls).length + (l.1.getD []).length : Nat) : Int)) (g4 : zg M2 1309 (61 + ls.length) = (((lwSs ls).length + (lwS l).length : Nat) : Int)) (g5 : zg M2 1307 1 = ((ls.length + 1 : Nat) : Int)) : LpN M2 (ls ++ [l]) := by
  obtain ⟨a1, a2, a3⟩ := g
  refine ⟨?_, fun k hk => ?_, by rw [g5]; simp⟩
  · rw [lwSs_sn, StpA_app]
    exact ⟨StpA_f2 _ _ (fun i j b1 b2 b3 => f.1 _ _ (by omega) (by omega) (by omega) (by omega)) a1, g2⟩
  · have hl : (ls ++ [l]).length = ls.length + 1 := by simp
    by_cases e : k = ls.length
    · subst e
      have e1 : (ls ++ [l]).getD ls.length (none, []) = l := by simp [List.getD]
      have e2 : lwB (ls ++ [l]) (ls.length + 1) = (lwSs ls).length + (lwS l).length := by
        rw [← hl, lwB_all, lwSs_sn, List.length_append]
      rw [lwB_sn (Nat.le_refl _), lwB_all, e1, e2]
      exact ⟨g3, g4⟩
    · have e1 : (ls ++ [l]).getD k (none, []) = ls.getD k (none, []) := by
        have : k < ls.length := by omega
        simp [List.getD, List.getElem?_append, this]
      rw [lwB_sn (by omega), lwB_sn (by omega), e1, f.1 _ _ (by omega) (by omega) (by omega) (by omega), f.1 _ _ (by omega) (by omega) (by omega) (by omega)]
      exact a2 k (by omega)
theorem lwS_le (l : lwL) : (lwS l).length ≤ (lwC l).length := by
  obtain ⟨a, b⟩ := l
  match a with
  | none => exact Nat.le_refl _
  | some t => simp [lwS, lwC]
theorem lwSs_le : ∀ ls : List lwL, (lwSs ls).length ≤ (lwCs ls).length
  | [] => Nat.le_refl _
  | [l] => by
    have := lwS_le l
    simp [lwSs, lwCs]; exact this
  | l :: l2 :: ls => by
    have a := lwS_le l
    have b := lwSs_le (l2 :: ls)
    have e1 : lwSs (l :: l2 :: ls) = lwS l ++ lwSs (l2 :: ls) := by simp [lwSs]
    have e2 : lwCs (l :: l2 :: ls) = lwC l ++ (-59) :: lwCs (l2 :: ls) := rfl
    rw [e1, e2, List.length_append, List.length_append, List.length_cons]
    omega
def PostU (M0 : zM) (R : List lwL × Option Nat) (K : zM → Prop) : Prop := (R.2 = none → ∀ M2 : zM, FrZ 0 0 M0 M2 → zg M2 1280 21 = -1 → zg M2 1280 23 = ((lwSs R.1).length : Int) → LpN M2 R.1 → K M2) ∧ (∀ f : Nat, R.2 = some f → ∀ M2 : zM, FrZ 0 0 M0 M2 → zg M2 1280 21 = (f : Int) → K M2)
theorem l_X8_text64X {E : zE} {Q : Int → zM → Prop} (M : zM) (f : Nat) (h5 : zg M 1280 21 = (f : Int)) (h : wp E 8 cX8_readText (some .int) Q 86 [some (.ref 1280), some (zI 0), none] [] M) : wp E 8 cX8_readText (some .int) Q 64 [some (.ref 1280), some (zI 0), none] [] M := by
  refine v_X8_readText_64 _ ?_
  rw [h5]
  exact ⟨fun z => absurd z (by omega), fun _ => h⟩
theorem l_X8_text {d : Nat} {Q : Int → zM → Prop} (hd : 59 ≤ d) (t : Nat) (T : Nat → Int) (M0 : zM) : ∀ (x h : Nat) (ls : List lwL) (M : zM), t ≤ h + x → LI t h ls → FrZ 0 0 M0 M → RS M t T h (lwSs ls).length 6 → LpN M ls → PostU M0 (tlR t (lsS t T x h ls)) (fun M2 => wp (Ev d) 8 cX8_readText (some .int) Q 86 [some (.ref 1280), some (zI 0), none] [] M2) → wp (Ev d) 8 cX8_readText (some .int) Q 31 [some (.ref 1280), some (zI 0), none] [] M := by
  intro x
  induction x with
  | zero =>
    intro h ls M a1 g f c1 lp1 hP
    have t2 := c1.1.2.1
    have nb1 : nbT t T h = -1 := by unfold nbT; rw [if_neg (by omega)]
    have e : tlR t (lsS t T 0 h ls) = (ls, none) := by unfold tlR; rw [lsS]; dsimp only; rw [if_neg (by omega)]
    rw [e] at hP
    refine v_X8_readText_31 _ ?_
    rw [c1.2.2.1]
    refine ⟨fun _ => c_X8_look (by omega) t T h c1.1 c1.2.1 ?_, fun z => absurd (by omega) z⟩
    rw [nb1]
    refine ⟨fun z => absurd z (by decide), fun _ => v_X8_readText_64 _ ?_⟩
    rw [c1.2.2.1, c1.2.1, c1.1.1]
    exact ⟨fun _ => ⟨fun z => absurd z (by omega), fun _ => hP.1 rfl M f c1.2.2.1 c1.2.2.2.2 lp1⟩, fun z => absurd (by omega) z⟩
  | succ x ih =>
    intro h ls M a1 g f c1 lp1 hP
    obtain ⟨g1, g2, g3, g4, g5, g6⟩ := id g
    have t2 := c1.1.2.1
    have bb := nbr_bd c1.1 h
    have sl := lwSs_le ls
    refine v_X8_readText_31 _ ?_
    rw [c1.2.2.1]
    refine ⟨fun _ => c_X8_look (by omega) t T h c1.1 c1.2.1 ?_, fun z => absurd (by omega) z⟩
    rw [rb_w bb.1 bb.2, rb_eq bb.1 bb.2 (s := 59) (by omega) (by omega)]
    refine ⟨fun q => ?_, fun q => v_X8_readText_64 _ ?_⟩
    · have q3 := nb_t (show nbT t T h ≠ -1 by omega)
      rintro _ rfl
      rw [c1.2.1]
      have c2 := RS_p c1 (by omega)
      have fz := FrY_Z (k := ls.length) (FrY_z (lwSs ls).length M 20 ((h : Int) + 1) (by omega))
      refine c_X8_line hd t T (h + 1) (lwSs ls).length ls.length c2 (by omega) (by omega) (by omega) (by rw [zg_zsi _ _ _ _ (by omega)]; exact lp1.2.2) ⟨fun e M2 f2 c3 k1 k2 k3 k4 => ?_, fun fl e M2 f2 c3 => ?_⟩
      · rw [lsS_n q e] at hP
        have gn := LI_sn (T := T) g q3.1 e
        have f3 := FrZ_tr fz f2
        have s1 := ((Lok_li (T := T) (h := h + 1) (by omega)).1 e).1
        refine ih _ _ M2 (by omega) gn (FrZ_tr f (FrZ_mo (by omega) (by omega) f3)) ?_ (LpN_sn lp1 f3 k1 k2 k3 k4) hP
        rw [lwSs_sn, List.length_append]; exact c3
      · rw [lsS_f q e] at hP
        refine v_X8_readText_31 _ ?_
        rw [c3]
        exact ⟨fun z => absurd z (by omega), fun _ => l_X8_text64X M2 fl c3 (hP.2 fl rfl M2 (FrZ_tr f (FrZ_mo (by omega) (by omega) (FrZ_tr fz f2))) c3)⟩
    · rw [lsS_x q] at hP
      unfold tlR at hP
      dsimp only at hP
      rw [c1.2.2.1, c1.2.1, c1.1.1]
      refine ⟨fun _ => ⟨fun y => ?_, fun y => ?_⟩, fun z => absurd (by omega) z⟩
      · rw [if_pos (show h < t by omega)] at hP
        refine c_X8_faulty (by omega) h c1.2.2.1 c1.2.1 (fun M2 e e2 => ?_)
        subst e
        exact hP.2 h rfl _ (FrZ_tr f (FrY_Z (FrY_z 0 M 21 _ (by omega)))) e2
      · rw [if_neg (show ¬ h < t by omega)] at hP
        exact hP.1 rfl M f c1.2.2.1 c1.2.2.2.2 lp1
theorem tk_b {c : Int} (h : CcO c) : 0 ≤ tk1 c ∧ tk1 c < 128 := by
  unfold CcO bsgn at h
  unfold tk1
  by_cases a1 : 0 ≤ c
  · rw [if_pos a1]; omega
  rw [if_neg a1]
  by_cases a2 : -6 ≤ c
  · rw [if_pos a2]; omega
  rw [if_neg a2]
  by_cases a3 : c = -33
  · rw [if_pos a3]; omega
  rw [if_neg a3]
  by_cases a4 : c = -126
  · rw [if_pos a4]; omega
  rw [if_neg a4]; omega
theorem StpA_to {M : zM} : ∀ (k : Nat) (cs : List Int), StpA M k cs → ∀ i : Nat, i < cs.length → zg M 1305 (k + i) = tk1 (cs.getD i 0) ∧ zg M 1306 (k + i) = tk2 (cs.getD i 0)
  | k, [], _, i, hi => by simp at hi
  | k, c :: cs, h, 0, hi => h.1
  | k, c :: cs, h, i + 1, hi => by
    have := StpA_to (k + 1) cs h.2 i (by simp at hi; omega)
    rw [show k + (i + 1) = k + 1 + i by omega]; exact this
theorem lwSs_cc {ls : List lwL} (h : ∀ l ∈ ls, ∀ c ∈ lwS l, CcO c) {i : Nat} (hi : i < (lwSs ls).length) : CcO ((lwSs ls).getD i 0) := by
  have e : (lwSs ls).getD i 0 = (lwSs ls)[i] := by simp [List.getD, hi]
  rw [e]
  have m : (lwSs ls)[i] ∈ lwSs ls := List.getElem_mem hi
  unfold lwSs at m
  obtain ⟨l, l1, l2⟩ := List.mem_flatMap.mp m
  exact h l l1 _ l2
/-- the steps and line ends are taken into use -/
def UP (M : zM) (ls : List lwL) : Prop := zg M 1307 0 = (ls.length : Int) ∧ (∀ i : Nat, i < (lwSs ls).length → zg M 1305 i = tk1 ((lwSs ls).getD i 0) ∧ zg M 1306 i = tk2 ((lwSs ls).getD i 0)) ∧ (∀ k : Nat, k < ls.length → zg M 1308 k = ((lwB ls k + (((ls.getD k (none, [])).1).getD []).length : Nat) : Int) ∧ zg M 1309 k = ((lwB ls (k + 1) : Nat) : Int))
def FrO (M M2 : zM) : Prop := (∀ i j, ¬ (1305 ≤ i ∧ i ≤ 1309) → zg M2 i j = zg M i j) ∧ (∀ i j, zh M2 i j = zh M i j)
theorem lwB_le {ls : List lwL} {k : Nat} (hk : k < ls.length) : lwB ls k + (((ls.getD k (none, [])).1).getD []).length ≤ (lwSs ls).length ∧ lwB ls (k + 1) ≤ (lwSs ls).length := by
  have h1 : ls.take (k + 1) = ls.take k ++ [ls[k]] := by rw [List.take_append_getElem]
  have h2 : lwB ls (k + 1) = lwB ls k + (lwS ls[k]).length := by unfold lwB; rw [h1, lwSs_sn, List.length_append]
  have h3 : lwSs ls = lwSs (ls.take (k + 1)) ++ lwSs (ls.drop (k + 1)) := by
    unfold lwSs
    rw [← List.flatMap_append, List.take_append_drop]
  have h4 : lwB ls (k + 1) ≤ (lwSs ls).length := by unfold lwB; rw [h3, List.length_append]; omega
  have h5 : ls.getD k (none, []) = ls[k] := by simp [List.getD, hk]
  have h6 : ((ls[k].1).getD []).length ≤ (lwS ls[k]).length := by
    generalize ls[k] = l
    obtain ⟨a, b⟩ := l
    match a with
    | none => simp
    | some t => simp [lwS]
  rw [h5]
  omega
theorem l_X8_text177 {E : zE} {Q : Int → zM → Prop} (ls : List lwL) (hn : ls.length ≤ 60) (hs : (lwSs ls).length ≤ 120) (M0 : zM) (h7 : zg M0 1307 0 = (ls.length : Int)) (lp2 : ∀ k : Nat, k < ls.length → zg M0 1308 (61 + k) = ((lwB ls k + (((ls.getD k (none, [])).1).getD []).length : Nat) : Int) ∧ zg M0 1309 (61 + k) = ((lwB ls (k + 1) : Nat) : Int)) (h : ∀ M2 : zM, (∀ i j, ¬ ((i = 1308 ∨ i = 1309) ∧ j < 61) → zg M2 i j = zg M0 i j) → (∀ i j, zh M2 i j = zh M0 i j) → (∀ k : Nat, k < ls.length → zg M2 1308 k = ((lwB ls k + (((ls.getD k (none, [])).1).getD []).length : Nat) : Int) ∧ zg M2 1309 k = ((lwB ls (k + 1) : Nat) : Int)) → Q (-1) M2) : ∀ (x i : Nat) (M : zM), i + x = ls.length → (∀ i j, ¬ ((i = 1308 ∨ i = 1309) ∧ j < 61) → zg M i j = zg M0 i j) → (∀ i j, zh M i j = zh M0 i j) → (∀ k : Nat, k < i → zg M 1308 k = ((lwB ls k + (((ls.getD k (none, [])).1).getD []).length : Nat) : Int) ∧ zg M 1309 k = ((lwB ls (k + 1) : Nat) : Int)) → wp E 8 cX8_readText (some .int) Q 177 [some (.ref 1280), some (zI 0), some (zI (i : Int))] [] M := by
  intro x
  induction x with
  | zero =>
    intro i M e f1 f2 g
    have ei : i = ls.length := by omega
    subst ei
    refine v_X8_readText_177 _ _ ?_
    rw [zq_0, show ((0 : Int)).toNat = 0 by rfl, f1 1307 0 (by omega), h7, zw_n (a := ls.length) (by omega)]
    exact ⟨by omega, by omega, fun z => absurd z (by omega), fun _ => h M f1 f2 g⟩
  | succ x ih =>
    intro i M e f1 f2 g
    have l2 := lp2 i (by omega)
    have bl := lwB_le (show i < ls.length by omega)
    have e1 : zw (61 + (i : Int)) = ((61 + i : Nat) : Int) := by rw [zw_of (by omega) (by omega)]; omega
    have e2 : zw (61 * 0 + (i : Int)) = (i : Int) := by rw [show 61 * (0 : Int) + (i : Int) = (i : Int) by omega]; exact zw_n (by omega)
    refine v_X8_readText_177 _ _ ?_
    rw [zq_0, show ((0 : Int)).toNat = 0 by rfl, f1 1307 0 (by omega), h7, zw_n (a := i) (by omega), e1, e2, show (((61 + i : Nat) : Int)).toNat = 61 + i by omega, show ((i : Int)).toNat = i by omega, f1 1308 (61 + i) (by omega), l2.1, zs_id (v := ((lwB ls i + (((ls.getD i (none, [])).1).getD []).length : Nat) : Int)) (by omega) (by omega)]
    refine ⟨by omega, by omega, fun _ => ⟨by omega, by omega, by omega, by omega, ?_⟩, fun z => absurd (by omega) z⟩
    rintro _ rfl
    rw [zg_zsi _ _ _ _ (by omega), f1 1309 (61 + i) (by omega), l2.2, zs_id (v := ((lwB ls (i + 1) : Nat) : Int)) (by omega) (by omega), show (i : Int) + 1 = ((i + 1 : Nat) : Int) by omega]
    refine ⟨by omega, by omega, by omega, by omega, ?_⟩
    rintro _ rfl
    refine ih (i + 1) _ (by omega) (fun a b q => ?_) (fun a b => by rw [zh_zs, zh_zs]; exact f2 a b) (fun k hk => ?_)
    · rw [zg_zs, if_neg (by omega), zg_zs, if_neg (by omega)]; exact f1 a b q
    · by_cases y : k = i
      · subst y
        refine ⟨?_, ?_⟩
        · rw [zg_zsi _ _ _ _ (by omega), zg_zs1, zw_n (by omega)]
        · rw [zg_zs1, zw_n (by omega)]
      · have g2 := g k (by omega)
        refine ⟨?_, ?_⟩
        · rw [zg_zsi _ _ _ _ (by omega), zg_zsj _ _ _ _ y]; exact g2.1
        · rw [zg_zsj _ _ _ _ y, zg_zsi _ _ _ _ (by omega)]; exact g2.2
theorem l_X8_text105 {E : zE} {Q : Int → zM → Prop} (ls : List lwL) (hn : ls.length ≤ 60) (hs : (lwSs ls).length ≤ 120) (hc : ∀ l ∈ ls, ∀ c ∈ lwS l, CcO c) (M0 : zM) (h23 : zg M0 1280 23 = ((lwSs ls).length : Int)) (lp1 : LpN M0 ls) (h : ∀ M2 : zM, FrO M0 M2 → UP M2 ls → Q (-1) M2) : ∀ (x i : Nat) (M : zM), i + x = (lwSs ls).length → (∀ i j, ¬ ((i = 1305 ∨ i = 1306) ∧ j < 130) → zg M i j = zg M0 i j) → (∀ i j, zh M i j = zh M0 i j) → (∀ k : Nat, k < i → zg M 1305 k = tk1 ((lwSs ls).getD k 0) ∧ zg M 1306 k = tk2 ((lwSs ls).getD k 0)) → wp E 8 cX8_readText (some .int) Q 105 [some (.ref 1280), some (zI 0), some (zI (i : Int))] [] M := by
  intro x
  induction x with
  | zero =>
    intro i M e f1 f2 g
    have ei : i = (lwSs ls).length := by omega
    refine v_X8_readText_105 _ _ ?_
    rw [zw_n (a := i) (by omega), f1 1280 23 (by omega), h23, zq_0, show ((0 : Int)).toNat = 0 by rfl, f1 1307 1 (by omega), lp1.2.2]
    refine ⟨fun z => absurd z (by omega), fun _ => ⟨by omega, by omega, ?_⟩⟩
    rintro _ rfl
    refine l_X8_text177 ls hn hs _ (by rw [zg_zs1, zw_n (by omega)]) (fun k hk => by rw [zg_zsi _ _ _ _ (by omega), zg_zsi _ _ _ _ (by omega), f1 _ _ (by omega), f1 _ _ (by omega)]; exact lp1.2.1 k hk) (fun M2 b1 b2 b3 => h M2 ⟨fun a b q => by rw [b1 a b (by omega), zg_zsi _ _ _ _ (by omega)]; exact f1 a b (by omega), fun a b => by rw [b2, zh_zs]; exact f2 a b⟩ ⟨by rw [b1 _ _ (by omega), zg_zs1, zw_n (by omega)], fun k hk => ?_, b3⟩) ls.length 0 _ (by omega) (fun _ _ _ => rfl) (fun _ _ => rfl) (fun k hk => absurd hk (by omega))
    rw [b1 _ _ (by omega), b1 _ _ (by omega), zg_zsi _ _ _ _ (by omega), zg_zsi _ _ _ _ (by omega)]
    exact g k (by omega)
  | succ x ih =>
    intro i M e f1 f2 g
    have l2 := StpA_to 130 _ lp1.1 i (by omega)
    have tb := tk_b (lwSs_cc hc (show i < (lwSs ls).length by omega))
    have e1 : zw (130 + (i : Int)) = ((130 + i : Nat) : Int) := by rw [zw_of (by omega) (by omega)]; omega
    have e2 : zw (130 * 0 + (i : Int)) = (i : Int) := by rw [show 130 * (0 : Int) + (i : Int) = (i : Int) by omega]; exact zw_n (by omega)
    refine v_X8_readText_105 _ _ ?_
    rw [zw_n (a := i) (by omega), f1 1280 23 (by omega), h23, e1, e2, show (((130 + i : Nat) : Int)).toNat = 130 + i by omega, show ((i : Int)).toNat = i by omega, f1 1305 (130 + i) (by omega), l2.1, zb_id tb.1 tb.2]
    refine ⟨fun _ => ⟨by omega, by omega, by omega, by omega, ?_⟩, fun z => absurd (by omega) z⟩
    rintro _ rfl
    rw [zg_zsi _ _ _ _ (by omega), f1 1306 (130 + i) (by omega), show (i : Int) + 1 = ((i + 1 : Nat) : Int) by omega]
    refine ⟨by omega, by omega, by omega, by omega, ?_⟩
    rintro _ rfl
    refine ih (i + 1) _ (by omega) (fun a b q => ?_) (fun a b => by rw [zh_zs, zh_zs]; exact f2 a b) (fun k hk => ?_)
    · rw [zg_zs, if_neg (by omega), zg_zs, if_neg (by omega)]; exact f1 a b q
    · by_cases y : k = i
      · subst y
        refine ⟨?_, ?_⟩
        · rw [zg_zsi _ _ _ _ (by omega), zg_zs1, zw_of (by omega) (by omega)]
        · rw [zg_zs1, zw_zg, l2.2]
      · have g2 := g k (by omega)
        refine ⟨?_, ?_⟩
        · rw [zg_zsi _ _ _ _ (by omega), zg_zsj _ _ _ _ y]; exact g2.1
        · rw [zg_zsj _ _ _ _ y, zg_zsi _ _ _ _ (by omega)]; exact g2.2
theorem c_X8_readText {d : Nat} {M : zM} {Q : Int → zM → Prop} (hd : 60 ≤ d) (t : Nat) (T : Nat → Int) (g : TPr M t T) (hy : (txS t T).2 = none → ∀ M2 : zM, (∀ i j, ¬ (i = 1280 ∧ 19 ≤ j ∧ j ≤ 23) → ¬ (1305 ≤ i ∧ i ≤ 1309) → zg M2 i j = zg M i j) → (∀ i j, zh M2 i j = zh M i j) → zg M2 1280 19 = 0 → UP M2 (txS t T).1 → Q (-1) M2) (hn : ∀ f : Nat, (txS t T).2 = some f → ∀ M2 : zM, (∀ i j, ¬ (i = 1280 ∧ 19 ≤ j ∧ j ≤ 23) → ¬ ((i = 1305 ∨ i = 1306) ∧ 130 ≤ j) → ¬ (i = 1307 ∧ j = 1) → ¬ ((i = 1308 ∨ i = 1309) ∧ 61 ≤ j) → zg M2 i j = zg M i j) → (∀ i j, zh M2 i j = zh M i j) → zg M2 1280 19 = 0 → Q (f : Int) M2) : Ev d mX8_readText [.ref 1280, zI 0] M Q := by
  obtain ⟨d, rfl, hdd⟩ := e_of 59 hd; replace hd := hdd
  refine e_X8_readText _ (v_X8_readText_0 _ ?_)
  rintro _ rfl _ rfl _ rfl _ rfl _ rfl
  have z : ∀ i j, ¬ (i = 1280 ∧ 20 ≤ j ∧ j ≤ 23) → ¬ (i = 1307 ∧ j = 1) → zg (zs (zs (zs (zs (zs M 1280 20 0) 1280 21 (-1)) 1280 22 0) 1280 23 0) 1307 1 0) i j = zg M i j := fun i j q1 q2 => by
    rw [zg_zs, if_neg q2, zg_zs, if_neg (by omega), zg_zs, if_neg (by omega), zg_zs, if_neg (by omega), zg_zs, if_neg (by omega)]
  have c : RS (zs (zs (zs (zs (zs M 1280 20 0) 1280 21 (-1)) 1280 22 0) 1280 23 0) 1307 1 0) t T 0 0 6 := by
    refine ⟨⟨by rw [z _ _ (by omega) (by omega)]; exact g.1, g.2.1, fun i hi => by rw [z _ _ (by omega) (by omega)]; exact g.2.2 i hi⟩, ?_, ?_, ?_, ?_⟩
    · rw [zg_zsi _ _ _ _ (by omega), zg_zsj _ _ _ _ (by omega), zg_zsj _ _ _ _ (by omega), zg_zsj _ _ _ _ (by omega), zg_zs1]; rfl
    · rw [zg_zsi _ _ _ _ (by omega), zg_zsj _ _ _ _ (by omega), zg_zsj _ _ _ _ (by omega), zg_zs1]; decide
    · rw [zg_zsi _ _ _ _ (by omega), zg_zsj _ _ _ _ (by omega), zg_zs1]; decide
    · rw [zg_zsi _ _ _ _ (by omega), zg_zs1]; rfl
  have t2 := g.2.1
  have fin : PostU (zs (zs (zs (zs (zs M 1280 20 0) 1280 21 (-1)) 1280 22 0) 1280 23 0) 1307 1 0) (txS t T) (fun M2 => wp (Ev d) 8 cX8_readText (some .int) Q 86 [some (.ref 1280), some (zI 0), none] [] M2) := by
    refine ⟨fun e M2 f1 f2 f3 f4 => v_X8_readText_86 _ ?_, fun f e M2 f1 f2 => v_X8_readText_86 _ ?_⟩
    · rintro _ rfl
      obtain ⟨h, l1, l2, l3, l4, l5, l6⟩ := tx_ok e
      have sl := lwSs_le (txS t T).1
      rw [zg_zsj _ _ _ _ (by omega), f2]
      refine ⟨fun _ => ?_, fun y => absurd (by omega) y⟩
      have lp3 : LpN (zs M2 1280 19 0) (txS t T).1 := ⟨StpA_f2 _ _ (fun i j b1 _ _ => zg_zsi _ _ _ _ (by omega)) f4.1, fun k hk => by rw [zg_zsi _ _ _ _ (by omega), zg_zsi _ _ _ _ (by omega)]; exact f4.2.1 k hk, by rw [zg_zsi _ _ _ _ (by omega)]; exact f4.2.2⟩
      refine l_X8_text105 (txS t T).1 (by omega) (by omega) l5 _ (by rw [zg_zsj _ _ _ _ (by omega)]; exact f3) lp3 (fun M4 b1 b2 => hy e M4 (fun i j q1 q2 => ?_) (fun i j => by rw [b1.2, zh_zs, f1.2]; rfl) (by rw [b1.1 _ _ (by omega), zg_zs1]; decide) b2) (lwSs (txS t T).1).length 0 _ (by omega) (fun _ _ _ => rfl) (fun _ _ => rfl) (fun k hk => absurd hk (by omega))
      rw [b1.1 i j q2, zg_zs, if_neg (by omega), f1.1 i j (by omega) (by omega) (by omega) (by omega), z i j (by omega) (by omega)]
    · rintro _ rfl
      rw [zg_zsj _ _ _ _ (by omega), f2]
      refine ⟨fun y => absurd y (by omega), fun _ => hn f e _ (fun i j q1 q2 q3 q4 => ?_) (fun i j => by rw [zh_zs, f1.2]; rfl) (by rw [zg_zs1]; decide)⟩
      rw [zg_zs, if_neg (by omega), f1.1 i j (by omega) (by omega) q3 (by omega), z i j (by omega) q3]
  refine c_X8_line hd t T 0 0 0 c (by omega) (by omega) (by omega) (by rw [zg_zs1]; rfl) ⟨fun e M2 f2 c3 k1 k2 k3 k4 => ?_, fun fl e M2 f2 c3 => ?_⟩
  · rw [tx_tl e] at fin
    have g := LI_1 (T := T) e
    have lp0 : LpN (zs (zs (zs (zs (zs M 1280 20 0) 1280 21 (-1)) 1280 22 0) 1280 23 0) 1307 1 0) [] := ⟨trivial, fun k hk => absurd hk (by simp), by rw [zg_zs1]; rfl⟩
    have lp1 := LpN_sn (l := (liS t T 0).2.1) lp0 f2 k1 k2 k3 k4
    refine l_X8_text hd t T _ t _ [(liS t T 0).2.1] M2 (by omega) g f2 ?_ lp1 fin
    have e2 : (lwSs [(liS t T 0).2.1]).length = 0 + (lwS (liS t T 0).2.1).length := by simp [lwSs]
    rw [e2]; exact c3
  · rw [txS_1 e] at fin
    refine v_X8_readText_31 _ ?_
    rw [c3]
    exact ⟨fun y => absurd y (by omega), fun _ => l_X8_text64X M2 fl c3 (fin.2 fl rfl M2 f2 c3)⟩
theorem ls_f {t : Nat} {T : Nat → Int} {f : Nat} : ∀ (x h : Nat) (ls : List lwL), h ≤ t → (lsS t T x h ls).2.2 = some f → f ≤ t
  | 0, _, _, _, e => by cases e
  | x + 1, h, ls, hh, e => by
    by_cases q : nbT t T h = 59
    · have q3 := nb_t (show nbT t T h ≠ -1 by omega)
      have lo := Lok_li (T := T) (h := h + 1) (show h + 1 ≤ t by omega)
      cases e2 : (liS t T (h + 1)).2.2 with
      | none =>
        rw [lsS_n q e2] at e
        exact ls_f x _ _ (lo.1 e2).2.1 e
      | some f2 =>
        rw [lsS_f q e2] at e
        cases e
        exact (lo.2 f e2).2
    · rw [lsS_x q] at e; cases e
theorem tx_f {t : Nat} {T : Nat → Int} {f : Nat} (e : (txS t T).2 = some f) : f ≤ t := by
  have lo := Lok_li (t := t) (T := T) (h := 0) (by omega)
  cases e1 : (liS t T 0).2.2 with
  | some f2 => rw [txS_1 e1] at e; cases e; exact (lo.2 f e1).2
  | none =>
    cases e2 : (lsS t T t (liS t T 0).1 [(liS t T 0).2.1]).2.2 with
    | some f2 => rw [txS_2 e1 e2] at e; cases e; exact ls_f t _ _ (lo.1 e1).2.1 e2
    | none =>
      by_cases q : (lsS t T t (liS t T 0).1 [(liS t T 0).2.1]).1 < t
      · rw [txS_3 e1 e2 q] at e; cases e; omega
      · rw [txS_4 e1 e2 q] at e; cases e
