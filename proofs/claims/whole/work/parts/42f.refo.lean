theorem im_fix {t : Nat} {T : Nat → Int} {O : Nat → zRs} {j h : Nat} {r : Int} (hr : 4 - (j : Int) = r) (e : (rkD t T O j h).2.2 = none) : rkD t T O (j + 1) h = lp t T (rkD t T O j) r t (rkD t T O j h).1 (rkD t T O j h).2.1 := by rw [rkD_n e, hr]
theorem im_product {t m N : Nat} {T : Nat → Int} {O : Nat → zRs} (hN : 1 ≤ N) (hO : ∀ d, N ≤ d → ImR t T d mX8_operand m (rkD t T O 0)) (hK : ∀ h, h ≤ t → Sok t h (O h)) : ∀ d, N + 1 ≤ d → ImR t T d mX8_product m (rkD t T O 1) := by
  intro d hd h L M Q c1 c2 c3 hP
  obtain ⟨d, rfl, hdd⟩ := e_of N hd
  have hs := Sok_rkD (T := T) hK 0 (by omega)
  refine e_X8_product (v_X8_product_0 (hO d hdd h L M _ c1 c2 c3 ⟨fun e M2 f2 c4 c5 => ?_, fun fl e M2 f2 c4 => ?_⟩))
  · obtain ⟨s1, s2, s3, s4, s5⟩ := (hs h c3).1 e
    rw [im_fix (r := 4) (by omega) e] at hP
    exact l_X8_product (by omega) (hO d hdd) hs M L h c2 t _ _ M2 (by omega) s1 s2 s4 f2 c4 c5 hP
  · rw [rkD_f e] at hP
    refine v_X8_product_4 ?_
    rw [c4.2.2.1]
    exact ⟨fun z => absurd z (by omega), fun _ => hP.2 fl rfl M2 f2 c4⟩
theorem im_sum {t m N : Nat} {T : Nat → Int} {O : Nat → zRs} (hN : 1 ≤ N) (hO : ∀ d, N ≤ d → ImR t T d mX8_product m (rkD t T O 1)) (hK : ∀ h, h ≤ t → Sok t h (O h)) : ∀ d, N + 1 ≤ d → ImR t T d mX8_sum m (rkD t T O 2) := by
  intro d hd h L M Q c1 c2 c3 hP
  obtain ⟨d, rfl, hdd⟩ := e_of N hd
  have hs := Sok_rkD (T := T) hK 1 (by omega)
  refine e_X8_sum (v_X8_sum_0 (hO d hdd h L M _ c1 c2 c3 ⟨fun e M2 f2 c4 c5 => ?_, fun fl e M2 f2 c4 => ?_⟩))
  · obtain ⟨s1, s2, s3, s4, s5⟩ := (hs h c3).1 e
    rw [im_fix (r := 3) (by omega) e] at hP
    exact l_X8_sum (by omega) (hO d hdd) hs M L h c2 t _ _ M2 (by omega) s1 s2 s4 f2 c4 c5 hP
  · rw [rkD_f e] at hP
    refine v_X8_sum_4 ?_
    rw [c4.2.2.1]
    exact ⟨fun z => absurd z (by omega), fun _ => hP.2 fl rfl M2 f2 c4⟩
theorem im_both {t m N : Nat} {T : Nat → Int} {O : Nat → zRs} (hN : 1 ≤ N) (hO : ∀ d, N ≤ d → ImR t T d mX8_compared m (rkD t T O 3)) (hK : ∀ h, h ≤ t → Sok t h (O h)) : ∀ d, N + 1 ≤ d → ImR t T d mX8_both m (rkD t T O 4) := by
  intro d hd h L M Q c1 c2 c3 hP
  obtain ⟨d, rfl, hdd⟩ := e_of N hd
  have hs := Sok_rkD (T := T) hK 3 (by omega)
  refine e_X8_both (v_X8_both_0 (hO d hdd h L M _ c1 c2 c3 ⟨fun e M2 f2 c4 c5 => ?_, fun fl e M2 f2 c4 => ?_⟩))
  · obtain ⟨s1, s2, s3, s4, s5⟩ := (hs h c3).1 e
    rw [im_fix (r := 1) (by omega) e] at hP
    exact l_X8_both (by omega) (hO d hdd) hs M L h c2 t _ _ M2 (by omega) s1 s2 s4 f2 c4 c5 hP
  · rw [rkD_f e] at hP
    refine v_X8_both_4 ?_
    rw [c4.2.2.1]
    exact ⟨fun z => absurd z (by omega), fun _ => hP.2 fl rfl M2 f2 c4⟩
theorem im_either {t m N : Nat} {T : Nat → Int} {O : Nat → zRs} (hN : 1 ≤ N) (hO : ∀ d, N ≤ d → ImR t T d mX8_both m (rkD t T O 4)) (hK : ∀ h, h ≤ t → Sok t h (O h)) : ∀ d, N + 1 ≤ d → ImR t T d mX8_either m (rkD t T O 5) := by
  intro d hd h L M Q c1 c2 c3 hP
  obtain ⟨d, rfl, hdd⟩ := e_of N hd
  have hs := Sok_rkD (T := T) hK 4 (by omega)
  refine e_X8_either (v_X8_either_0 (hO d hdd h L M _ c1 c2 c3 ⟨fun e M2 f2 c4 c5 => ?_, fun fl e M2 f2 c4 => ?_⟩))
  · obtain ⟨s1, s2, s3, s4, s5⟩ := (hs h c3).1 e
    rw [im_fix (r := 0) (by omega) e] at hP
    exact l_X8_either (by omega) (hO d hdd) hs M L h c2 t _ _ M2 (by omega) s1 s2 s4 f2 c4 c5 hP
  · rw [rkD_f e] at hP
    refine v_X8_either_4 ?_
    rw [c4.2.2.1]
    exact ⟨fun z => absurd z (by omega), fun _ => hP.2 fl rfl M2 f2 c4⟩
theorem lp_2p {t : Nat} {T : Nat → Int} {S : Nat → zRs} {x h : Nat} {cs : List Int} (hx : 0 < x) (q : rkO (nbT t T h) = 2) (e : (S (h + 1)).2.2 = none) : lp t T S 2 x h cs = ((S (h + 1)).1, cs ++ (S (h + 1)).2.1 ++ [-(nbT t T h)], none) := by
  obtain ⟨y, rfl⟩ : ∃ y, x = y + 1 := ⟨x - 1, by omega⟩
  exact lp_2 q e rfl
theorem lp_fp {t : Nat} {T : Nat → Int} {S : Nat → zRs} {r : Int} {x h f : Nat} {cs : List Int} (hx : 0 < x) (q : rkO (nbT t T h) = r) (e : (S (h + 1)).2.2 = some f) : lp t T S r x h cs = ((S (h + 1)).1, [], some f) := by
  obtain ⟨y, rfl⟩ : ∃ y, x = y + 1 := ⟨x - 1, by omega⟩
  exact lp_f q e
theorem im_compared {t m N : Nat} {T : Nat → Int} {O : Nat → zRs} (hN : 1 ≤ N) (hO : ∀ d, N ≤ d → ImR t T d mX8_sum m (rkD t T O 2)) (hK : ∀ h, h ≤ t → Sok t h (O h)) : ∀ d, N + 1 ≤ d → ImR t T d mX8_compared m (rkD t T O 3) := by
  intro d hd h L M Q c1 c2 c3 hP
  obtain ⟨d, rfl, hdd⟩ := e_of N hd
  have hs := Sok_rkD (T := T) hK 2 (by omega)
  refine e_X8_compared (v_X8_compared_0 (hO d hdd h L M _ c1 c2 c3 ⟨fun e M2 f2 c4 c5 => ?_, fun fl e M2 f2 c4 => ?_⟩))
  · obtain ⟨s1, s2, s3, s4, s5⟩ := (hs h c3).1 e
    rw [im_fix (r := 2) (by omega) e] at hP
    have bb := nbr_bd c4.1 (rkD t T O 2 h).1
    refine c_X8_look (by omega) t T _ c4.1 c4.2.1 ?_
    rw [c4.2.2.1, rb_w bb.1 bb.2, rb_eq bb.1 bb.2 (s := 60) (by omega) (by omega), rb_eq bb.1 bb.2 (s := 61) (by omega) (by omega), rb_eq bb.1 bb.2 (s := 62) (by omega) (by omega)]
    have go : rkO (nbT t T (rkD t T O 2 h).1) = 2 → wp (Ev d) 8 cX8_compared none Q 35 [some (.ref 1280), some (zI (rbC (nbT t T (rkD t T O 2 h).1)))] [] M2 := by
      intro q
      have q4 := (rk_2 _).mp q
      have q3 := nb_t (show nbT t T (rkD t T O 2 h).1 ≠ -1 by omega)
      refine v_X8_compared_35 _ ?_
      rintro _ rfl
      refine it_ok (by omega) (hO d hdd) hs M L h c2 (rkD t T O 2 h).1 (rkD t T O 2 h).2.1 M2 _ (fun M7 => Q 0 M7) (by omega) (rb_lo (by omega)) s4 f2 c4 c5 (fun e2 M7 f7 c7 c8 => ?_) (fun fl e2 M7 f7 c7 => ?_)
      · rw [lp_2p (by omega) q e2] at hP
        exact hP.1 rfl M7 f7 c7 c8
      · rw [lp_fp (by omega) q e2] at hP
        exact hP.2 fl rfl M7 f7 c7
    refine ⟨fun _ => ⟨fun y => go ((rk_2 _).mpr (by omega)), fun y => ⟨fun y2 => go ((rk_2 _).mpr (by omega)), fun y2 => ⟨fun y3 => go ((rk_2 _).mpr (by omega)), fun y3 => ?_⟩⟩⟩, fun z => absurd (by omega) z⟩
    rw [lp_x (by rw [rk_2]; omega)] at hP
    exact hP.1 rfl M2 f2 c4 c5
  · rw [rkD_f e] at hP
    refine c_X8_look (by omega) t T fl c4.1 c4.2.1 ?_
    rw [c4.2.2.1]
    exact ⟨fun z => absurd z (by omega), fun _ => hP.2 fl rfl M2 f2 c4⟩
theorem im_ei {t m N : Nat} {T : Nat → Int} {O : Nat → zRs} (hN : 1 ≤ N) (hO : ∀ d, N ≤ d → ImR t T d mX8_operand m O) (hK : ∀ h, h ≤ t → Sok t h (O h)) : ∀ d, N + 5 ≤ d → ImR t T d mX8_either m (rkD t T O 5) :=
  im_either (by omega) (im_both (by omega) (im_compared (by omega) (im_sum (by omega) (im_product hN hO hK) hK) hK) hK) hK
theorem c_X8_nameOf {d : Nat} {M : zM} {Q : Int → zM → Prop} (hd : 1 ≤ d) (v : Int) (hv : zw v = v) (h : Q (zlet v) M) : Ev d mX8_nameOf [zI v] M Q := by
  obtain ⟨d, rfl, -⟩ := e_of 0 hd
  refine e_X8_nameOf _ (v_X8_nameOf_0 _ ?_)
  rw [hv]
  unfold zlet at h
  refine ⟨fun q => ?_, fun q => ?_, fun q => ?_, fun q => ?_, fun q => ?_, fun q => ?_, fun q1 q2 q3 q4 q5 q6 => ?_⟩
  · rw [if_pos q] at h; exact h
  · rw [if_neg (by omega), if_pos q] at h; exact h
  · rw [if_neg (by omega), if_neg (by omega), if_pos q] at h; exact h
  · rw [if_neg (by omega), if_neg (by omega), if_neg (by omega), if_neg (by omega), if_pos q] at h; exact h
  · rw [if_neg (by omega), if_neg (by omega), if_neg (by omega), if_neg (by omega), if_neg (by omega), if_pos q] at h; exact h
  · rw [if_neg (by omega), if_neg (by omega), if_neg (by omega), if_pos q] at h; exact h
  · rw [if_neg q1, if_neg q2, if_neg q3, if_neg q6, if_neg q4, if_neg q5] at h; exact h
theorem RS_p {M : zM} {t h L m : Nat} {T : Nat → Int} (c : RS M t T h L m) (hh : h < 1000) : RS (zs M 1280 20 ((h : Int) + 1)) t T (h + 1) L m := ⟨TPr_fr (FrY_z 0 M 20 _ (by omega)) c.1, by rw [zg_zs1, zw_of (by omega) (by omega)]; omega, by rw [zg_zsj _ _ _ _ (by omega)]; exact c.2.2.1, by rw [zg_zsj _ _ _ _ (by omega)]; exact c.2.2.2.1, by rw [zg_zsj _ _ _ _ (by omega)]; exact c.2.2.2.2⟩
/-- the fault is laid, the place stands -/
theorem RX_of {M : zM} {t h L m : Nat} {T : Nat → Int} (c : RS M t T h L m) (hh : h < 1000) : RX (zs M 1280 21 (h : Int)) t T h L L := ⟨TPr_fr (FrY_z 0 M 21 _ (by omega)) c.1, by rw [zg_zsj _ _ _ _ (by omega)]; exact c.2.1, by rw [zg_zs1, zw_n (by omega)], by rw [zg_zsj _ _ _ _ (by omega), c.2.2.2.2]; omega, by rw [zg_zsj _ _ _ _ (by omega), c.2.2.2.2]; omega⟩
theorem l_X8_fig74 {d : Nat} {Q : Int → zM → Prop} (hd : 1 ≤ d) {t f L : Nat} {T : Nat → Int} {M0 M : zM} {v : Int} (hv : zw v = v) (x : RX M t T f L L) (hL : L < 130) (fr : FrY L M0 M) (h : ∀ M2 : zM, FrY L M0 M2 → RX M2 t T f L (L + 1) → Q 0 M2) : wp (Ev d) 8 cX8_figure none Q 74 [some (.ref 1280), some (zI v), none] [] M := by
  obtain ⟨x1, x2, x3, x4, x5⟩ := x
  have e23 : zg M 1280 23 = (L : Int) := by omega
  refine v_X8_figure_74 _ (c_X8_addStep hd 1 v (by omega) (by omega) hv L e23 hL (fun M2 e1 e2 e3 e4 e5 => ?_))
  have f3 : FrY L M M2 := ⟨fun i j b1 b2 => e1 i j (by omega) (by omega), e2⟩
  exact h M2 (FrY_tr fr f3) ⟨TPr_fr f3 x1, by rw [e1 _ _ (by omega) (by omega)]; exact x2, by rw [e1 _ _ (by omega) (by omega)]; exact x3, by rw [e3]; omega, by rw [e3]; omega⟩
theorem l_X8_fig {d : Nat} {Q : Int → zM → Prop} (hd : 1 ≤ d) (t : Nat) (T : Nat → Int) (L m : Nat) (hL : L < 130) (M0 : zM) : ∀ (f h : Nat) (v : Int) (k : Nat) (M : zM), k + f = 4 → 0 < k → h ≤ t → FrY L M0 M → RS M t T h L m → (0 ≤ (nmF t T f h v).2 ∧ (nmF t T f h v).2 < 10000) → (dgB (nbT t T (nmF t T f h v).1) = true → ∀ M2 : zM, FrY L M0 M2 → RX M2 t T (nmF t T f h v).1 L (L + 1) → Q 0 M2) → (¬ dgB (nbT t T (nmF t T f h v).1) = true → ∀ M2 : zM, FrY L M0 M2 → RS M2 t T (nmF t T f h v).1 (L + 1) m → zg M2 1305 (130 + L) = 1 → zg M2 1306 (130 + L) = (nmF t T f h v).2 → Q 0 M2) → wp (Ev d) 8 cX8_figure none Q 4 [some (.ref 1280), some (zI v), some (zI (k : Int))] [] M := by
  have last : ∀ (h : Nat) (v : Int) (k : Nat) (M : zM), 0 < k → k ≤ 4 → h ≤ t → FrY L M0 M → RS M t T h L m → 0 ≤ v ∧ v < 10000 → (dgB (nbT t T h) = true → ∀ M2 : zM, FrY L M0 M2 → RX M2 t T h L (L + 1) → Q 0 M2) → (¬ dgB (nbT t T h) = true → ∀ M2 : zM, FrY L M0 M2 → RS M2 t T h (L + 1) m → zg M2 1305 (130 + L) = 1 → zg M2 1306 (130 + L) = v → Q 0 M2) → wp (Ev d) 8 cX8_figure none Q 52 [some (.ref 1280), some (zI v), some (zI (k : Int))] [] M := by
    intro h v k M k0 k4 hh fr c1 b hY hN
    have t2 := c1.1.2.1
    have bb := nbr_bd c1.1 h
    have wv : zw v = v := zw_of (by omega) (by omega)
    refine v_X8_figure_52 _ _ ?_
    rw [zw_n (a := k) (by omega)]
    refine ⟨fun z => absurd z (by omega), fun _ => c_X8_look hd t T h c1.1 c1.2.1 (c_X8_in hd _ _ _ ?_)⟩
    rw [rb_w bb.1 bb.2, zq_48, zq_57, bz_congr (rb_dg bb.1 bb.2)]
    refine bz_br (fun q => v_X8_figure_74 _ (c_X8_addStep hd 1 v (by omega) (by omega) wv L c1.2.2.2.2 hL (fun M2 e1 e2 e3 e4 e5 => ?_))) (fun q => v_X8_figure_70 _ (c_X8_faulty hd h c1.2.2.1 c1.2.1 (fun M2 e _ => ?_)))
    · have f3 : FrY L M M2 := ⟨fun i j b1 b2 => e1 i j (by omega) (by omega), e2⟩
      exact hN q M2 (FrY_tr fr f3) ⟨TPr_fr f3 c1.1, by rw [e1 _ _ (by omega) (by omega)]; exact c1.2.1, by rw [e1 _ _ (by omega) (by omega)]; exact c1.2.2.1, by rw [e1 _ _ (by omega) (by omega)]; exact c1.2.2.2.1, e3⟩ e4 e5
    · subst e
      exact l_X8_fig74 hd wv (RX_of c1 (by omega)) hL (FrY_tr fr (FrY_z L M 21 _ (by omega))) (hY q)
  intro f
  induction f with
  | zero =>
    intro h v k M e k0 hh fr c1 b hY hN
    refine v_X8_figure_4 _ _ ?_
    rw [zw_n (a := k) (by omega)]
    exact ⟨fun z => absurd z (by omega), fun _ => last h v k M k0 (by omega) hh fr c1 b hY hN⟩
  | succ f ih =>
    intro h v k M e k0 hh fr c1 b hY hN
    have t2 := c1.1.2.1
    have bb := nbr_bd c1.1 h
    refine v_X8_figure_4 _ _ ?_
    rw [zw_n (a := k) (by omega)]
    refine ⟨fun _ => c_X8_look hd t T h c1.1 c1.2.1 (c_X8_in hd _ _ _ ?_), fun z => absurd (by omega) z⟩
    rw [rb_w bb.1 bb.2, zq_48, zq_57, bz_congr (rb_dg bb.1 bb.2)]
    refine bz_br (fun q => ?_) (fun q => c_X8_look hd t T h c1.1 c1.2.1 ?_)
    · rw [nmF, if_neg q] at b hY hN
      exact last h v k M k0 (by omega) hh fr c1 b hY hN
    · rintro _ rfl
      rw [nmF, if_pos q] at b hY hN
      have q2 := dg_i.mp q
      have q3 := nb_t (show nbT t T h ≠ -1 by omega)
      rw [c1.2.1, rb_lo (by omega), show (k : Int) + 1 = ((k + 1 : Nat) : Int) by omega, show 10 * v + nbT t T h - 48 = v * 10 + nbT t T h - 48 by omega]
      exact ih (h + 1) _ (k + 1) _ (by omega) (by omega) (by omega) (FrY_tr fr (FrY_z L M 20 _ (by omega))) (RS_p c1 (by omega)) b hY hN
theorem c_X8_figure {d : Nat} {M : zM} {Q : Int → zM → Prop} (hd : 2 ≤ d) (t : Nat) (T : Nat → Int) (h L m : Nat) (c1 : RS M t T h L m) (hL : L ≤ h) (hh : h ≤ t) (hx : ¬ dgB (nbT t T h) = true → ∀ M2 : zM, FrY L M M2 → RX M2 t T h L (L + 1) → Q 0 M2) (hP : ∀ R, dgB (nbT t T h) = true → opL t T h = some R → PostR t T M h L m R (Q 0)) : Ev d mX8_figure [.ref 1280] M Q := by
  obtain ⟨d, rfl, hdd⟩ := e_of 1 hd; replace hd := hdd
  have t2 := c1.1.2.1
  have bb := nbr_bd c1.1 h
  refine e_X8_figure (v_X8_figure_0 (v_X8_figure_4 _ _ ?_))
  rw [zq_0]
  refine ⟨fun _ => c_X8_look hd t T h c1.1 c1.2.1 (c_X8_in hd _ _ _ ?_), fun z => absurd (by omega) z⟩
  rw [rb_w bb.1 bb.2, zq_48, zq_57, bz_congr (rb_dg bb.1 bb.2)]
  refine bz_br (fun q => v_X8_figure_52 _ _ ?_) (fun q => c_X8_look hd t T h c1.1 c1.2.1 ?_)
  · rw [zq_0]
    refine ⟨fun _ => v_X8_figure_70 _ (c_X8_faulty hd h c1.2.2.1 c1.2.1 (fun M2 e _ => ?_)), fun z => absurd rfl z⟩
    subst e
    exact l_X8_fig74 hd (by decide) (RX_of c1 (by omega)) (by omega) (FrY_z L M 21 _ (by omega)) (hx q)
  · rintro _ rfl
    have eL := opL_d q
    have hP := hP _ q eL
    have n1 := nm_1 q
    have n2 := nm_ok (t := t) (T := T) 4 h 0 1 hh (by omega) (by omega)
    have q2 := dg_i.mp q
    have q3 := nb_t (show nbT t T h ≠ -1 by omega)
    have nm : nmF t T 4 h 0 = nmF t T 3 (h + 1) (0 * 10 + nbT t T h - 48) := by rw [nmF, if_pos q]
    rw [c1.2.1, rb_lo (by omega), show (10 : Int) * 0 + nbT t T h - 48 = 0 * 10 + nbT t T h - 48 by omega, show (0 : Int) + 1 = ((1 : Nat) : Int) by omega]
    refine l_X8_fig hd t T L m (by omega) M 3 (h + 1) _ 1 _ (by omega) (by omega) (by omega) (FrY_z L M 20 _ (by omega)) (RS_p c1 (by omega)) (by rw [← nm]; exact ⟨n2.2.2.1, by have := n2.2.2.2; omega⟩) (fun g M2 f1 x => ?_) (fun g M2 f1 c4 e4 e5 => ?_)
    · rw [← nm] at g x
      rw [if_pos g] at hP
      obtain ⟨x1, x2, x3, x4, x5⟩ := x
      exact hP.2 _ rfl M2 f1 ⟨x1, x2, x3, x4, by omega⟩
    · rw [← nm] at g c4 e5
      rw [if_neg g] at hP
      refine hP.1 rfl M2 f1 c4 ⟨⟨?_, ?_⟩, trivial⟩
      · rw [e4]; unfold tk1; rw [if_pos n2.2.2.1]
      · rw [e5]; unfold tk2; rw [if_pos n2.2.2.1]
