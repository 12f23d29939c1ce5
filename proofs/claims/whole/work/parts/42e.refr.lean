/-! the reference reads -/
def rbC (c : Int) : Int := if c < 128 then c else c - 256
theorem zb_c (c : Nat) (h : c < 256) : z_b (c : Int) = rbC (c : Int) := by
  have : ∀ c : Nat, c < 256 → z_b (c : Int) = rbC (c : Int) := by decide +kernel
  exact this c h
theorem zb_id {v : Int} (h0 : 0 ≤ v) (h1 : v < 128) : z_b v = v := by
  obtain ⟨c, rfl⟩ : ∃ c : Nat, v = (c : Int) := ⟨v.toNat, by omega⟩
  rw [zb_c c (by omega)]
  unfold rbC
  rw [if_pos h1]
theorem rb_eq {c s : Int} (h0 : -1 ≤ c) (h1 : c ≤ 255) (s0 : 0 ≤ s) (s1 : s < 128) : rbC c = s ↔ c = s := by
  unfold rbC
  by_cases q : c < 128
  · rw [if_pos q]
  · rw [if_neg q]; omega
theorem rb_w {c : Int} (h0 : -1 ≤ c) (h1 : c ≤ 255) : zw (rbC c) = rbC c := by
  unfold rbC
  by_cases q : c < 128
  · rw [if_pos q]; exact zw_of (by omega) (by omega)
  · rw [if_neg q]; exact zw_of (by omega) (by omega)
theorem rb_dg {c : Int} (h0 : -1 ≤ c) (h1 : c ≤ 255) : (48 ≤ rbC c ∧ rbC c ≤ 57) ↔ dgB c = true := by
  rw [dg_i]
  unfold rbC
  by_cases q : c < 128
  · rw [if_pos q]
  · rw [if_neg q]; omega
theorem rb_lo {c : Int} (h : c < 128) : rbC c = c := if_pos h
theorem rb_let {c : Int} (h0 : -1 ≤ c) (h1 : c ≤ 255) : zlet (rbC c) = zlet c := by
  unfold rbC
  by_cases q : c < 128
  · rw [if_pos q]
  · rw [if_neg q]
    unfold zlet
    rw [if_neg (by omega), if_neg (by omega), if_neg (by omega), if_neg (by omega), if_neg (by omega), if_neg (by omega), if_neg (by omega), if_neg (by omega), if_neg (by omega), if_neg (by omega), if_neg (by omega), if_neg (by omega)]
def TPr (M : zM) (t : Nat) (T : Nat → Int) : Prop := zg M 1280 19 = (t : Int) ∧ t ≤ 120 ∧ ∀ i : Nat, i < t → zg M 1299 i = z_b (T i) ∧ 0 ≤ T i ∧ T i ≤ 255
def RS (M : zM) (t : Nat) (T : Nat → Int) (h L m : Nat) : Prop := TPr M t T ∧ zg M 1280 20 = (h : Int) ∧ zg M 1280 21 = -1 ∧ zg M 1280 22 = 6 - (m : Int) ∧ zg M 1280 23 = (L : Int)
def RX (M : zM) (t : Nat) (T : Nat → Int) (f A B : Nat) : Prop := TPr M t T ∧ zg M 1280 20 = (f : Int) ∧ zg M 1280 21 = (f : Int) ∧ (A : Int) ≤ zg M 1280 23 ∧ zg M 1280 23 ≤ (B : Int)
def FrY (L : Nat) (M M2 : zM) : Prop := (∀ i j, ¬ (i = 1280 ∧ 20 ≤ j ∧ j ≤ 23) → ¬ ((i = 1305 ∨ i = 1306) ∧ 130 + L ≤ j) → zg M2 i j = zg M i j) ∧ (∀ i j, zh M2 i j = zh M i j)
theorem FrY_rf (L : Nat) (M : zM) : FrY L M M := ⟨fun _ _ _ _ => rfl, fun _ _ => rfl⟩
theorem FrY_tr {L : Nat} {M M2 M3 : zM} (h : FrY L M M2) (g : FrY L M2 M3) : FrY L M M3 := ⟨fun i j a b => by rw [g.1 i j a b, h.1 i j a b], fun i j => by rw [g.2, h.2]⟩
theorem FrY_mo {L L2 : Nat} {M M2 : zM} (q : L ≤ L2) (h : FrY L2 M M2) : FrY L M M2 := ⟨fun i j a b => h.1 i j a (by omega), h.2⟩
theorem FrY_z (L : Nat) (M : zM) (k : Nat) (v : Int) (hk : 20 ≤ k ∧ k ≤ 23) : FrY L M (zs M 1280 k v) := ⟨fun i j a _ => by rw [zg_zs, if_neg (by omega)], fun _ _ => rfl⟩
theorem TPr_fr {L t : Nat} {T : Nat → Int} {M M2 : zM} (h : FrY L M M2) (g : TPr M t T) : TPr M2 t T := ⟨by rw [h.1 _ _ (by omega) (by omega)]; exact g.1, g.2.1, fun i hi => by rw [h.1 _ _ (by omega) (by omega)]; exact g.2.2 i hi⟩
theorem nbr_bd {M : zM} {t : Nat} {T : Nat → Int} (g : TPr M t T) (h : Nat) : -1 ≤ nbT t T h ∧ nbT t T h ≤ 255 := by
  unfold nbT
  by_cases q : h < t
  · rw [if_pos q]; have := g.2.2 h q; omega
  · rw [if_neg q]; omega
theorem c_X8_look {d : Nat} {M : zM} {Q : Int → zM → Prop} (hd : 1 ≤ d) (t : Nat) (T : Nat → Int) (h : Nat) (g : TPr M t T) (hp : zg M 1280 20 = (h : Int)) (hq : Q (rbC (nbT t T h)) M) : Ev d mX8_look [.ref 1280] M Q := by
  obtain ⟨d, rfl, -⟩ := e_of 0 hd
  refine e_X8_look (v_X8_look_0 ?_)
  have t2 := g.2.1
  rw [hp, g.1, show ((h : Int)).toNat = h by omega]
  unfold nbT at hq
  refine ⟨fun q => ⟨by omega, by omega, ?_⟩, fun q => ?_⟩
  · have b := g.2.2 h (by omega)
    rw [if_pos (show h < t by omega)] at hq
    obtain ⟨c, hc⟩ : ∃ c : Nat, T h = (c : Int) := ⟨(T h).toNat, by omega⟩
    rw [b.1, hc, zb_c c (by omega), ← hc]; exact hq
  · rw [if_neg (show ¬ h < t by omega)] at hq; exact hq
theorem c_X8_faulty {d : Nat} {M : zM} {Q : Int → zM → Prop} (hd : 1 ≤ d) (f : Nat) (h5 : zg M 1280 21 = -1) (h4 : zg M 1280 20 = (f : Int)) (h : ∀ M2 : zM, M2 = zs M 1280 21 (f : Int) → zg M2 1280 21 = (f : Int) → Q 0 M2) : Ev d mX8_faulty [.ref 1280] M Q := by
  obtain ⟨d, rfl, -⟩ := e_of 0 hd
  refine e_X8_faulty (v_X8_faulty_0 ?_)
  rw [h5, h4]
  refine ⟨fun _ => ?_, fun z => absurd (by omega) z⟩
  rintro _ rfl
  exact h _ rfl (by rw [zg_zs1, ← h4, zw_zg])
theorem c_X8_addStep {d : Nat} {M : zM} {Q : Int → zM → Prop} (hd : 1 ≤ d) (v w : Int) (hv0 : 0 ≤ v) (hv1 : v < 128) (hw : zw w = w) (L : Nat) (hL : zg M 1280 23 = (L : Int)) (hl : L < 130) (h : ∀ M2 : zM, (∀ i j, ¬ (i = 1280 ∧ j = 23) → ¬ ((i = 1305 ∨ i = 1306) ∧ j = 130 + L) → zg M2 i j = zg M i j) → (∀ i j, zh M2 i j = zh M i j) → zg M2 1280 23 = ((L + 1 : Nat) : Int) → zg M2 1305 (130 + L) = v → zg M2 1306 (130 + L) = w → Q 0 M2) : Ev d mX8_addStep [.ref 1280, zI v, zI w] M Q := by
  obtain ⟨d, rfl, -⟩ := e_of 0 hd
  refine e_X8_addStep _ _ (v_X8_addStep_0 _ _ ?_)
  have e1 : zw (130 + (L : Int)) = ((130 + L : Nat) : Int) := by rw [zw_of (by omega) (by omega)]; omega
  have vb : z_b (z_b v) = v := by rw [zb_id hv0 hv1, zb_id hv0 hv1]
  rw [hL, e1, show (((130 + L : Nat) : Int)).toNat = 130 + L by omega, vb]
  refine ⟨by omega, by omega, ?_⟩
  rintro _ rfl
  rw [zg_zsi _ _ _ _ (by omega), hL, e1, show (((130 + L : Nat) : Int)).toNat = 130 + L by omega]
  refine ⟨by omega, by omega, ?_⟩
  rintro _ rfl _ rfl
  rw [zg_zsi _ _ _ _ (by omega), zg_zsi _ _ _ _ (by omega), hL]
  refine h _ (fun i j a b => ?_) (fun _ _ => rfl) ?_ ?_ ?_
  · rw [zg_zs, if_neg a, zg_zs, if_neg (by omega), zg_zs, if_neg (by omega)]
  · rw [zg_zs1, zw_of (by omega) (by omega)]; omega
  · rw [zg_zsi _ _ _ _ (by omega), zg_zsi _ _ _ _ (by omega), zg_zs1, zw_of (by omega) (by omega)]
  · rw [zg_zsi _ _ _ _ (by omega), zg_zs1, hw]
def PostR (t : Nat) (T : Nat → Int) (M : zM) (h L m : Nat) (R : zRs) (K : zM → Prop) : Prop := (R.2.2 = none → ∀ M2 : zM, FrY L M M2 → RS M2 t T R.1 (L + R.2.1.length) m → StpA M2 (130 + L) R.2.1 → K M2) ∧ (∀ f, R.2.2 = some f → ∀ M2 : zM, FrY L M M2 → RX M2 t T f L (L + (f - h) + 1) → K M2)
def ImR (t : Nat) (T : Nat → Int) (d : Nat) (row : zRow) (m : Nat) (S : Nat → zRs) : Prop := ∀ (h L : Nat) (M : zM) (Q : Int → zM → Prop), RS M t T h L m → L ≤ h → h ≤ t → PostR t T M h L m (S h) (Q 0) → Ev d row [.ref 1280] M Q
theorem StpA_f2 {M M2 : zM} : ∀ (k : Nat) (cs : List Int), (∀ i j, i = 1305 ∨ i = 1306 → k ≤ j → j < k + cs.length → zg M2 i j = zg M i j) → StpA M k cs → StpA M2 k cs
  | k, [], _, _ => trivial
  | k, c :: cs, h, g => by
    have hl : (c :: cs).length = cs.length + 1 := rfl
    exact ⟨⟨by rw [h _ _ (Or.inl rfl) (by omega) (by omega)]; exact g.1.1, by rw [h _ _ (Or.inr rfl) (by omega) (by omega)]; exact g.1.2⟩, StpA_f2 (k + 1) cs (fun i j a b c2 => h i j a (by omega) (by omega)) g.2⟩
theorem it_ok {d t : Nat} {T : Nat → Int} {m : Nat} {row : zRow} {S : Nat → zRs} (hd : 1 ≤ d) (hS : ImR t T d row m S) (hK : ∀ h, h ≤ t → Sok t h (S h)) (M0 : zM) (L0 h0 : Nat) (hL0 : L0 ≤ h0) (h : Nat) (cs : List Int) (M : zM) (s : Int) (K : zM → Prop) (q : 0 ≤ rkO (nbT t T h)) (hs : s = nbT t T h) (a4 : cs.length + h0 ≤ h) (f : FrY L0 M0 M) (c1 : RS M t T h (L0 + cs.length) m) (c2 : StpA M (130 + L0) cs) (kn : (S (h + 1)).2.2 = none → ∀ M7 : zM, FrY L0 M0 M7 → RS M7 t T (S (h + 1)).1 (L0 + (cs ++ (S (h + 1)).2.1 ++ [-(nbT t T h)]).length) m → StpA M7 (130 + L0) (cs ++ (S (h + 1)).2.1 ++ [-(nbT t T h)]) → K M7) (kf : ∀ fl, (S (h + 1)).2.2 = some fl → ∀ M7 : zM, FrY L0 M0 M7 → RX M7 t T fl L0 (L0 + (fl - h0) + 1) → K M7) : Ev d row [.ref 1280] (zs M 1280 20 (zg M 1280 20 + 1)) (fun _ M5 => Ev d mX8_addStep [.ref 1280, zI s, zI 0] M5 (fun _ M7 => K M7)) := by
  subst hs
  have t2 := c1.1.2.1
  have bs := rk_p q
  have bs2 := bs
  unfold bsgn at bs2
  have q3 := nb_t (show nbT t T h ≠ -1 by omega)
  have sk := hK (h + 1) (by omega)
  have fr := FrY_z (L0 + cs.length) M 20 ((h : Int) + 1) (by omega)
  have c3 : RS (zs M 1280 20 ((h : Int) + 1)) t T (h + 1) (L0 + cs.length) m := ⟨TPr_fr fr c1.1, by rw [zg_zs1, zw_of (by omega) (by omega)]; omega, by rw [zg_zsj _ _ _ _ (by omega)]; exact c1.2.2.1, by rw [zg_zsj _ _ _ _ (by omega)]; exact c1.2.2.2.1, by rw [zg_zsj _ _ _ _ (by omega)]; exact c1.2.2.2.2⟩
  rw [c1.2.1]
  refine hS (h + 1) (L0 + cs.length) _ _ c3 (by omega) (by omega) ⟨fun e M2 f2 c4 c5 => ?_, fun fl e M2 f2 c4 => ?_⟩
  · obtain ⟨s1, s2, s3, s4, s5⟩ := sk.1 e
    have ll : (cs ++ (S (h + 1)).2.1 ++ [-(nbT t T h)]).length = cs.length + (S (h + 1)).2.1.length + 1 := by simp; omega
    refine c_X8_addStep hd _ 0 (by omega) (by omega) (by decide) (L0 + cs.length + (S (h + 1)).2.1.length) c4.2.2.2.2 (by omega) (fun M3 e1 e2 e3 e4 e5 => kn e M3 ?_ ?_ ?_)
    · exact FrY_tr f (FrY_tr (FrY_mo (by omega) fr) (FrY_tr (FrY_mo (by omega) f2) ⟨fun i j b1 b2 => e1 i j (by omega) (by omega), e2⟩))
    · have f3 : FrY L0 M2 M3 := ⟨fun i j b1 b2 => e1 i j (by omega) (by omega), e2⟩
      exact ⟨TPr_fr f3 c4.1, by rw [e1 _ _ (by omega) (by omega)]; exact c4.2.1, by rw [e1 _ _ (by omega) (by omega)]; exact c4.2.2.1, by rw [e1 _ _ (by omega) (by omega)]; exact c4.2.2.2.1, by rw [e3, ll]; omega⟩
    · rw [StpA_app, StpA_app]
      have tk : tk1 (-(nbT t T h)) = nbT t T h ∧ tk2 (-(nbT t T h)) = 0 := by
        unfold tk1 tk2
        rw [if_neg (by omega), if_neg (by omega), if_neg (by omega), if_neg (by omega), if_neg (by omega), if_neg (by omega)]
        exact ⟨by omega, rfl⟩
      have el : 130 + L0 + (cs ++ (S (h + 1)).2.1).length = 130 + (L0 + cs.length + (S (h + 1)).2.1.length) := by simp; omega
      refine ⟨⟨StpA_f2 _ _ (fun i j b1 b2 b3 => ?_) c2, StpA_f2 _ _ (fun i j b1 b2 b3 => e1 _ _ (by omega) (by omega)) (by rw [show 130 + L0 + cs.length = 130 + (L0 + cs.length) by omega]; exact c5)⟩, ⟨?_, ?_⟩, trivial⟩
      · rw [e1 _ _ (by omega) (by omega), f2.1 _ _ (by omega) (by omega), fr.1 _ _ (by omega) (by omega)]
      · rw [el, tk.1]; exact e4
      · rw [el, tk.2]; exact e5
  · have s2 := sk.2 fl e
    obtain ⟨x1, x2, x3, x4, x5⟩ := id c4
    obtain ⟨LL, hLL⟩ : ∃ LL : Nat, zg M2 1280 23 = (LL : Int) := ⟨(zg M2 1280 23).toNat, by omega⟩
    refine c_X8_addStep hd _ 0 (by omega) (by omega) (by decide) LL hLL (by omega) (fun M3 e1 e2 e3 e4 e5 => kf fl e M3 ?_ ?_)
    · exact FrY_tr f (FrY_tr (FrY_mo (by omega) fr) (FrY_tr (FrY_mo (by omega) f2) ⟨fun i j b1 b2 => e1 i j (by omega) (by omega), e2⟩))
    · have f3 : FrY L0 M2 M3 := ⟨fun i j b1 b2 => e1 i j (by omega) (by omega), e2⟩
      exact ⟨TPr_fr f3 x1, by rw [e1 _ _ (by omega) (by omega)]; exact x2, by rw [e1 _ _ (by omega) (by omega)]; exact x3, by rw [e3]; omega, by rw [e3]; omega⟩
theorem rk_no {t h : Nat} {T : Nat → Int} (q : ¬ h < t) {r : Int} (hr : 0 ≤ r) : ¬ rkO (nbT t T h) = r := by
  have : nbT t T h = -1 := by unfold nbT; rw [if_neg q]
  rw [this]
  have : rkO (-1) = -1 := by decide
  omega
theorem rk_4 (c : Int) : rkO c = 4 ↔ c = 42 ∨ c = 47 ∨ c = 37 := by
  unfold rkO
  by_cases a1 : c = 124
  · rw [if_pos a1]; omega
  rw [if_neg a1]
  by_cases a2 : c = 38
  · rw [if_pos a2]; omega
  rw [if_neg a2]
  by_cases a3 : c = 60 ∨ c = 61 ∨ c = 62
  · rw [if_pos a3]; omega
  rw [if_neg a3]
  by_cases a4 : c = 43 ∨ c = 45
  · rw [if_pos a4]; omega
  rw [if_neg a4]
  by_cases a5 : c = 42 ∨ c = 47 ∨ c = 37
  · rw [if_pos a5]; omega
  rw [if_neg a5]; omega
theorem rk_3 (c : Int) : rkO c = 3 ↔ c = 43 ∨ c = 45 := by
  unfold rkO
  by_cases a1 : c = 124
  · rw [if_pos a1]; omega
  rw [if_neg a1]
  by_cases a2 : c = 38
  · rw [if_pos a2]; omega
  rw [if_neg a2]
  by_cases a3 : c = 60 ∨ c = 61 ∨ c = 62
  · rw [if_pos a3]; omega
  rw [if_neg a3]
  by_cases a4 : c = 43 ∨ c = 45
  · rw [if_pos a4]; omega
  rw [if_neg a4]
  by_cases a5 : c = 42 ∨ c = 47 ∨ c = 37
  · rw [if_pos a5]; omega
  rw [if_neg a5]; omega
theorem rk_2 (c : Int) : rkO c = 2 ↔ c = 60 ∨ c = 61 ∨ c = 62 := by
  unfold rkO
  by_cases a1 : c = 124
  · rw [if_pos a1]; omega
  rw [if_neg a1]
  by_cases a2 : c = 38
  · rw [if_pos a2]; omega
  rw [if_neg a2]
  by_cases a3 : c = 60 ∨ c = 61 ∨ c = 62
  · rw [if_pos a3]; omega
  rw [if_neg a3]
  by_cases a4 : c = 43 ∨ c = 45
  · rw [if_pos a4]; omega
  rw [if_neg a4]
  by_cases a5 : c = 42 ∨ c = 47 ∨ c = 37
  · rw [if_pos a5]; omega
  rw [if_neg a5]; omega
theorem rk_1 (c : Int) : rkO c = 1 ↔ c = 38 := by
  unfold rkO
  by_cases a1 : c = 124
  · rw [if_pos a1]; omega
  rw [if_neg a1]
  by_cases a2 : c = 38
  · rw [if_pos a2]; omega
  rw [if_neg a2]
  by_cases a3 : c = 60 ∨ c = 61 ∨ c = 62
  · rw [if_pos a3]; omega
  rw [if_neg a3]
  by_cases a4 : c = 43 ∨ c = 45
  · rw [if_pos a4]; omega
  rw [if_neg a4]
  by_cases a5 : c = 42 ∨ c = 47 ∨ c = 37
  · rw [if_pos a5]; omega
  rw [if_neg a5]; omega
theorem rk_0 (c : Int) : rkO c = 0 ↔ c = 124 := by
  unfold rkO
  by_cases a1 : c = 124
  · rw [if_pos a1]; omega
  rw [if_neg a1]
  by_cases a2 : c = 38
  · rw [if_pos a2]; omega
  rw [if_neg a2]
  by_cases a3 : c = 60 ∨ c = 61 ∨ c = 62
  · rw [if_pos a3]; omega
  rw [if_neg a3]
  by_cases a4 : c = 43 ∨ c = 45
  · rw [if_pos a4]; omega
  rw [if_neg a4]
  by_cases a5 : c = 42 ∨ c = 47 ∨ c = 37
  · rw [if_pos a5]; omega
  rw [if_neg a5]; omega
theorem l_X8_product {d : Nat} {Q : Int → zM → Prop} (hd : 1 ≤ d) {t : Nat} {T : Nat → Int} {m : Nat} {S : Nat → zRs} (hS : ImR t T d mX8_operand m S) (hK : ∀ h, h ≤ t → Sok t h (S h)) (M0 : zM) (L0 h0 : Nat) (hL0 : L0 ≤ h0) : ∀ (x h : Nat) (cs : List Int) (M : zM), t ≤ h + x → h0 + 1 ≤ h → h ≤ t → cs.length + h0 ≤ h → FrY L0 M0 M → RS M t T h (L0 + cs.length) m → StpA M (130 + L0) cs → PostR t T M0 h0 L0 m (lp t T S 4 x h cs) (Q 0) → wp (Ev d) 8 cX8_product none Q 4 [some (.ref 1280), none] [] M := by
  intro x
  induction x with
  | zero =>
    intro h cs M a1 a2 a3 a4 f c1 c2 hP
    have q := rk_no (T := T) (show ¬ h < t by omega) (r := 4) (by omega)
    rw [lp_x q] at hP
    have hh := hP.1 rfl M f c1 c2
    have bb := nbr_bd c1.1 h
    rw [rk_4] at q
    refine v_X8_product_4 ?_
    rw [c1.2.2.1]
    refine ⟨fun _ => ?_, fun z => absurd (by omega) z⟩
    refine c_X8_look hd t T h c1.1 c1.2.1 ?_
    rw [rb_w bb.1 bb.2, rb_eq bb.1 bb.2 (s := 42) (by omega) (by omega)]
    refine ⟨fun z => absurd z (by omega), fun _ => ?_⟩
    refine c_X8_look hd t T h c1.1 c1.2.1 ?_
    rw [rb_w bb.1 bb.2, rb_eq bb.1 bb.2 (s := 47) (by omega) (by omega)]
    refine ⟨fun z => absurd z (by omega), fun _ => ?_⟩
    refine c_X8_look hd t T h c1.1 c1.2.1 ?_
    rw [rb_w bb.1 bb.2, rb_eq bb.1 bb.2 (s := 37) (by omega) (by omega)]
    exact ⟨fun z => absurd z (by omega), fun _ => hh⟩
  | succ x ih =>
    intro h cs M a1 a2 a3 a4 f c1 c2 hP
    have t2 := c1.1.2.1
    have bb := nbr_bd c1.1 h
    by_cases q : rkO (nbT t T h) = 4
    · have q4 := (rk_4 _).mp q
      have q3 := nb_t (show nbT t T h ≠ -1 by omega)
      have body : wp (Ev d) 8 cX8_product none Q 38 [some (.ref 1280), none] [] M := by
          refine v_X8_product_38 (c_X8_look hd t T h c1.1 c1.2.1 ?_)
          rintro _ rfl
          refine it_ok hd hS hK M0 L0 h0 hL0 h cs M _ (fun M7 => wp (Ev d) 8 cX8_product none Q 4 [some (.ref 1280), none] [] M7) (by omega) (rb_lo (by omega)) a4 f c1 c2 (fun e M7 f7 c7 c8 => ?_) (fun fl e M7 f7 c7 => ?_)
          · rw [lp_n q e (by omega)] at hP
            obtain ⟨s1, s2, s3, s4, s5⟩ := (hK (h + 1) (by omega)).1 e
            exact ih _ _ M7 (by omega) (by omega) s2 (by simp; omega) f7 c7 c8 hP
          · rw [lp_f q e] at hP
            have hh := hP.2 fl rfl M7 f7 c7
            refine v_X8_product_4 ?_
            rw [c7.2.2.1]
            exact ⟨fun z => absurd z (by omega), fun _ => hh⟩
      refine v_X8_product_4 ?_
      rw [c1.2.2.1]
      refine ⟨fun _ => ?_, fun z => absurd (by omega) z⟩
      refine c_X8_look hd t T h c1.1 c1.2.1 ?_
      rw [rb_w bb.1 bb.2, rb_eq bb.1 bb.2 (s := 42) (by omega) (by omega)]
      refine ⟨fun _ => body, fun y0 => ?_⟩
      refine c_X8_look hd t T h c1.1 c1.2.1 ?_
      rw [rb_w bb.1 bb.2, rb_eq bb.1 bb.2 (s := 47) (by omega) (by omega)]
      refine ⟨fun _ => body, fun y1 => ?_⟩
      refine c_X8_look hd t T h c1.1 c1.2.1 ?_
      rw [rb_w bb.1 bb.2, rb_eq bb.1 bb.2 (s := 37) (by omega) (by omega)]
      exact ⟨fun _ => body, fun z => absurd q4 (by omega)⟩
    · rw [lp_x q] at hP
      have hh := hP.1 rfl M f c1 c2
      rw [rk_4] at q
      refine v_X8_product_4 ?_
      rw [c1.2.2.1]
      refine ⟨fun _ => ?_, fun z => absurd (by omega) z⟩
      refine c_X8_look hd t T h c1.1 c1.2.1 ?_
      rw [rb_w bb.1 bb.2, rb_eq bb.1 bb.2 (s := 42) (by omega) (by omega)]
      refine ⟨fun z => absurd z (by omega), fun _ => ?_⟩
      refine c_X8_look hd t T h c1.1 c1.2.1 ?_
      rw [rb_w bb.1 bb.2, rb_eq bb.1 bb.2 (s := 47) (by omega) (by omega)]
      refine ⟨fun z => absurd z (by omega), fun _ => ?_⟩
      refine c_X8_look hd t T h c1.1 c1.2.1 ?_
      rw [rb_w bb.1 bb.2, rb_eq bb.1 bb.2 (s := 37) (by omega) (by omega)]
      exact ⟨fun z => absurd z (by omega), fun _ => hh⟩
theorem l_X8_sum {d : Nat} {Q : Int → zM → Prop} (hd : 1 ≤ d) {t : Nat} {T : Nat → Int} {m : Nat} {S : Nat → zRs} (hS : ImR t T d mX8_product m S) (hK : ∀ h, h ≤ t → Sok t h (S h)) (M0 : zM) (L0 h0 : Nat) (hL0 : L0 ≤ h0) : ∀ (x h : Nat) (cs : List Int) (M : zM), t ≤ h + x → h0 + 1 ≤ h → h ≤ t → cs.length + h0 ≤ h → FrY L0 M0 M → RS M t T h (L0 + cs.length) m → StpA M (130 + L0) cs → PostR t T M0 h0 L0 m (lp t T S 3 x h cs) (Q 0) → wp (Ev d) 8 cX8_sum none Q 4 [some (.ref 1280), none] [] M := by
  intro x
  induction x with
  | zero =>
    intro h cs M a1 a2 a3 a4 f c1 c2 hP
    have q := rk_no (T := T) (show ¬ h < t by omega) (r := 3) (by omega)
    rw [lp_x q] at hP
    have hh := hP.1 rfl M f c1 c2
    have bb := nbr_bd c1.1 h
    rw [rk_3] at q
    refine v_X8_sum_4 ?_
    rw [c1.2.2.1]
    refine ⟨fun _ => ?_, fun z => absurd (by omega) z⟩
    refine c_X8_look hd t T h c1.1 c1.2.1 ?_
    rw [rb_w bb.1 bb.2, rb_eq bb.1 bb.2 (s := 43) (by omega) (by omega)]
    refine ⟨fun z => absurd z (by omega), fun _ => ?_⟩
    refine c_X8_look hd t T h c1.1 c1.2.1 ?_
    rw [rb_w bb.1 bb.2, rb_eq bb.1 bb.2 (s := 45) (by omega) (by omega)]
    exact ⟨fun z => absurd z (by omega), fun _ => hh⟩
  | succ x ih =>
    intro h cs M a1 a2 a3 a4 f c1 c2 hP
    have t2 := c1.1.2.1
    have bb := nbr_bd c1.1 h
    by_cases q : rkO (nbT t T h) = 3
    · have q4 := (rk_3 _).mp q
      have q3 := nb_t (show nbT t T h ≠ -1 by omega)
      have body : wp (Ev d) 8 cX8_sum none Q 29 [some (.ref 1280), none] [] M := by
          refine v_X8_sum_29 (c_X8_look hd t T h c1.1 c1.2.1 ?_)
          rintro _ rfl
          refine it_ok hd hS hK M0 L0 h0 hL0 h cs M _ (fun M7 => wp (Ev d) 8 cX8_sum none Q 4 [some (.ref 1280), none] [] M7) (by omega) (rb_lo (by omega)) a4 f c1 c2 (fun e M7 f7 c7 c8 => ?_) (fun fl e M7 f7 c7 => ?_)
          · rw [lp_n q e (by omega)] at hP
            obtain ⟨s1, s2, s3, s4, s5⟩ := (hK (h + 1) (by omega)).1 e
            exact ih _ _ M7 (by omega) (by omega) s2 (by simp; omega) f7 c7 c8 hP
          · rw [lp_f q e] at hP
            have hh := hP.2 fl rfl M7 f7 c7
            refine v_X8_sum_4 ?_
            rw [c7.2.2.1]
            exact ⟨fun z => absurd z (by omega), fun _ => hh⟩
      refine v_X8_sum_4 ?_
      rw [c1.2.2.1]
      refine ⟨fun _ => ?_, fun z => absurd (by omega) z⟩
      refine c_X8_look hd t T h c1.1 c1.2.1 ?_
      rw [rb_w bb.1 bb.2, rb_eq bb.1 bb.2 (s := 43) (by omega) (by omega)]
      refine ⟨fun _ => body, fun y0 => ?_⟩
      refine c_X8_look hd t T h c1.1 c1.2.1 ?_
      rw [rb_w bb.1 bb.2, rb_eq bb.1 bb.2 (s := 45) (by omega) (by omega)]
      exact ⟨fun _ => body, fun z => absurd q4 (by omega)⟩
    · rw [lp_x q] at hP
      have hh := hP.1 rfl M f c1 c2
      rw [rk_3] at q
      refine v_X8_sum_4 ?_
      rw [c1.2.2.1]
      refine ⟨fun _ => ?_, fun z => absurd (by omega) z⟩
      refine c_X8_look hd t T h c1.1 c1.2.1 ?_
      rw [rb_w bb.1 bb.2, rb_eq bb.1 bb.2 (s := 43) (by omega) (by omega)]
      refine ⟨fun z => absurd z (by omega), fun _ => ?_⟩
      refine c_X8_look hd t T h c1.1 c1.2.1 ?_
      rw [rb_w bb.1 bb.2, rb_eq bb.1 bb.2 (s := 45) (by omega) (by omega)]
      exact ⟨fun z => absurd z (by omega), fun _ => hh⟩
theorem l_X8_both {d : Nat} {Q : Int → zM → Prop} (hd : 1 ≤ d) {t : Nat} {T : Nat → Int} {m : Nat} {S : Nat → zRs} (hS : ImR t T d mX8_compared m S) (hK : ∀ h, h ≤ t → Sok t h (S h)) (M0 : zM) (L0 h0 : Nat) (hL0 : L0 ≤ h0) : ∀ (x h : Nat) (cs : List Int) (M : zM), t ≤ h + x → h0 + 1 ≤ h → h ≤ t → cs.length + h0 ≤ h → FrY L0 M0 M → RS M t T h (L0 + cs.length) m → StpA M (130 + L0) cs → PostR t T M0 h0 L0 m (lp t T S 1 x h cs) (Q 0) → wp (Ev d) 8 cX8_both none Q 4 [some (.ref 1280)] [] M := by
  intro x
  induction x with
  | zero =>
    intro h cs M a1 a2 a3 a4 f c1 c2 hP
    have q := rk_no (T := T) (show ¬ h < t by omega) (r := 1) (by omega)
    rw [lp_x q] at hP
    have hh := hP.1 rfl M f c1 c2
    have bb := nbr_bd c1.1 h
    rw [rk_1] at q
    refine v_X8_both_4 ?_
    rw [c1.2.2.1]
    refine ⟨fun _ => ?_, fun z => absurd (by omega) z⟩
    refine c_X8_look hd t T h c1.1 c1.2.1 ?_
    rw [rb_w bb.1 bb.2, rb_eq bb.1 bb.2 (s := 38) (by omega) (by omega)]
    exact ⟨fun z => absurd z (by omega), fun _ => hh⟩
  | succ x ih =>
    intro h cs M a1 a2 a3 a4 f c1 c2 hP
    have t2 := c1.1.2.1
    have bb := nbr_bd c1.1 h
    by_cases q : rkO (nbT t T h) = 1
    · have q4 := (rk_1 _).mp q
      have q3 := nb_t (show nbT t T h ≠ -1 by omega)
      have body : ∀ M3 : zM, M3 = zs M 1280 20 (zg M 1280 20 + 1) → Ev d mX8_compared [.ref 1280] M3 (fun r4 M5 => Ev d mX8_addStep [.ref 1280, zI 38, zI 0] M5 (fun r6 M7 => wp (Ev d) 8 cX8_both none Q 4 [some (.ref 1280)] [] M7)) := by
          rintro _ rfl
          refine it_ok hd hS hK M0 L0 h0 hL0 h cs M _ (fun M7 => wp (Ev d) 8 cX8_both none Q 4 [some (.ref 1280)] [] M7) (by omega) (by omega) a4 f c1 c2 (fun e M7 f7 c7 c8 => ?_) (fun fl e M7 f7 c7 => ?_)
          · rw [lp_n q e (by omega)] at hP
            obtain ⟨s1, s2, s3, s4, s5⟩ := (hK (h + 1) (by omega)).1 e
            exact ih _ _ M7 (by omega) (by omega) s2 (by simp; omega) f7 c7 c8 hP
          · rw [lp_f q e] at hP
            have hh := hP.2 fl rfl M7 f7 c7
            refine v_X8_both_4 ?_
            rw [c7.2.2.1]
            exact ⟨fun z => absurd z (by omega), fun _ => hh⟩
      refine v_X8_both_4 ?_
      rw [c1.2.2.1]
      refine ⟨fun _ => ?_, fun z => absurd (by omega) z⟩
      refine c_X8_look hd t T h c1.1 c1.2.1 ?_
      rw [rb_w bb.1 bb.2, rb_eq bb.1 bb.2 (s := 38) (by omega) (by omega)]
      exact ⟨fun _ => body, fun z => absurd q4 z⟩
    · rw [lp_x q] at hP
      have hh := hP.1 rfl M f c1 c2
      rw [rk_1] at q
      refine v_X8_both_4 ?_
      rw [c1.2.2.1]
      refine ⟨fun _ => ?_, fun z => absurd (by omega) z⟩
      refine c_X8_look hd t T h c1.1 c1.2.1 ?_
      rw [rb_w bb.1 bb.2, rb_eq bb.1 bb.2 (s := 38) (by omega) (by omega)]
      exact ⟨fun z => absurd z (by omega), fun _ => hh⟩
theorem l_X8_either {d : Nat} {Q : Int → zM → Prop} (hd : 1 ≤ d) {t : Nat} {T : Nat → Int} {m : Nat} {S : Nat → zRs} (hS : ImR t T d mX8_both m S) (hK : ∀ h, h ≤ t → Sok t h (S h)) (M0 : zM) (L0 h0 : Nat) (hL0 : L0 ≤ h0) : ∀ (x h : Nat) (cs : List Int) (M : zM), t ≤ h + x → h0 + 1 ≤ h → h ≤ t → cs.length + h0 ≤ h → FrY L0 M0 M → RS M t T h (L0 + cs.length) m → StpA M (130 + L0) cs → PostR t T M0 h0 L0 m (lp t T S 0 x h cs) (Q 0) → wp (Ev d) 8 cX8_either none Q 4 [some (.ref 1280)] [] M := by
  intro x
  induction x with
  | zero =>
    intro h cs M a1 a2 a3 a4 f c1 c2 hP
    have q := rk_no (T := T) (show ¬ h < t by omega) (r := 0) (by omega)
    rw [lp_x q] at hP
    have hh := hP.1 rfl M f c1 c2
    have bb := nbr_bd c1.1 h
    rw [rk_0] at q
    refine v_X8_either_4 ?_
    rw [c1.2.2.1]
    refine ⟨fun _ => ?_, fun z => absurd (by omega) z⟩
    refine c_X8_look hd t T h c1.1 c1.2.1 ?_
    rw [rb_w bb.1 bb.2, rb_eq bb.1 bb.2 (s := 124) (by omega) (by omega)]
    exact ⟨fun z => absurd z (by omega), fun _ => hh⟩
  | succ x ih =>
    intro h cs M a1 a2 a3 a4 f c1 c2 hP
    have t2 := c1.1.2.1
    have bb := nbr_bd c1.1 h
    by_cases q : rkO (nbT t T h) = 0
    · have q4 := (rk_0 _).mp q
      have q3 := nb_t (show nbT t T h ≠ -1 by omega)
      have body : ∀ M3 : zM, M3 = zs M 1280 20 (zg M 1280 20 + 1) → Ev d mX8_both [.ref 1280] M3 (fun r4 M5 => Ev d mX8_addStep [.ref 1280, zI 124, zI 0] M5 (fun r6 M7 => wp (Ev d) 8 cX8_either none Q 4 [some (.ref 1280)] [] M7)) := by
          rintro _ rfl
          refine it_ok hd hS hK M0 L0 h0 hL0 h cs M _ (fun M7 => wp (Ev d) 8 cX8_either none Q 4 [some (.ref 1280)] [] M7) (by omega) (by omega) a4 f c1 c2 (fun e M7 f7 c7 c8 => ?_) (fun fl e M7 f7 c7 => ?_)
          · rw [lp_n q e (by omega)] at hP
            obtain ⟨s1, s2, s3, s4, s5⟩ := (hK (h + 1) (by omega)).1 e
            exact ih _ _ M7 (by omega) (by omega) s2 (by simp; omega) f7 c7 c8 hP
          · rw [lp_f q e] at hP
            have hh := hP.2 fl rfl M7 f7 c7
            refine v_X8_either_4 ?_
            rw [c7.2.2.1]
            exact ⟨fun z => absurd z (by omega), fun _ => hh⟩
      refine v_X8_either_4 ?_
      rw [c1.2.2.1]
      refine ⟨fun _ => ?_, fun z => absurd (by omega) z⟩
      refine c_X8_look hd t T h c1.1 c1.2.1 ?_
      rw [rb_w bb.1 bb.2, rb_eq bb.1 bb.2 (s := 124) (by omega) (by omega)]
      exact ⟨fun _ => body, fun z => absurd q4 z⟩
    · rw [lp_x q] at hP
      have hh := hP.1 rfl M f c1 c2
      rw [rk_0] at q
      refine v_X8_either_4 ?_
      rw [c1.2.2.1]
      refine ⟨fun _ => ?_, fun z => absurd (by omega) z⟩
      refine c_X8_look hd t T h c1.1 c1.2.1 ?_
      rw [rb_w bb.1 bb.2, rb_eq bb.1 bb.2 (s := 124) (by omega) (by omega)]
      exact ⟨fun z => absurd z (by omega), fun _ => hh⟩
