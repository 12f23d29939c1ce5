/-! the reference's lines and text -/
theorem zs_id {v : Int} (h0 : 0 ≤ v) (h1 : v < 256) : z_s v = v := by
  obtain ⟨c, rfl⟩ : ∃ c : Nat, v = (c : Int) := ⟨v.toNat, by omega⟩
  have : ∀ c : Nat, c < 256 → z_s (c : Int) = (c : Int) := by decide +kernel
  exact this c (by omega)
def FrZ (L k : Nat) (M M2 : zM) : Prop := (∀ i j, ¬ (i = 1280 ∧ 20 ≤ j ∧ j ≤ 23) → ¬ ((i = 1305 ∨ i = 1306) ∧ 130 + L ≤ j) → ¬ (i = 1307 ∧ j = 1) → ¬ ((i = 1308 ∨ i = 1309) ∧ 61 + k ≤ j) → zg M2 i j = zg M i j) ∧ (∀ i j, zh M2 i j = zh M i j)
theorem FrZ_tr {L k : Nat} {M M2 M3 : zM} (h : FrZ L k M M2) (g : FrZ L k M2 M3) : FrZ L k M M3 := ⟨fun i j a b c e => by rw [g.1 i j a b c e, h.1 i j a b c e], fun i j => by rw [g.2, h.2]⟩
theorem FrZ_mo {L L2 k k2 : Nat} {M M2 : zM} (q : L ≤ L2) (q2 : k ≤ k2) (h : FrZ L2 k2 M M2) : FrZ L k M M2 := ⟨fun i j a b c e => h.1 i j a (by omega) c (by omega), h.2⟩
theorem FrY_Z {L k : Nat} {M M2 : zM} (h : FrY L M M2) : FrZ L k M M2 := ⟨fun i j a b _ _ => h.1 i j a b, h.2⟩
theorem TPr_Z {L k t : Nat} {T : Nat → Int} {M M2 : zM} (h : FrZ L k M M2) (g : TPr M t T) : TPr M2 t T := ⟨by rw [h.1 _ _ (by omega) (by omega) (by omega) (by omega)]; exact g.1, g.2.1, fun i hi => by rw [h.1 _ _ (by omega) (by omega) (by omega) (by omega)]; exact g.2.2 i hi⟩
def PostM (t : Nat) (T : Nat → Int) (M : zM) (L k : Nat) (R : zRl) (K : zM → Prop) : Prop := (R.2.2 = none → ∀ M2 : zM, FrZ L k M M2 → RS M2 t T R.1 (L + (lwS R.2.1).length) 6 → StpA M2 (130 + L) (lwS R.2.1) → zg M2 1308 (61 + k) = ((L + (R.2.1.1.getD []).length : Nat) : Int) → zg M2 1309 (61 + k) = ((L + (lwS R.2.1).length : Nat) : Int) → zg M2 1307 1 = ((k + 1 : Nat) : Int) → K M2) ∧ (∀ f : Nat, R.2.2 = some f → ∀ M2 : zM, FrZ L k M M2 → zg M2 1280 21 = (f : Int) → K M2)
theorem l_X8_line66 {d : Nat} {Q : Int → zM → Prop} (L k : Nat) (hk : k ≤ 60) (M : zM) (h7 : zg M 1307 1 = (k : Int)) (h : ∀ M2 : zM, (∀ i j, ¬ (i = 1309 ∧ j = 61 + k) → ¬ (i = 1307 ∧ j = 1) → zg M2 i j = zg M i j) → (∀ i j, zh M2 i j = zh M i j) → zg M2 1309 (61 + k) = z_s (z_s (zg M 1280 23)) → zg M2 1307 1 = ((k + 1 : Nat) : Int) → Q 0 M2) : wp (Ev d) 8 cX8_line none Q 66 [some (.ref 1280), some (zI (61 + (k : Int)))] [] M := by
  have e1 : zw (61 + (k : Int)) = ((61 + k : Nat) : Int) := by rw [zw_of (by omega) (by omega)]; omega
  refine v_X8_line_66 _ ?_
  rw [e1, show (((61 + k : Nat) : Int)).toNat = 61 + k by omega]
  refine ⟨by omega, by omega, ?_⟩
  rintro _ rfl _ rfl
  rw [zg_zsi _ _ _ _ (by omega), h7]
  refine h _ (fun i j a b => by rw [zg_zs, if_neg b, zg_zs, if_neg a]) (fun _ _ => rfl) ?_ ?_
  · rw [zg_zsi _ _ _ _ (by omega), zg_zs1, zx_s]
  · rw [zg_zs1, zw_of (by omega) (by omega)]; omega
theorem c_X8_line {d : Nat} {M : zM} {Q : Int → zM → Prop} (hd : 59 ≤ d) (t : Nat) (T : Nat → Int) (h L k : Nat) (c1 : RS M t T h L 6) (hL : L ≤ h) (hh : h ≤ t) (hk : k ≤ 60) (h7 : zg M 1307 1 = (k : Int)) (hP : PostM t T M L k (liS t T h) (Q 0)) : Ev d mX8_line [.ref 1280] M Q := by
  obtain ⟨d, rfl, hdd⟩ := e_of 58 hd; replace hd := hdd
  have t2 := c1.1.2.1
  have e1 : zw (61 + (k : Int)) = ((61 + k : Nat) : Int) := by rw [zw_of (by omega) (by omega)]; omega
  have s := Sok_ei (T := T) hh
  refine e_X8_line (v_X8_line_0 ?_)
  rw [h7, e1, show (((61 + k : Nat) : Int)).toNat = 61 + k by omega, c1.2.2.2.2, zs_id (v := (L : Int)) (by omega) (by omega), zs_id (v := (L : Int)) (by omega) (by omega)]
  refine ⟨by omega, by omega, ?_⟩
  rintro _ rfl
  have fz : FrZ L k M (zs M 1308 (61 + k) (L : Int)) := ⟨fun i j _ _ _ b => by rw [zg_zs, if_neg (by omega)], fun _ _ => rfl⟩
  have c2 : RS (zs M 1308 (61 + k) (L : Int)) t T h L 6 := ⟨TPr_Z fz c1.1, by rw [zg_zsi _ _ _ _ (by omega)]; exact c1.2.1, by rw [zg_zsi _ _ _ _ (by omega)]; exact c1.2.2.1, by rw [zg_zsi _ _ _ _ (by omega)]; exact c1.2.2.2.1, by rw [zg_zsi _ _ _ _ (by omega)]; exact c1.2.2.2.2⟩
  refine er_ok (t := t) (T := T) hd h L _ _ c2 hL hh ⟨fun e M2 f2 c4 c5 => ?_, fun fl e M2 f2 c4 => ?_⟩
  · obtain ⟨s1, s2, s3, s4, s5⟩ := s.1 e
    have bb := nbr_bd c4.1 (eiS t T h).1
    rw [c4.2.2.1]
    refine ⟨fun _ => c_X8_look (by omega) t T _ c4.1 c4.2.1 ?_, fun z => absurd (by omega) z⟩
    rw [rb_w bb.1 bb.2, rb_eq bb.1 bb.2 (s := 63) (by omega) (by omega)]
    refine ⟨fun q => ?_, fun q => ?_⟩
    · have q3 := nb_t (show nbT t T (eiS t T h).1 ≠ -1 by omega)
      rintro _ rfl
      rw [c4.2.1]
      have c6 := RS_p c4 (by omega)
      refine ⟨by omega, by omega, ?_⟩
      rintro _ rfl
      rw [c6.2.2.2.2, zs_id (v := ((L + (eiS t T h).2.1.length : Nat) : Int)) (by omega) (by omega), zs_id (v := ((L + (eiS t T h).2.1.length : Nat) : Int)) (by omega) (by omega)]
      have fz2 : FrZ L k (zs M2 1280 20 (((eiS t T h).1 : Int) + 1)) (zs (zs M2 1280 20 (((eiS t T h).1 : Int) + 1)) 1308 (61 + k) ((L + (eiS t T h).2.1.length : Nat) : Int)) := ⟨fun i j _ _ _ b => by rw [zg_zs, if_neg (by omega)], fun _ _ => rfl⟩
      have c7 : RS (zs (zs M2 1280 20 (((eiS t T h).1 : Int) + 1)) 1308 (61 + k) ((L + (eiS t T h).2.1.length : Nat) : Int)) t T ((eiS t T h).1 + 1) (L + (eiS t T h).2.1.length) 6 := ⟨TPr_Z fz2 c6.1, by rw [zg_zsi _ _ _ _ (by omega)]; exact c6.2.1, by rw [zg_zsi _ _ _ _ (by omega)]; exact c6.2.2.1, by rw [zg_zsi _ _ _ _ (by omega)]; exact c6.2.2.2.1, by rw [zg_zsi _ _ _ _ (by omega)]; exact c6.2.2.2.2⟩
      have u := Sok_ei (t := t) (T := T) (h := (eiS t T h).1 + 1) (by omega)
      have fa : FrZ L k M (zs (zs M2 1280 20 (((eiS t T h).1 : Int) + 1)) 1308 (61 + k) ((L + (eiS t T h).2.1.length : Nat) : Int)) := FrZ_tr fz (FrZ_tr (FrY_Z f2) (FrZ_tr (FrY_Z (FrY_z L M2 20 _ (by omega))) fz2))
      refine er_ok (t := t) (T := T) hd _ _ _ _ c7 (by omega) (by omega) ⟨fun e2 M4 f4 c8 c9 => ?_, fun fl e2 M4 f4 c8 => ?_⟩
      · obtain ⟨u1, u2, u3, u4, u5⟩ := u.1 e2
        rw [liS_t e q e2] at hP
        have ls : lwS (some (eiS t T h).2.1, (eiS t T ((eiS t T h).1 + 1)).2.1) = (eiS t T h).2.1 ++ (eiS t T ((eiS t T h).1 + 1)).2.1 := rfl
        have ll : L + ((eiS t T h).2.1 ++ (eiS t T ((eiS t T h).1 + 1)).2.1).length = L + (eiS t T h).2.1.length + (eiS t T ((eiS t T h).1 + 1)).2.1.length := by simp; omega
        have h74 : zg M4 1307 1 = (k : Int) := by rw [f4.1 _ _ (by omega) (by omega), zg_zsi _ _ _ _ (by omega), zg_zsi _ _ _ _ (by omega), f2.1 _ _ (by omega) (by omega), zg_zsi _ _ _ _ (by omega), h7]
        refine l_X8_line66 L k hk M4 h74 (fun M5 g1 g2 g3 g4 => ?_)
        have f5 : FrZ L k M4 M5 := ⟨fun i j _ _ a b => g1 i j (by omega) a, g2⟩
        rw [c8.2.2.2.2, zs_id (v := ((L + (eiS t T h).2.1.length + (eiS t T ((eiS t T h).1 + 1)).2.1.length : Nat) : Int)) (by omega) (by omega), zs_id (v := ((L + (eiS t T h).2.1.length + (eiS t T ((eiS t T h).1 + 1)).2.1.length : Nat) : Int)) (by omega) (by omega)] at g3
        refine hP.1 rfl M5 (FrZ_tr fa (FrZ_tr (FrZ_mo (by omega) (Nat.le_refl k) (FrY_Z f4)) f5)) ?_ ?_ ?_ ?_ g4
        · show RS M5 t T (eiS t T ((eiS t T h).1 + 1)).1 (L + (lwS (some (eiS t T h).2.1, (eiS t T ((eiS t T h).1 + 1)).2.1)).length) 6
          rw [ls, ll]
          exact ⟨TPr_Z f5 c8.1, by rw [g1 _ _ (by omega) (by omega)]; exact c8.2.1, by rw [g1 _ _ (by omega) (by omega)]; exact c8.2.2.1, by rw [g1 _ _ (by omega) (by omega)]; exact c8.2.2.2.1, by rw [g1 _ _ (by omega) (by omega)]; exact c8.2.2.2.2⟩
        · show StpA M5 (130 + L) (lwS (some (eiS t T h).2.1, (eiS t T ((eiS t T h).1 + 1)).2.1))
          rw [ls, StpA_app]
          refine ⟨StpA_f2 _ _ (fun i j b1 b2 b3 => ?_) c5, StpA_f2 _ _ (fun i j b1 _ _ => g1 _ _ (by omega) (by omega)) (by rw [show 130 + L + (eiS t T h).2.1.length = 130 + (L + (eiS t T h).2.1.length) by omega]; exact c9)⟩
          rw [g1 _ _ (by omega) (by omega), f4.1 _ _ (by omega) (by omega), zg_zsi _ _ _ _ (by omega), zg_zsi _ _ _ _ (by omega)]
        · show zg M5 1308 (61 + k) = ((L + (eiS t T h).2.1.length : Nat) : Int)
          rw [g1 _ _ (by omega) (by omega), f4.1 _ _ (by omega) (by omega), zg_zs1, zw_of (by omega) (by omega)]
        · show zg M5 1309 (61 + k) = ((L + (lwS (some (eiS t T h).2.1, (eiS t T ((eiS t T h).1 + 1)).2.1)).length : Nat) : Int)
          rw [ls, ll, g3]
      · rw [liS_tf e q e2] at hP
        have h74 : zg M4 1307 1 = (k : Int) := by rw [f4.1 _ _ (by omega) (by omega), zg_zsi _ _ _ _ (by omega), zg_zsi _ _ _ _ (by omega), f2.1 _ _ (by omega) (by omega), zg_zsi _ _ _ _ (by omega), h7]
        refine l_X8_line66 L k hk M4 h74 (fun M5 g1 g2 g3 g4 => ?_)
        have f5 : FrZ L k M4 M5 := ⟨fun i j _ _ a b => g1 i j (by omega) a, g2⟩
        exact hP.2 fl rfl M5 (FrZ_tr fa (FrZ_tr (FrZ_mo (by omega) (Nat.le_refl k) (FrY_Z f4)) f5)) (by rw [g1 _ _ (by omega) (by omega)]; exact c8.2.2.1)
    · rw [liS_n e q] at hP
      have h74 : zg M2 1307 1 = (k : Int) := by rw [f2.1 _ _ (by omega) (by omega), zg_zsi _ _ _ _ (by omega), h7]
      refine l_X8_line66 L k hk M2 h74 (fun M5 g1 g2 g3 g4 => ?_)
      have f5 : FrZ L k M2 M5 := ⟨fun i j _ _ a b => g1 i j (by omega) a, g2⟩
      rw [c4.2.2.2.2, zs_id (v := ((L + (eiS t T h).2.1.length : Nat) : Int)) (by omega) (by omega), zs_id (v := ((L + (eiS t T h).2.1.length : Nat) : Int)) (by omega) (by omega)] at g3
      refine hP.1 rfl M5 (FrZ_tr fz (FrZ_tr (FrY_Z f2) f5)) ⟨TPr_Z f5 c4.1, by rw [g1 _ _ (by omega) (by omega)]; exact c4.2.1, by rw [g1 _ _ (by omega) (by omega)]; exact c4.2.2.1, by rw [g1 _ _ (by omega) (by omega)]; exact c4.2.2.2.1, by rw [g1 _ _ (by omega) (by omega)]; exact c4.2.2.2.2⟩ (StpA_f2 _ _ (fun i j b1 _ _ => g1 _ _ (by omega) (by omega)) c5) ?_ g3 g4
      show zg M5 1308 (61 + k) = ((L + 0 : Nat) : Int)
      rw [g1 _ _ (by omega) (by omega), f2.1 _ _ (by omega) (by omega), zg_zs1, zw_of (by omega) (by omega)]; omega
  · rw [liS_f e] at hP
    rw [c4.2.2.1]
    refine ⟨fun z => absurd z (by omega), fun _ => ?_⟩
    have h74 : zg M2 1307 1 = (k : Int) := by rw [f2.1 _ _ (by omega) (by omega), zg_zsi _ _ _ _ (by omega), h7]
    refine l_X8_line66 L k hk M2 h74 (fun M5 g1 g2 g3 g4 => ?_)
    have f5 : FrZ L k M2 M5 := ⟨fun i j _ _ a b => g1 i j (by omega) a, g2⟩
    exact hP.2 fl rfl M5 (FrZ_tr fz (FrZ_tr (FrY_Z f2) f5)) (by rw [g1 _ _ (by omega) (by omega)]; exact c4.2.2.1)
