/-! the reference's findKnown -/
theorem z_z1 : zw (z_z 1) = 1 := by decide
theorem z_z0 : zw (z_z 0) = 0 := by decide
theorem kup_skip {V : zV} {ok : Nat → Bool} : ∀ (x i : Nat), (∀ t, i ≤ t → t < i + x → ok (V 6 t).toNat = false) → ∀ p, kup V ok (i + x) p = kup V ok i p
  | 0, i, _, p => rfl
  | x + 1, i, h, p => by
    rw [show i + (x + 1) = (i + x) + 1 by omega, kup, if_neg (by rw [h (i + x) (by omega) (by omega)]; decide)]
    exact kup_skip x i (fun t h1 h2 => h t h1 (by omega)) p
def FrF (M M2 : zM) : Prop := (∀ i j, i ≠ 1313 → i ≠ 1314 → zg M2 i j = zg M i j) ∧ (∀ i j, zh M2 i j = zh M i j)
theorem FrF_rf (M : zM) : FrF M M := ⟨fun _ _ _ _ => rfl, fun _ _ => rfl⟩
theorem FrF_tr {M M2 M3 : zM} (h : FrF M M2) (g : FrF M2 M3) : FrF M M3 := ⟨fun i j a b => by rw [g.1 i j a b, h.1 i j a b], fun i j => by rw [g.2, h.2]⟩
theorem FrF_3 (M : zM) (j : Nat) (v : Int) : FrF M (zs M 1313 j v) := ⟨fun i j a b => by rw [zg_zsi _ _ _ _ a], fun _ _ => rfl⟩
theorem FrF_4 (M : zM) (j : Nat) (v : Int) : FrF M (zs M 1314 j v) := ⟨fun i j a b => by rw [zg_zsi _ _ _ _ b], fun _ _ => rfl⟩
theorem FrF_R {M M2 : zM} (h : FrF M M2) : FrR M M2 := ⟨fun i j _ _ a b => h.1 i j a b, h.2⟩
/-- done says: not to be met, or met ahead of place j -/
def DnA (M : zM) (k : Nat) (V : zV) (ok : Nat → Bool) (j : Nat) : Prop := ∀ m : Nat, m < k → (zg M 1314 m = 0 ↔ ok m = true ∧ ∀ i : Nat, i < j → V 6 i ≠ (m : Int))
theorem l_find2 {E : zE} {Q : Int → zM → Prop} (n : Nat) (hn : n ≤ 12) (y w : Int) (M0 : zM) (h1 : zg M0 1280 1 = (n : Int)) (h : ∀ M2 : zM, FrF M0 M2 → KnA M2 1313 n (fun p => 2 ^ p) → wp E 8 cX8_findKnown (none) Q 27 [some (.ref 1280), some (zI y), some (zI w), some (zI 0), none, none, none, none] [] M2) : ∀ (x i : Nat) (M : zM), i + x = n → FrF M0 M → KnA M 1313 i (fun p => 2 ^ p) → wp E 8 cX8_findKnown (none) Q 2 [some (.ref 1280), some (zI y), some (zI w), some (zI (i : Int)), none, none, none, none] [] M
  | 0, i, M, e, f, g => by
    refine v_X8_findKnown_2 _ _ _ ?_
    rw [zw_of (a := (i : Int)) (by omega) (by omega), f.1 1280 1 (by omega) (by omega), h1]
    refine ⟨fun z => absurd z (by omega), fun _ => h M f ?_⟩
    rw [show n = i by omega]; exact g
  | x + 1, i, M, e, f, g => by
    refine v_X8_findKnown_2 _ _ _ ?_
    rw [zw_of (a := (i : Int)) (by omega) (by omega), f.1 1280 1 (by omega) (by omega), h1, show ((i : Int)).toNat = i by omega, zb_shl (by omega), show (i : Int) + 1 = ((i + 1 : Nat) : Int) by omega]
    refine ⟨fun _ => ⟨by omega, by omega, ?_⟩, fun z => absurd (by omega) z⟩
    rintro _ rfl
    refine l_find2 n hn y w M0 h1 h x (i + 1) _ (by omega) (FrF_tr f (FrF_3 _ _ _)) (fun p hp => ?_)
    have t := tp_12 (p := i) (by omega)
    by_cases q : p = i
    · subst q; rw [zg_zs1]; exact zw_n (by omega)
    · rw [zg_zsj _ _ _ _ q]; exact g p (by omega)
theorem l_find27 {d : Nat} {Q : Int → zM → Prop} (hd : 2 ≤ d) (n k am : Nat) (V : zV) (hV : Vok n k V) (y : Int) (hy : zw y = y) (w : Nat) (hw : w < 65536) (M0 : zM) (h : ∀ M2 : zM, FrF M0 M2 → (∀ p, zg M2 1313 p = zg M0 1313 p) → DnA M2 k V (okB V y w) 0 → wp (Ev d) 8 cX8_findKnown (none) Q 81 [some (.ref 1280), none, none, some (zI 1), none, none, none, none] [] M2) : ∀ (x i : Nat) (M : zM), i + x = k → FrF M0 M → (∀ p, zg M 1313 p = zg M0 1313 p) → RV n k V am M → (∀ m : Nat, m < i → (zg M 1314 m = 0 ↔ okB V y w m = true)) → wp (Ev d) 8 cX8_findKnown (none) Q 27 [some (.ref 1280), some (zI y), some (zI (w : Int)), some (zI (i : Int)), none, none, none, none] [] M
  | 0, i, M, e, f, f3, hR, g => by
    have hk := hV.2.1
    refine v_X8_findKnown_27 _ _ _ ?_
    rw [zw_of (a := (i : Int)) (by omega) (by omega), hR.2.1]
    refine ⟨fun z => absurd z (by omega), fun _ => h M f f3 (fun m hm => ?_)⟩
    rw [g m (by omega)]
    exact ⟨fun z => ⟨z, fun i hi => absurd hi (by omega)⟩, fun z => z.1⟩
  | x + 1, i, M, e, f, f3, hR, g => by
    have hk := hV.2.1
    have nx : ∀ v : Int, (zw v = 0 ↔ okB V y w i = true) → wp (Ev d) 8 cX8_findKnown (none) Q 27 [some (.ref 1280), some (zI y), some (zI (w : Int)), some (zI ((i : Int) + 1)), none, none, none, none] [] (zs M 1314 i v) := by
      intro v hv
      rw [show (i : Int) + 1 = ((i + 1 : Nat) : Int) by omega]
      refine l_find27 hd n k am V hV y hy w hw M0 h x (i + 1) _ (by omega) (FrF_tr f (FrF_4 _ _ _)) (fun p => by rw [zg_zsi _ _ _ _ (by omega)]; exact f3 p) (RV_R (FrF_R (FrF_4 _ _ _)) hR) (fun m hm => ?_)
      by_cases q : m = i
      · subst q; rw [zg_zs1]; exact hv
      · rw [zg_zsj _ _ _ _ q]; exact g m (by omega)
    refine v_X8_findKnown_27 _ _ _ ?_
    have bit : z_and (z_shr (w : Int) (i : Int)) 1 = bz (w.testBit i = true) := zb_bit (by omega) (by omega)
    rw [zw_of (a := (i : Int)) (by omega) (by omega), hR.2.1, show ((i : Int)).toNat = i by omega, (hR.2.2.2.2.1 i (by omega)).2.2, hy, bit, bz_1]
    refine ⟨fun _ => ⟨by omega, by omega, fun q => ⟨by omega, by omega, ?_⟩, fun q => ⟨fun q2 => ⟨by omega, by omega, ?_⟩, fun q2 => ?_⟩⟩, fun z => absurd (by omega) z⟩
    · rintro _ rfl
      refine nx _ ?_
      rw [z_z1]
      refine ⟨fun z => by omega, fun z => ?_⟩
      unfold okB at z; simp at z; omega
    · rintro _ rfl
      refine nx _ ?_
      rw [z_z1]
      refine ⟨fun z => by omega, fun z => ?_⟩
      unfold okB at z; simp [q2] at z
    · refine c_X8_counts hd n k am V hV hR i (by omega) (bz_br (fun q3 => ⟨by omega, by omega, ?_⟩) (fun q3 => ⟨by omega, by omega, ?_⟩))
      · rintro _ rfl
        refine nx _ ?_
        rw [z_z1]
        refine ⟨fun z => by omega, fun z => ?_⟩
        unfold okB at z
        rw [Bool.and_eq_true, decide_eq_true_iff] at z
        exact absurd z.1.2 q3
      · rintro _ rfl
        refine nx _ ?_
        rw [z_z0]
        refine ⟨fun _ => ?_, fun _ => rfl⟩
        unfold okB
        rw [Bool.and_eq_true, decide_eq_true_iff]
        refine ⟨⟨by omega, q3⟩, ?_⟩
        rw [Bool.not_eq_true] at q2
        rw [q2]; rfl
/-- the scan: the earliest that is not done -/
theorem l_find91 {E : zE} {Q : Int → zM → Prop} (n k am : Nat) (V : zV) (hV : Vok n k V) (M : zM) (hR : RV n k V am M) (hn : (∀ m : Nat, m < k → zg M 1314 m ≠ 0) → wp E 8 cX8_findKnown (none) Q 152 [some (.ref 1280), none, none, none, some (zI (-1)), none, none, none] [zI 0] M) (hs : ∀ t : Nat, t < k → zg M 1314 t = 0 → (∀ m : Nat, m < k → zg M 1314 m = 0 → V 5 t < V 5 m ∨ (V 5 t = V 5 m ∧ t ≤ m)) → wp E 8 cX8_findKnown (none) Q 152 [some (.ref 1280), none, none, none, some (zI (t : Int)), none, none, none] [zI 1] M) : ∀ (x i : Nat) (t : Int), i + x = k → ((t = -1 ∧ ∀ m : Nat, m < i → zg M 1314 m ≠ 0) ∨ (0 ≤ t ∧ t < (i : Int) ∧ zg M 1314 t.toNat = 0 ∧ ∀ m : Nat, m < i → zg M 1314 m = 0 → V 5 t.toNat < V 5 m ∨ (V 5 t.toNat = V 5 m ∧ t ≤ (m : Int)))) → wp E 8 cX8_findKnown (none) Q 91 [some (.ref 1280), none, none, none, some (zI t), some (zI (i : Int)), none, none] [] M
  | 0, i, t, e, g => by
    have hk := hV.2.1
    refine v_X8_findKnown_91 _ _ ?_
    rw [zw_of (a := (i : Int)) (by omega) (by omega), hR.2.1, zw_of (a := t) (by omega) (by omega)]
    refine ⟨fun z => absurd z (by omega), fun _ => ?_⟩
    have ei : i = k := by omega
    subst ei
    rcases g with ⟨g1, g2⟩ | ⟨g1, g2, g3, g4⟩
    · subst g1
      exact ⟨fun _ => hn g2, fun z => absurd (by omega) z⟩
    · refine ⟨fun z => absurd z (by omega), fun _ => ?_⟩
      obtain ⟨u, hu⟩ : ∃ u : Nat, t = (u : Int) := ⟨t.toNat, by omega⟩
      subst hu
      rw [show ((u : Int)).toNat = u by omega] at g3 g4
      refine hs u (by omega) g3 (fun m h1 h2 => ?_)
      have := g4 m h1 h2
      omega
  | x + 1, i, t, e, g => by
    have hk := hV.2.1
    have keep : zg M 1314 i ≠ 0 ∨ (0 ≤ t ∧ ¬ V 5 i < V 5 t.toNat) → wp E 8 cX8_findKnown (none) Q 91 [some (.ref 1280), none, none, none, some (zI t), some (zI ((i : Int) + 1)), none, none] [] M := by
      intro hq
      rw [show (i : Int) + 1 = ((i + 1 : Nat) : Int) by omega]
      refine l_find91 n k am V hV M hR hn hs x (i + 1) t (by omega) ?_
      rcases g with ⟨g1, g2⟩ | ⟨g1, g2, g3, g4⟩
      · refine Or.inl ⟨g1, fun m hm => ?_⟩
        by_cases q : m = i
        · subst q; rcases hq with hq | hq
          · exact hq
          · omega
        · exact g2 m (by omega)
      · refine Or.inr ⟨g1, by omega, g3, fun m hm h0 => ?_⟩
        by_cases q : m = i
        · subst q; rcases hq with hq | hq
          · exact absurd h0 hq
          · omega
        · exact g4 m (by omega) h0
    have take : zg M 1314 i = 0 → (t < 0 ∨ V 5 i < V 5 t.toNat) → wp E 8 cX8_findKnown (none) Q 91 [some (.ref 1280), none, none, none, some (zI (i : Int)), some (zI ((i : Int) + 1)), none, none] [] M := by
      intro h0 hq
      rw [show (i : Int) + 1 = ((i + 1 : Nat) : Int) by omega]
      refine l_find91 n k am V hV M hR hn hs x (i + 1) (i : Int) (by omega) (Or.inr ⟨by omega, by omega, by rw [show ((i : Int)).toNat = i by omega]; exact h0, fun m hm hm0 => ?_⟩)
      rw [show ((i : Int)).toNat = i by omega]
      by_cases q : m = i
      · subst q; right; omega
      · rcases g with ⟨g1, g2⟩ | ⟨g1, g2, g3, g4⟩
        · exact absurd hm0 (g2 m (by omega))
        · have := g4 m (by omega) hm0
          rcases hq with hq | hq
          · omega
          · omega
    refine v_X8_findKnown_91 _ _ ?_
    have ct : -1 ≤ t ∧ t < (i : Int) := by
      rcases g with ⟨g1, g2⟩ | ⟨g1, g2, g3, g4⟩ <;> omega
    rw [zw_of (a := (i : Int)) (by omega) (by omega), hR.2.1, zw_of (a := t) (by omega) (by omega), show ((i : Int)).toNat = i by omega, (hR.2.2.2.2.1 i (by omega)).2.2]
    refine ⟨fun _ => ⟨by omega, by omega, fun q => ⟨fun q2 => take q (Or.inl q2), fun q2 => ⟨by omega, by omega, by omega, by omega, ?_⟩⟩, fun q => keep (Or.inl q)⟩, fun z => absurd (by omega) z⟩
    rw [(hR.2.2.2.2.1 t.toNat (by omega)).2.2]
    exact ⟨fun q3 => take q (Or.inr q3), fun q3 => keep (Or.inr ⟨by omega, q3⟩)⟩
theorem or_r1 (x y : Nat) : x ||| (x ||| y) = x ||| y := by rw [← Nat.or_assoc, Nat.or_self]
theorem or_r2 (x y : Nat) : y ||| (x ||| y) = y ||| x := by rw [Nat.or_comm x y, or_r1]
theorem l_find81 {E : zE} {Q : Int → zM → Prop} (n k am : Nat) (V : zV) (hV : Vok n k V) (ok : Nat → Bool) (M0 : zM) (h : ∀ M2 : zM, FrF M0 M2 → KnA M2 1313 n (kup V ok k) → Q 0 M2) : ∀ (x j : Nat) (M : zM), j + x = k → FrF M0 M → RV n k V am M → KnA M 1313 n (kup V ok j) → DnA M k V ok j → wp E 8 cX8_findKnown (none) Q 81 [some (.ref 1280), none, none, some (zI 1), none, none, none, none] [] M := by
  intro x
  induction x using Nat.strongRecOn with
  | _ x ih =>
    intro j M e f hR hK hD
    obtain ⟨v1, v2, v3, v4, v5, v6, v7, v8⟩ := id hV
    refine v_X8_findKnown_81 _ ?_
    rw [zq_1]
    refine ⟨fun z => absurd z (by omega), fun _ => ?_⟩
    refine l_find91 n k am V hV M hR (fun g => ?_) (fun t t1 t2 t3 => ?_) k 0 (-1) (by omega) (Or.inl ⟨rfl, fun m hm => absurd hm (by omega)⟩)
    · refine v_X8_findKnown_152 _ _ ?_
      rw [zq_0]
      refine ⟨fun _ => v_X8_findKnown_81 _ ?_, fun z => absurd rfl z⟩
      rw [zq_0]
      refine ⟨fun _ => h M f ?_, fun z => absurd rfl z⟩
      intro p hp
      have sk := kup_skip (V := V) (ok := ok) x j (fun i h1 h2 => ?_) p
      · rw [e] at sk; rw [sk]; exact hK p hp
      · have b := v5 i (by omega)
        rw [Bool.eq_false_iff]
        intro hok
        refine g (V 6 i).toNat (by omega) ((hD _ (by omega)).mpr ⟨hok, fun i2 hi2 eq => ?_⟩)
        have s := v6 i2 i (by omega) (by omega)
        rw [eq, show (((V 6 i).toNat : Nat) : Int) = V 6 i by omega] at s
        omega
    · have dt := (hD t t1).mp t2
      obtain ⟨i0, hi1, hi2⟩ := v7 t t1
      have hij : j ≤ i0 := by
        by_cases q : j ≤ i0
        · exact q
        · exact absurd hi2 (dt.2 i0 (by omega))
      have sk : ∀ p, kup V ok i0 p = kup V ok j p := by
        intro p
        have := kup_skip (V := V) (ok := ok) (i0 - j) j (fun i h1 h2 => ?_) p
        · rw [show j + (i0 - j) = i0 by omega] at this; exact this
        · have b := v5 i (by omega)
          rw [Bool.eq_false_iff]
          intro hok
          have h0 : zg M 1314 (V 6 i).toNat = 0 := by
            refine (hD _ (by omega)).mpr ⟨hok, fun i2 hi3 eq => ?_⟩
            have s := v6 i2 i (by omega) (by omega)
            rw [eq, show (((V 6 i).toNat : Nat) : Int) = V 6 i by omega] at s
            omega
          have s := v6 i i0 (by omega) hi1
          have s2 := t3 _ (by omega) h0
          rw [hi2, show ((t : Int)).toNat = t by omega] at s
          omega
      have ke : ∀ p, kup V ok (i0 + 1) p = ks V t (kup V ok j) p := by
        intro p
        rw [kup, hi2, show ((t : Int)).toNat = t by omega, if_pos dt.1]
        have : kup V ok i0 = kup V ok j := funext sk
        rw [this]
      have hb := kup_lt (ok := ok) hV j (by omega)
      generalize hKK : kup V ok j = K at hK ke hb
      have g := v4 t t1
      obtain ⟨g1, g2, g3⟩ := hR.2.2.2.2.1 t t1
      obtain ⟨a, ha⟩ : ∃ a : Nat, V 3 t = (a : Int) := ⟨(V 3 t).toNat, by omega⟩
      obtain ⟨b, hb2⟩ : ∃ b : Nat, V 4 t = (b : Int) := ⟨(V 4 t).toNat, by omega⟩
      have ta : ((a : Int)).toNat = a := by omega
      have tb : ((b : Int)).toNat = b := by omega
      have ka := hK a (by omega)
      have kb := hK b (by omega)
      have la := hb a (by omega)
      have lb := hb b (by omega)
      have pa := tp_12 (p := a) (by omega)
      have pb := tp_12 (p := b) (by omega)
      have wa : zw (a : Int) = (a : Int) := zw_of (by omega) (by omega)
      have wb : zw (b : Int) = (b : Int) := zw_of (by omega) (by omega)
      have kse : ∀ p, ks V t K p = if p = a then K p ||| (if V 9 2 = 1 then K b else 2 ^ b) else if p = b then K p ||| (if V 9 2 = 1 then K a else 2 ^ a) else K p := by
        intro p; unfold ks; rw [ha, hb2, ta, tb]
      have fin : ∀ (x2 y2 : Nat), x2 < 4096 → y2 < 4096 → (∀ p, p < n → ks V t K p = if p = a then x2 else if p = b then y2 else K p) → wp E 8 cX8_findKnown (none) Q 81 [some (.ref 1280), none, none, some (zI 1), none, none, none, none] [] (zs (zs (zs M 1314 t (z_z 1)) 1313 a (x2 : Int)) 1313 b (y2 : Int)) := by
        intro x2 y2 hx hy e2
        have fr : FrF M (zs (zs (zs M 1314 t (z_z 1)) 1313 a (x2 : Int)) 1313 b (y2 : Int)) := FrF_tr (FrF_4 _ _ _) (FrF_tr (FrF_3 _ _ _) (FrF_3 _ _ _))
        refine ih (k - (i0 + 1)) (by omega) (i0 + 1) _ (by omega) (FrF_tr f fr) (RV_R (FrF_R fr) hR) (fun p hp => ?_) (fun m hm => ?_)
        · rw [ke, e2 p hp]
          by_cases q1 : p = b
          · subst q1; rw [zg_zs1, if_neg (by omega), if_pos rfl]; exact zw_of (by omega) (by omega)
          · rw [zg_zsj _ _ _ _ q1, if_neg q1]
            by_cases q2 : p = a
            · subst q2; rw [zg_zs1, if_pos rfl]; exact zw_of (by omega) (by omega)
            · rw [zg_zsj _ _ _ _ q2, if_neg q2, zg_zsi _ _ _ _ (by omega)]; exact hK p hp
        · rw [zg_zsi _ _ _ _ (by omega), zg_zsi _ _ _ _ (by omega)]
          by_cases q1 : m = t
          · subst q1
            rw [zg_zs1, z_z1]
            exact ⟨fun z => by omega, fun z => absurd hi2 (z.2 i0 (by omega))⟩
          · rw [zg_zsj _ _ _ _ q1, hD m hm]
            refine ⟨fun z => ⟨z.1, fun i hi eq => ?_⟩, fun z => ⟨z.1, fun i hi => z.2 i (by omega)⟩⟩
            by_cases q2 : i < j
            · exact z.2 i q2 eq
            · by_cases q3 : i = i0
              · subst q3; rw [hi2] at eq; omega
              · have hok := z.1
                have h0 : zg M 1314 m = 0 := (hD m hm).mpr z
                have s := v6 i i0 (by omega) hi1
                have s2 := t3 m hm h0
                rw [hi2, eq, show ((t : Int)).toNat = t by omega, show ((m : Int)).toNat = m by omega] at s
                omega
      have h9 := hR.2.2.1
      refine v_X8_findKnown_152 _ _ ?_
      rw [zq_1]
      refine ⟨fun z => absurd z (by omega), fun _ => ?_⟩
      rw [zw_of (a := (t : Int)) (by omega) (by omega), show ((t : Int)).toNat = t by omega]
      refine ⟨by omega, by omega, ?_⟩
      rintro _ rfl
      have z4 : ∀ i j, i ≠ 1314 → zg (zs M 1314 t (z_z 1)) i j = zg M i j := fun i j q => zg_zsi _ _ _ _ q
      rw [z4 1287 _ (by omega), z4 1288 _ (by omega), g1, g2, ha, hb2, ta, tb, z4 1313 _ (by omega), z4 1313 _ (by omega), ka, kb, z4 1280 _ (by omega), h9, zb_or (by omega) (by omega), zb_shl (p := b) (by omega)]
      refine ⟨by omega, by omega, by omega, by omega, by omega, by omega, by omega, by omega, by omega, by omega, fun q => v_X8_findKnown_228 _ _ _ _ _ _ _ ?_, fun q => v_X8_findKnown_228 _ _ _ _ _ _ _ ?_⟩
      · have lo := or_12 la lb
        rw [wa, wb, ta, tb, zb_or (by omega) (by omega)]
        refine ⟨by omega, by omega, ?_⟩
        rintro _ rfl
        rw [zg_zsi _ _ _ _ (by omega), z4 1280 _ (by omega), h9, zg_zsj _ _ _ _ (by omega), z4 1313 _ (by omega), kb, zb_or (by omega) (by omega), or_r1, or_r2]
        refine ⟨by omega, by omega, fun _ => ⟨by omega, by omega, ?_⟩, fun z => absurd q z⟩
        rintro _ rfl
        refine fin _ _ lo (or_12 lb la) (fun p hp => ?_)
        rw [kse, if_pos q, if_pos q]
        by_cases q1 : p = a
        · subst q1; (repeat rw [if_pos rfl])
        · rw [if_neg q1, if_neg q1]
          by_cases q2 : p = b
          · subst q2; (repeat rw [if_pos rfl])
          · rw [if_neg q2, if_neg q2]
      · rw [wa, wb, ta, tb, zb_or (by omega) (by omega)]
        refine ⟨by omega, by omega, ?_⟩
        rintro _ rfl
        rw [zg_zsi _ _ _ _ (by omega), z4 1280 _ (by omega), h9, zg_zsj _ _ _ _ (by omega), z4 1313 _ (by omega), kb, zb_shl (p := a) (by omega), zb_or (a := K b) (b := 2 ^ a) (by omega) (by omega)]
        refine ⟨by omega, by omega, fun z => absurd z q, fun _ => ⟨by omega, by omega, ?_⟩⟩
        rintro _ rfl
        refine fin _ _ (or_12 la pb) (or_12 lb pa) (fun p hp => ?_)
        rw [kse, if_neg q, if_neg q]
        by_cases q1 : p = a
        · subst q1; (repeat rw [if_pos rfl])
        · rw [if_neg q1, if_neg q1]
          by_cases q2 : p = b
          · subst q2; (repeat rw [if_pos rfl])
          · rw [if_neg q2, if_neg q2]
theorem c_X8_findKnown {d : Nat} {M : zM} {Q : Int → zM → Prop} (hd : 3 ≤ d) (n k am : Nat) (V : zV) (hV : Vok n k V) (hR : RV n k V am M) (y : Int) (hy : zw y = y) (w : Nat) (hw : w < 65536) (h : ∀ M2 : zM, FrF M M2 → KnA M2 1313 n (kup V (okB V y w) k) → Q 0 M2) : Ev d mX8_findKnown [.ref 1280, zI y, zI (w : Int)] M Q := by
  obtain ⟨d, rfl, hdd⟩ := e_of 2 hd; replace hd := hdd
  refine e_X8_findKnown _ _ (v_X8_findKnown_0 _ _ (l_find2 n hV.1 y _ M hR.1 (fun M2 a1 a2 => ?_) n 0 M (by omega) (FrF_rf _) (fun p hp => absurd hp (by omega))))
  refine l_find27 hd n k am V hV y hy w hw M2 (fun M3 b1 b2 b3 => ?_) k 0 M2 (by omega) (FrF_rf _) (fun _ => rfl) (RV_R (FrF_R a1) hR) (fun m hm => absurd hm (by omega))
  exact l_find81 n k am V hV _ M (fun M4 c1 c2 => h M4 c1 c2) k 0 M3 (by omega) (FrF_tr a1 b1) (RV_R (FrF_R (FrF_tr a1 b1)) hR) (fun p hp => by rw [b2]; exact a2 p hp) b3
