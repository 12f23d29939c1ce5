/-! pairs: body, trace, count, keep, row, element -/
theorem IS_fr2 {M M2 : zM} (hF : ∀ i j, ((640 ≤ i ∧ i < 1024) ∨ i = 1324 ∨ i = 1325) → zg M2 i j = zg M i j) (hH : ∀ i j, zh M2 i j = zh M i j) (hb : zg M 1280 39 ≤ zg M2 1280 39) (hI : IS M) : IS M2 := by
  intro j hj
  have h := hI j hj
  have e : ∀ k, zg M2 (640 + 64 * j) k = zg M (640 + 64 * j) k := fun k => hF _ _ (Or.inl (by omega))
  unfold ISj at h ⊢
  simp only [e, hH, hF 1324 _ (Or.inr (Or.inl rfl)), hF 1325 _ (Or.inr (Or.inr rfl))]
  rcases h with ⟨a1, a2, a3, a4⟩ | h
  · exact Or.inl ⟨a1, a2, a3, by omega⟩
  · exact Or.inr h
theorem p_body {d : Nat} {M : zM} (hd : 3 ≤ d) (v : Int) (hv : zw v = v) (hI : Inv M) : Pr d mX7_body mX8_body [zI v] M := by
  obtain ⟨nb, n1, n2, n3, n4⟩ := hI.2.2.2.2.2.2.2.2.2.2.2.1
  obtain ⟨d, rfl, -⟩ := e_of 2 hd
  obtain ⟨d2, rfl, -⟩ := e_of 1 (show 1 + 1 ≤ d by omega)
  have w1 : zw ((nb : Int) + 1) = (nb : Int) + 1 := zw_of (by omega) (by omega)
  have w2 : zw ((nb : Int)) = (nb : Int) := zw_of (by omega) (by omega)
  refine e_X7_body v (v_X7_body_0 v (c_X7_isKind (by omega) v ?_))
  rw [hv]
  refine bz_br (fun q => ?_) (fun q => e_X1_add v (v_X1_add_0 v ⟨fun q2 => ?_, fun q2 => ?_⟩))
  · refine e_X8_body v (v_X8_body_0 v (c_X8_in (by omega) _ _ _ ?_))
    rw [hv, zq_0, zq_7]
    exact bz_br (fun _ => ⟨rfl, hI⟩) (fun z => absurd (by omega) q)
  · refine ⟨by omega, by omega, ?_⟩
    rintro _ rfl _ rfl
    rw [zg_zsi _ _ _ _ (by omega), n2, show ((nb : Int)).toNat = nb by omega]
    refine e_X8_body v (v_X8_body_0 v (c_X8_in (by omega) _ _ _ ?_))
    rw [hv, zq_0, zq_7]
    refine bz_br (fun z => absurd (by omega) z) (fun _ => ?_)
    simp [zg_zs, n2, n3, w1, w2]
    refine ⟨fun z => absurd z (by omega), fun _ => ?_⟩
    repeat (refine ⟨by omega, ?_⟩)
    obtain ⟨h1, h2, h3, h4, h5, h6, h7, h8, h9, h10, h11, h12, h13, h14⟩ := hI
    refine ⟨(IP_zs rfl (IP_zs rfl (IP_zs rfl (IP_zs rfl h1)))), (ID_zs rfl (ID_zs rfl (ID_zs rfl (ID_zs rfl h2)))), (IN_zs rfl (IN_zs rfl (IN_zs rfl (IN_zs rfl h3)))), (IM_zs rfl (IM_zs rfl (IM_zs rfl (IM_zs rfl h4)))), (IH_zs rfl (IH_zs rfl (IH_zs rfl (IH_zs rfl h5)))), (IW_zs rfl (IW_zs rfl (IW_zs rfl (IW_zs rfl h6)))), (IF_zs rfl (IF_zs rfl (IF_zs rfl (IF_zs rfl h7)))), (IC_zs rfl (IC_zs rfl (IC_zs rfl (IC_zs rfl h8)))), (II_zs rfl (II_zs rfl (II_zs rfl (II_zs rfl h9)))), (IT_zs rfl (IT_zs rfl (IT_zs rfl (IT_zs rfl h10)))), (IL_zs rfl (IL_zs rfl (IL_zs rfl (IL_zs rfl h11)))), ?_, (IR_zs rfl (IR_zs rfl (IR_zs rfl (IR_zs rfl h13)))), ?_⟩
    · refine ⟨nb + 1, by omega, by simp [zg_zs, w1], by simp [zg_zs, w1], fun b hb => ?_⟩
      by_cases e : b = nb
      · subst e; simp [zg_zs, hv]; omega
      · have := n4 b (by omega)
        simp [zg_zs, e]; exact this
    · exact IS_fr2 (M := M) (fun a b h => by simp only [zg_zs]; rw [if_neg (by omega), if_neg (by omega), if_neg (by omega), if_neg (by omega)]) (fun _ _ => rfl) (by simp [zg_zs, n3, w1]; omega) h14
  · rw [zq_m3]
    refine e_X8_body v (v_X8_body_0 v (c_X8_in (by omega) _ _ _ ?_))
    rw [hv, zq_0, zq_7]
    exact bz_br (fun z => absurd (by omega) z) (fun _ => ⟨fun _ => ⟨rfl, hI⟩, fun z => absurd (by omega) z⟩)
theorem p_trace {d : Nat} {M : zM} (hd : 3 ≤ d) (v : Int) (hv : zw v = v) (hI : Inv M) : Pr d mX7_trace mX8_trace [zI v] M := by
  obtain ⟨rn, n1, n2, n3, n4⟩ := hI.2.2.2.2.2.2.2.2.2.2.2.2.1
  obtain ⟨d, rfl, -⟩ := e_of 2 hd
  obtain ⟨d2, rfl, -⟩ := e_of 1 (show 1 + 1 ≤ d by omega)
  refine e_X7_trace v (v_X7_trace_0 v ⟨fun q => ?_, fun q => e_X1_traced (v_X1_traced_0 ?_)⟩)
  · exact e_X8_trace v (v_X8_trace_0 v ⟨fun _ => ⟨rfl, hI⟩, fun z => absurd q z⟩)
  · rw [hv] at q ⊢
    have e : zw (zw (if zw 24 < zw (zg M 512 3) then 24 else zg M 512 3)) = if rn < 24 then (rn : Int) else 24 := by
      rw [zw_zw, zw_zg, zq_24, n2]
      by_cases h : rn < 24
      · rw [if_neg (by omega), if_pos h]; exact zw_of (by omega) (by omega)
      · by_cases h2 : (24 : Int) < rn
        · rw [if_pos h2, if_neg h]; exact zq_24
        · rw [if_neg h2, if_neg h]; rw [zw_of (by omega) (by omega)]; omega
    rw [e]
    refine ⟨fun z => ⟨by omega, by split at z <;> omega, ?_⟩, fun z => ?_⟩
    · have hz : v < 24 ∧ v < (rn : Int) := by split at z <;> omega
      refine e_X8_trace v (v_X8_trace_0 v ?_)
      rw [hv, n3]
      refine ⟨fun y => absurd y q, fun _ => ⟨fun _ => ⟨fun _ => ⟨by omega, by omega, n4 v.toNat (by omega) (by omega), hI⟩, fun y => absurd hz.1 y⟩, fun y => absurd hz.2 y⟩⟩
    · have hz : ¬ (v < 24 ∧ v < (rn : Int)) := by split at z <;> omega
      refine e_X8_trace v (v_X8_trace_0 v ?_)
      rw [hv, n3]
      exact ⟨fun _ => ⟨rfl, hI⟩, fun _ => ⟨fun y => ⟨fun y2 => absurd ⟨y2, y⟩ hz, fun _ => ⟨rfl, hI⟩⟩, fun _ => ⟨rfl, hI⟩⟩⟩
/-- how many of the first k have a name -/
def nmd (f : Nat → Int) : Nat → Nat | 0 => 0 | k + 1 => nmd f k + if f k < 0 then 0 else 1
theorem nmd_le (f : Nat → Int) : ∀ k, nmd f k ≤ k
  | 0 => Nat.le_refl _
  | k + 1 => by have := nmd_le f k; unfold nmd; split <;> omega
theorem nmd_cg {f g : Nat → Int} : ∀ {k : Nat}, (∀ i, i < k → f i = g i) → nmd f k = nmd g k
  | 0, _ => rfl
  | k + 1, h => by unfold nmd; rw [nmd_cg (fun i hi => h i (by omega)), h k (by omega)]
theorem l_X4_namedPeople {E : zE} {M : zM} {Q : Int → zM → Prop} (o : Nat) (ho : zob o 4) (n : Nat) (hn : n ≤ 12) (hM : zg M o 5 = (n : Int)) (hr : ∀ i, i < n → -1 ≤ zg M (o + 4) i) (hQ : Q (nmd (fun i => zg M (o + 4) i) n : Int) M) : ∀ (j k : Nat), k + j = n → wp E 4 cX4_namedPeople (some .int) Q 4 [some (.ref o), some (zI (nmd (fun i => zg M (o + 4) i) k : Int)), some (zI (k : Int))] [] M := by
  intro j
  induction j with
  | zero =>
    intro k hk
    have wk : zw (k : Int) = (k : Int) := zw_of (by omega) (by omega)
    have hkn : k = n := by omega
    subst hkn
    have := nmd_le (fun i => zg M (o + 4) i) k
    refine v_X4_namedPeople_4 o _ _ ho ?_
    rw [wk, hM, zw_of (by omega) (by omega)]
    exact ⟨fun q => absurd q (by omega), fun _ => hQ⟩
  | succ j ih =>
    intro k hk
    have wk : zw (k : Int) = (k : Int) := zw_of (by omega) (by omega)
    have hrk := hr k (by omega)
    have ih := ih (k + 1) (by omega)
    refine v_X4_namedPeople_4 o _ _ ho ?_
    rw [wk, hM, show ((k : Int)).toNat = k by omega, show ((k : Int) + 1) = ((k + 1 : Nat) : Int) by omega]
    refine ⟨fun _ => ⟨by omega, by omega, fun q => ?_, fun q => ?_⟩, fun q => absurd (by omega) q⟩
    · have e : nmd (fun i => zg M (o + 4) i) (k + 1) = nmd (fun i => zg M (o + 4) i) k := by
        show nmd _ k + (if zg M (o + 4) k < 0 then 0 else 1) = _
        rw [if_pos (by omega)]
        rfl
      rw [e] at ih; exact ih
    · have e : nmd (fun i => zg M (o + 4) i) (k + 1) = nmd (fun i => zg M (o + 4) i) k + 1 := by
        show nmd _ k + (if zg M (o + 4) k < 0 then 0 else 1) = _
        rw [if_neg (by omega)]
      rw [e] at ih
      rw [show (((nmd (fun i => zg M (o + 4) i) k : Nat) : Int) + 1) = ((nmd (fun i => zg M (o + 4) i) k + 1 : Nat) : Int) by omega]
      exact ih
theorem l_X8_namedMany {E : zE} {M : zM} {Q : Int → zM → Prop} (n : Nat) (hn : n ≤ 12) (hM : zg M 1280 1 = (n : Int)) (hQ : Q (nmd (fun i => zg M 1285 i) n : Int) M) : ∀ (j k : Nat), k + j = n → wp E 8 cX8_namedMany (some .int) Q 4 [some (.ref 1280), some (zI (nmd (fun i => zg M 1285 i) k : Int)), some (zI (k : Int))] [] M := by
  intro j
  induction j with
  | zero =>
    intro k hk
    have wk : zw (k : Int) = (k : Int) := zw_of (by omega) (by omega)
    have hkn : k = n := by omega
    subst hkn
    have := nmd_le (fun i => zg M 1285 i) k
    refine v_X8_namedMany_4 _ _ ?_
    rw [wk, hM, zw_of (by omega) (by omega)]
    exact ⟨fun q => absurd q (by omega), fun _ => hQ⟩
  | succ j ih =>
    intro k hk
    have wk : zw (k : Int) = (k : Int) := zw_of (by omega) (by omega)
    have ih := ih (k + 1) (by omega)
    refine v_X8_namedMany_4 _ _ ?_
    rw [wk, hM, show ((k : Int)).toNat = k by omega, show ((k : Int) + 1) = ((k + 1 : Nat) : Int) by omega]
    refine ⟨fun _ => ⟨by omega, by omega, fun q => ?_, fun q => ?_⟩, fun q => absurd (by omega) q⟩
    · have e : nmd (fun i => zg M 1285 i) (k + 1) = nmd (fun i => zg M 1285 i) k := by
        show nmd _ k + (if zg M 1285 k < 0 then 0 else 1) = _
        rw [if_pos q]
        rfl
      rw [e] at ih; exact ih
    · have e : nmd (fun i => zg M 1285 i) (k + 1) = nmd (fun i => zg M 1285 i) k + 1 := by
        show nmd _ k + (if zg M 1285 k < 0 then 0 else 1) = _
        rw [if_neg q]
      rw [e] at ih
      rw [show (((nmd (fun i => zg M 1285 i) k : Nat) : Int) + 1) = ((nmd (fun i => zg M 1285 i) k + 1 : Nat) : Int) by omega]
      exact ih
theorem c_X4_namedPeople {d : Nat} {M : zM} {Q : Int → zM → Prop} (hd : 1 ≤ d) (o : Nat) (ho : zob o 4) (n : Nat) (hn : n ≤ 12) (hM : zg M o 5 = (n : Int)) (hr : ∀ i, i < n → -1 ≤ zg M (o + 4) i) (hQ : Q (nmd (fun i => zg M (o + 4) i) n : Int) M) : Ev d mX4_namedPeople [.ref o] M Q := by
  obtain ⟨d, rfl, -⟩ := e_of 0 hd
  exact e_X4_namedPeople o (v_X4_namedPeople_0 o ho (l_X4_namedPeople o ho n hn hM hr hQ n 0 (by omega)))
theorem c_X8_namedMany {d : Nat} {M : zM} {Q : Int → zM → Prop} (hd : 1 ≤ d) (n : Nat) (hn : n ≤ 12) (hM : zg M 1280 1 = (n : Int)) (hQ : Q (nmd (fun i => zg M 1285 i) n : Int) M) : Ev d mX8_namedMany [.ref 1280] M Q := by
  obtain ⟨d, rfl, -⟩ := e_of 0 hd
  exact e_X8_namedMany (v_X8_namedMany_0 (l_X8_namedMany n hn hM hQ n 0 (by omega)))
theorem p_count {d : Nat} {M : zM} (hd : 3 ≤ d) (v : Int) (hI : Inv M) : Pr d mX7_count mX8_count [zI v] M := by
  obtain ⟨n, n1, n2, n3⟩ := Inv_n hI
  have hI2 := hI
  obtain ⟨h1, h2, h3, h4, h5, h6, h7, h8, h9, h10, h11, h12, h13, h14⟩ := hI
  obtain ⟨k, k1, k2, k3, -⟩ := h4
  obtain ⟨t, t1, t2, t3, -⟩ := h10
  obtain ⟨dn, kp, a1, a2, a3, a4, a5, -⟩ := h8
  obtain ⟨nb, b1, b2, b3, -⟩ := h12
  obtain ⟨rn, r1, r2, r3, -⟩ := h13
  have hm := nmd_le (fun i => zg M 196 i) n
  have hm2 := nmd_le (fun i => zg M 1285 i) n
  have hme : nmd (fun i => zg M 196 i) n = nmd (fun i => zg M 1285 i) n := nmd_cg (fun i hi => (h3 i (by omega)).1)
  obtain ⟨d, rfl, -⟩ := e_of 2 hd
  refine e_X7_count v (v_X7_count_0 v ⟨fun q => ?_, fun q => ?_, fun q => c_X4_namedPeople (by omega) 192 ob_192 n n1 n2 (fun i hi => by have := h3 i (by omega); show -1 ≤ zg M 196 i; omega) ?_, fun q => ?_, fun q => ?_, fun q => ?_, fun q => ?_, fun q0 q1 q2 q3 q4 q5 q6 => ?_⟩) <;> refine e_X8_count v (v_X8_count_0 v ?_)
  · exact ⟨fun _ => ⟨by omega, hI2⟩, fun z => absurd z (by omega), fun z => absurd z (by omega), fun z => absurd z (by omega), fun z => absurd z (by omega), fun z => absurd z (by omega), fun z => absurd z (by omega), fun z => absurd q z⟩
  · exact ⟨fun z => absurd z (by omega), fun _ => ⟨by omega, hI2⟩, fun z => absurd z (by omega), fun z => absurd z (by omega), fun z => absurd z (by omega), fun z => absurd z (by omega), fun z => absurd z (by omega), fun _ z => absurd q z⟩
  · refine ⟨fun z => absurd z (by omega), fun z => absurd z (by omega), fun _ => c_X8_namedMany (by omega) n n1 n3 ⟨?_, hI2⟩, fun z => absurd z (by omega), fun z => absurd z (by omega), fun z => absurd z (by omega), fun z => absurd z (by omega), fun _ _ z => absurd q z⟩
    rw [hme]
  · exact ⟨fun z => absurd z (by omega), fun z => absurd z (by omega), fun z => absurd z (by omega), fun _ => ⟨by omega, hI2⟩, fun z => absurd z (by omega), fun z => absurd z (by omega), fun z => absurd z (by omega), fun _ _ _ z => absurd q z⟩
  · exact ⟨fun z => absurd z (by omega), fun z => absurd z (by omega), fun z => absurd z (by omega), fun z => absurd z (by omega), fun _ => ⟨by omega, hI2⟩, fun z => absurd z (by omega), fun z => absurd z (by omega), fun _ _ _ _ z => absurd q z⟩
  · exact ⟨fun z => absurd z (by omega), fun z => absurd z (by omega), fun z => absurd z (by omega), fun z => absurd z (by omega), fun z => absurd z (by omega), fun _ => ⟨by omega, hI2⟩, fun z => absurd z (by omega), fun _ _ _ _ _ z => absurd q z⟩
  · exact ⟨fun z => absurd z (by omega), fun z => absurd z (by omega), fun z => absurd z (by omega), fun z => absurd z (by omega), fun z => absurd z (by omega), fun z => absurd z (by omega), fun _ => ⟨by omega, hI2⟩, fun _ _ _ _ _ _ z => absurd q z⟩
  · exact ⟨fun z => absurd z q0, fun z => absurd z q1, fun z => absurd z q2, fun z => absurd z q3, fun z => absurd z q4, fun z => absurd z q5, fun z => absurd z q6, fun _ _ _ _ _ _ _ => ⟨rfl, hI2⟩⟩
