theorem rb_ok {b K f : Nat} (hf : rfP b K f) (nb ab x : Int) (dp d : Nat) (M : zM) (tr : List Int) (p : Int × List Int) (Q : Int → zM → Prop) (he : evB (evF (b : Int) K f) (b : Int) K nb ab x = some p) (hnb : zw nb = nb) (hab : ab < 8) (hdp : dp + f ≤ 40) (hd : 3 * f + 2 ≤ d) (hl : tr.length + 2 * 3 ^ f < 1000) (hP : PC M b K) (hT : TrC M tr) (h : ∀ M2 : zM, FrG M M2 → TrC M2 (tr ++ p.2) → (tr ++ p.2).length ≤ tr.length + 2 * 3 ^ f → Q p.1 M2) : Ev d mX1_runBody [.ref 512, zI nb, zI ab, zI x, zI (dp : Int)] M Q := by
  obtain ⟨d, rfl, hdd⟩ := e_of (3 * f + 1) hd; replace hd := hdd
  refine e_X1_runBody _ _ _ _ (v_X1_runBody_0 _ _ _ _ ?_)
  rw [hnb, hP.1]
  unfold evB at he
  have tot : nb = 1 ∨ nb = 2 ∨ nb = 10 ∨ nb = 11 ∨ nb = 20 ∨ nb = 30 ∨ nb = 40 ∨ nb = 41 ∨ nb = 50 ∨ nb = 60 ∨ nb = 61 ∨ nb = 70 ∨ nb = 80 ∨ nb = 81 := by
    by_cases z : nb = 1 ∨ nb = 2 ∨ nb = 10 ∨ nb = 11 ∨ nb = 20 ∨ nb = 30 ∨ nb = 40 ∨ nb = 41 ∨ nb = 50 ∨ nb = 60 ∨ nb = 61 ∨ nb = 70 ∨ nb = 80 ∨ nb = 81
    · exact z
    · rw [if_neg (by omega), if_neg (by omega), if_neg (by omega), if_neg (by omega)] at he
      by_cases z2 : ab < 0
      · rw [if_pos z2] at he; cases he
      · rw [if_neg z2, if_neg (by omega), if_neg (by omega), if_neg (by omega), if_neg (by omega), if_neg (by omega), if_neg (by omega), if_neg (by omega), if_neg (by omega), if_neg (by omega), if_neg (by omega)] at he
        cases he
  refine ⟨fun q => ?_, fun q => ?_, fun q => ?_, fun q => ?_, fun q => ?_, fun q => ?_, fun q => ?_, fun q => ?_, fun q => ?_, fun q => ?_, fun q => ?_, fun q => ?_, fun q => ?_, fun q => ?_, fun y1 y2 y3 y4 y5 y6 y7 y8 y9 y10 y11 y12 y13 y14 => absurd tot (by omega)⟩
  · subst q
    rw [if_pos rfl] at he
    cases he
    have hh := h M (FrG_rf M) (by simpa using hT) (by simp)
    exact hh
  · subst q
    rw [if_neg (by omega), if_pos rfl] at he
    obtain ⟨u, v, e1, e2, e3, e4⟩ := ev2_s he
    rw [e3, e4] at h
    refine ow_ok hf 1 x dp d M tr u _ e1 (by omega) hdp hd (by omega) hP hT (fun M2 f1 f2 f3 => ?_)
    refine ow_ok hf 2 1 dp d M2 (tr ++ u.2) v _ e2 (by omega) hdp hd (by omega) (PC_fr f1 hP) f2 (fun M3 g1 g2 g3 => ?_)
    rw [List.append_assoc] at g2 g3
    exact h M3 (FrG_tr f1 g1) g2 (by omega)
  · subst q
    rw [if_neg (by omega), if_neg (by omega), if_pos rfl] at he
    obtain ⟨u, e1, e2, e3⟩ := ev1_s he
    rw [e2, e3] at h
    exact ow_ok hf 0 x dp d M tr u _ e1 (by omega) hdp hd (by omega) hP hT (fun M2 f1 f2 f3 => h M2 f1 f2 (by omega))
  · subst q
    rw [if_neg (by omega), if_neg (by omega), if_neg (by omega), if_pos rfl] at he
    cases he
    have hh := h M (FrG_rf M) (by simpa using hT) (by simp)
    exact hh
  · subst q
    by_cases z2 : ab < 0
    · rw [if_neg (by omega), if_neg (by omega), if_neg (by omega), if_neg (by omega), if_pos z2] at he; cases he
    obtain ⟨ak, hak⟩ : ∃ ak : Nat, ab = (ak : Int) := ⟨ab.toNat, by omega⟩
    rw [if_neg (by omega), if_neg (by omega), if_neg (by omega), if_neg (by omega), if_neg z2, if_pos rfl] at he
    rw [hak, show ((ak : Int)).toNat = ak by omega] at he
    rw [hak]
    obtain ⟨u, e1, e2, e3⟩ := ev1_s he
    rw [e2, e3] at h
    exact hf ak 0 x dp d M tr u _ e1 (by omega) (by omega) hdp (by omega) (by omega) hP hT (fun M2 f1 f2 f3 => h M2 f1 f2 (by omega))
  · subst q
    by_cases z2 : ab < 0
    · rw [if_neg (by omega), if_neg (by omega), if_neg (by omega), if_neg (by omega), if_pos z2] at he; cases he
    obtain ⟨ak, hak⟩ : ∃ ak : Nat, ab = (ak : Int) := ⟨ab.toNat, by omega⟩
    rw [if_neg (by omega), if_neg (by omega), if_neg (by omega), if_neg (by omega), if_neg z2, if_neg (by omega), if_pos rfl] at he
    rw [hak, show ((ak : Int)).toNat = ak by omega] at he
    rw [hak]
    obtain ⟨u, e1, e2, e3⟩ := ev1_s he
    rw [e2, e3] at h
    exact hf ak 1 x dp d M tr u _ e1 (by omega) (by omega) hdp (by omega) (by omega) hP hT (fun M2 f1 f2 f3 => h M2 f1 f2 (by omega))
  · subst q
    by_cases z2 : ab < 0
    · rw [if_neg (by omega), if_neg (by omega), if_neg (by omega), if_neg (by omega), if_pos z2] at he; cases he
    obtain ⟨ak, hak⟩ : ∃ ak : Nat, ab = (ak : Int) := ⟨ab.toNat, by omega⟩
    rw [if_neg (by omega), if_neg (by omega), if_neg (by omega), if_neg (by omega), if_neg z2, if_neg (by omega), if_neg (by omega), if_pos rfl] at he
    rw [hak, show ((ak : Int)).toNat = ak by omega] at he
    rw [hak]
    obtain ⟨u, e1, e2, e3⟩ := ev1_s he
    rw [e2, e3] at h
    exact hf ak 2 x dp d M tr u _ e1 (by omega) (by omega) hdp (by omega) (by omega) hP hT (fun M2 f1 f2 f3 => h M2 f1 f2 (by omega))
  · subst q
    by_cases z2 : ab < 0
    · rw [if_neg (by omega), if_neg (by omega), if_neg (by omega), if_neg (by omega), if_pos z2] at he; cases he
    obtain ⟨ak, hak⟩ : ∃ ak : Nat, ab = (ak : Int) := ⟨ab.toNat, by omega⟩
    rw [if_neg (by omega), if_neg (by omega), if_neg (by omega), if_neg (by omega), if_neg z2, if_neg (by omega), if_neg (by omega), if_neg (by omega), if_pos rfl] at he
    rw [hak, show ((ak : Int)).toNat = ak by omega] at he
    rw [hak]
    obtain ⟨u, e1, e2, e3⟩ := ev1_s he
    rw [e2, e3] at h
    exact hf ak 1 (x + 1) dp d M tr u _ e1 (by omega) (by omega) hdp (by omega) (by omega) hP hT (fun M2 f1 f2 f3 => h M2 f1 f2 (by omega))
  · subst q
    by_cases z2 : ab < 0
    · rw [if_neg (by omega), if_neg (by omega), if_neg (by omega), if_neg (by omega), if_pos z2] at he; cases he
    obtain ⟨ak, hak⟩ : ∃ ak : Nat, ab = (ak : Int) := ⟨ab.toNat, by omega⟩
    rw [if_neg (by omega), if_neg (by omega), if_neg (by omega), if_neg (by omega), if_neg z2, if_neg (by omega), if_neg (by omega), if_neg (by omega), if_neg (by omega), if_pos rfl] at he
    rw [hak, show ((ak : Int)).toNat = ak by omega] at he
    rw [hak]
    obtain ⟨u, e1, e2, e3⟩ := ev1_s he
    rw [e2, e3] at h
    exact hf ak 3 x dp d M tr u _ e1 (by omega) (by omega) hdp (by omega) (by omega) hP hT (fun M2 f1 f2 f3 => h M2 f1 f2 (by omega))
  · subst q
    by_cases z2 : ab < 0
    · rw [if_neg (by omega), if_neg (by omega), if_neg (by omega), if_neg (by omega), if_pos z2] at he; cases he
    obtain ⟨ak, hak⟩ : ∃ ak : Nat, ab = (ak : Int) := ⟨ab.toNat, by omega⟩
    rw [if_neg (by omega), if_neg (by omega), if_neg (by omega), if_neg (by omega), if_neg z2, if_neg (by omega), if_neg (by omega), if_neg (by omega), if_neg (by omega), if_neg (by omega), if_pos rfl] at he
    rw [hak, show ((ak : Int)).toNat = ak by omega] at he
    rw [hak]
    obtain ⟨u, v, e1, e2, e3, e4⟩ := ev2_s he
    rw [e3, e4] at h
    refine hf ak 2 x dp d M tr u _ e1 (by omega) (by omega) hdp (by omega) (by omega) hP hT (fun M2 f1 f2 f3 => ?_)
    refine ow_ok hf 0 2 dp d M2 (tr ++ u.2) v _ e2 (by omega) hdp hd (by omega) (PC_fr f1 hP) f2 (fun M3 g1 g2 g3 => ?_)
    rw [List.append_assoc] at g2 g3
    exact h M3 (FrG_tr f1 g1) g2 (by omega)
  · subst q
    by_cases z2 : ab < 0
    · rw [if_neg (by omega), if_neg (by omega), if_neg (by omega), if_neg (by omega), if_pos z2] at he; cases he
    obtain ⟨ak, hak⟩ : ∃ ak : Nat, ab = (ak : Int) := ⟨ab.toNat, by omega⟩
    rw [if_neg (by omega), if_neg (by omega), if_neg (by omega), if_neg (by omega), if_neg z2, if_neg (by omega), if_neg (by omega), if_neg (by omega), if_neg (by omega), if_neg (by omega), if_neg (by omega), if_pos rfl] at he
    rw [hak, show ((ak : Int)).toNat = ak by omega] at he
    rw [hak]
    obtain ⟨u, e1, e2, e3⟩ := ev1_s he
    rw [e2, e3] at h
    exact hf ak 3 x dp d M tr u _ e1 (by omega) (by omega) hdp (by omega) (by omega) hP hT (fun M2 f1 f2 f3 => h M2 f1 f2 (by omega))
  · subst q
    by_cases z2 : ab < 0
    · rw [if_neg (by omega), if_neg (by omega), if_neg (by omega), if_neg (by omega), if_pos z2] at he; cases he
    obtain ⟨ak, hak⟩ : ∃ ak : Nat, ab = (ak : Int) := ⟨ab.toNat, by omega⟩
    rw [if_neg (by omega), if_neg (by omega), if_neg (by omega), if_neg (by omega), if_neg z2, if_neg (by omega), if_neg (by omega), if_neg (by omega), if_neg (by omega), if_neg (by omega), if_neg (by omega), if_neg (by omega), if_pos rfl] at he
    rw [hak, show ((ak : Int)).toNat = ak by omega] at he
    rw [hak]
    obtain ⟨u, e1, e2, e3⟩ := ev1_s he
    rw [e2, e3] at h
    exact hf ak 0 x dp d M tr u _ e1 (by omega) (by omega) hdp (by omega) (by omega) hP hT (fun M2 f1 f2 f3 => h M2 f1 f2 (by omega))
  · subst q
    by_cases z2 : ab < 0
    · rw [if_neg (by omega), if_neg (by omega), if_neg (by omega), if_neg (by omega), if_pos z2] at he; cases he
    obtain ⟨ak, hak⟩ : ∃ ak : Nat, ab = (ak : Int) := ⟨ab.toNat, by omega⟩
    rw [if_neg (by omega), if_neg (by omega), if_neg (by omega), if_neg (by omega), if_neg z2, if_neg (by omega), if_neg (by omega), if_neg (by omega), if_neg (by omega), if_neg (by omega), if_neg (by omega), if_neg (by omega), if_neg (by omega), if_pos rfl] at he
    rw [hak, show ((ak : Int)).toNat = ak by omega] at he
    rw [hak]
    obtain ⟨u, v, e1, e2, e3, e4⟩ := ev2_s he
    rw [e3, e4] at h
    refine hf ak 1 x dp d M tr u _ e1 (by omega) (by omega) hdp (by omega) (by omega) hP hT (fun M2 f1 f2 f3 => ?_)
    refine ow_ok hf 2 2 dp d M2 (tr ++ u.2) v _ e2 (by omega) hdp hd (by omega) (PC_fr f1 hP) f2 (fun M3 g1 g2 g3 => ?_)
    rw [List.append_assoc] at g2 g3
    exact h M3 (FrG_tr f1 g1) g2 (by omega)
  · subst q
    by_cases z2 : ab < 0
    · rw [if_neg (by omega), if_neg (by omega), if_neg (by omega), if_neg (by omega), if_pos z2] at he; cases he
    obtain ⟨ak, hak⟩ : ∃ ak : Nat, ab = (ak : Int) := ⟨ab.toNat, by omega⟩
    rw [if_neg (by omega), if_neg (by omega), if_neg (by omega), if_neg (by omega), if_neg z2, if_neg (by omega), if_neg (by omega), if_neg (by omega), if_neg (by omega), if_neg (by omega), if_neg (by omega), if_neg (by omega), if_neg (by omega), if_neg (by omega), if_pos rfl] at he
    rw [hak, show ((ak : Int)).toNat = ak by omega] at he
    rw [hak]
    obtain ⟨u, e1, e2, e3⟩ := ev1_s he
    rw [e2, e3] at h
    exact hf ak 0 x dp d M tr u _ e1 (by omega) (by omega) hdp (by omega) (by omega) hP hT (fun M2 f1 f2 f3 => h M2 f1 f2 (by omega))
theorem rf_ok {b K : Nat} : ∀ f, rfP b K f
  | 0 => fun kd a x dp d M tr p Q he => by cases he
  | f + 1 => by
    intro kd a x dp d M tr p Q he hk ha hdp hd hl hP hT h
    have p3 : 3 ^ (f + 1) = 3 ^ f * 3 := Nat.pow_succ 3 f
    have p1 : 0 < 3 ^ f := Nat.pow_pos (by omega)
    obtain ⟨d, rfl, hdd⟩ := e_of (3 * f + 2) (show 3 * f + 2 + 1 ≤ d by omega)
    rw [evF] at he
    split at he
    · cases he
    · rename_i k2 hu
      split at he
      · cases he
      · rename_i u hb
        cases he
        have kl := upK_lt 8 kd k2 hk hu
        have z1 := zsv1_w k2 kl.1
        refine e_X1_runFrom _ _ _ _ (v_X1_runFrom_0 _ _ _ _ (l_X1_from a ha x dp (by omega) M k2 ?_ 8 0 kd (by omega) hk hu))
        have wn := zsv2_w (k2 * 4 + a) (by omega)
        refine c_X1_noteBegun (by omega) _ wn tr (by omega) hT (fun M2 f1 f2 => ⟨by omega, by omega, ?_⟩)
        rw [show (dp : Int) + 1 = ((dp + 1 : Nat) : Int) by omega]
        have ll : (tr ++ [zsv 2 (k2 * 4 + a)]).length = tr.length + 1 := by simp
        refine rb_ok (rf_ok f) _ _ x (dp + 1) d M2 (tr ++ [zsv 2 (k2 * 4 + a)]) u _ hb wn z1.2.2 (by omega) hdd (by omega) (PC_fr f1 hP) f2 (fun M3 g1 g2 g3 => ?_)
        rw [evB_w hb]
        have e : tr ++ [zsv 2 (k2 * 4 + a)] ++ u.2 = tr ++ (zsv 2 (k2 * 4 + a) :: u.2) := by simp
        rw [e] at g2 g3
        exact h M3 (FrG_tr f1 g1) g2 (by show (tr ++ (zsv 2 (k2 * 4 + a) :: u.2)).length ≤ _; omega)
