/-! act: the class's bodies, found upwards -/
abbrev evT : Type := Option (Int × List Int)
def upK (a : Nat) : Nat → Nat → Option Nat
  | 0, _ => none
  | f + 1, kd => if zsv 2 (kd * 4 + a) = 0 then (if zsv 1 kd < 0 then none else upK a f (zsv 1 kd).toNat) else some kd
def ev1 (r : evT) (g : Int → Int) : evT := match r with | none => none | some p => some (g p.1, p.2)
def ev2 (r s : evT) (g : Int → Int → Int) : evT := match r with | none => none | some p => match s with | none => none | some q => some (g p.1 q.1, p.2 ++ q.2)
def evB (R : Nat → Nat → Int → evT) (b : Int) (K : Nat) (nb ab x : Int) : evT :=
  if nb = 1 then some (zw (x + b), [])
  else if nb = 2 then ev2 (R K 1 x) (R K 2 1) (fun v w => zw (v - w))
  else if nb = 10 then ev1 (R K 0 x) (fun v => zw (v * 2))
  else if nb = 11 then some (z_xor x b, [])
  else if ab < 0 then none
  else if nb = 20 then ev1 (R ab.toNat 0 x) (fun v => zw (v + 3))
  else if nb = 30 then ev1 (R ab.toNat 1 x) (fun v => zw (-v))
  else if nb = 40 then ev1 (R ab.toNat 2 x) (fun v => zw (v * 3))
  else if nb = 41 then ev1 (R ab.toNat 1 (x + 1)) (fun v => zw v)
  else if nb = 50 then ev1 (R ab.toNat 3 x) (fun v => z_xor v 5)
  else if nb = 60 then ev2 (R ab.toNat 2 x) (R K 0 2) (fun v w => zw (v - w))
  else if nb = 61 then ev1 (R ab.toNat 3 x) (fun v => zw (v + 1))
  else if nb = 70 then ev1 (R ab.toNat 0 x) (fun v => zw (v * 2))
  else if nb = 80 then ev2 (R ab.toNat 1 x) (R K 2 2) (fun v w => zw (v + w))
  else if nb = 81 then ev1 (R ab.toNat 0 x) (fun v => zw (v - 1))
  else none
theorem ev1_s {r : evT} {g : Int → Int} {p : Int × List Int} (h : ev1 r g = some p) : ∃ q, r = some q ∧ p.1 = g q.1 ∧ p.2 = q.2 := by
  match r with
  | none => cases h
  | some q => cases h; exact ⟨q, rfl, rfl, rfl⟩
theorem ev2_s {r s : evT} {g : Int → Int → Int} {p : Int × List Int} (h : ev2 r s g = some p) : ∃ q u, r = some q ∧ s = some u ∧ p.1 = g q.1 u.1 ∧ p.2 = q.2 ++ u.2 := by
  match r, s with
  | none, _ => cases h
  | some q, none => cases h
  | some q, some u => cases h; exact ⟨q, u, rfl, rfl, rfl, rfl⟩
theorem ev1_w {r : evT} {g : Int → Int} {p : Int × List Int} (hg : ∀ v, zw (g v) = g v) (h : ev1 r g = some p) : zw p.1 = p.1 := by
  obtain ⟨q, -, e, -⟩ := ev1_s h
  rw [e, hg]
theorem ev2_w {r s : evT} {g : Int → Int → Int} {p : Int × List Int} (hg : ∀ v w, zw (g v w) = g v w) (h : ev2 r s g = some p) : zw p.1 = p.1 := by
  obtain ⟨q, u, -, -, e, -⟩ := ev2_s h
  rw [e, hg]
def evF (b : Int) (K : Nat) : Nat → Nat → Nat → Int → evT
  | 0, _, _, _ => none
  | f + 1, kd, a, x => match upK a 8 kd with | none => none | some k2 => match evB (evF b K f) b K (zsv 2 (k2 * 4 + a)) (zsv 1 k2) x with | none => none | some p => some (p.1, zsv 2 (k2 * 4 + a) :: p.2)
def TrC (M : zM) (tr : List Int) : Prop := zg M 512 3 = (tr.length : Int) ∧ ∀ i : Nat, i < tr.length → i < 24 → zg M 515 i = tr.getD i 0
def FrG (M M2 : zM) : Prop := (∀ i j, i ≠ 515 → ¬ (i = 512 ∧ j = 3) → zg M2 i j = zg M i j) ∧ (∀ i j, zh M2 i j = zh M i j)
theorem FrG_rf (M : zM) : FrG M M := ⟨fun _ _ _ _ => rfl, fun _ _ => rfl⟩
theorem FrG_tr {M M2 M3 : zM} (h : FrG M M2) (g : FrG M2 M3) : FrG M M3 := ⟨fun i j a b => by rw [g.1 i j a b, h.1 i j a b], fun i j => by rw [g.2, h.2]⟩
def PC (M : zM) (b K : Nat) : Prop := zg M 512 4 = (b : Int) ∧ b < 50 ∧ zg M 513 b = (K : Int) ∧ K < 8
theorem PC_fr {M M2 : zM} {b K : Nat} (h : FrG M M2) (g : PC M b K) : PC M2 b K := ⟨by rw [h.1 _ _ (by omega) (by omega)]; exact g.1, g.2.1, by rw [h.1 _ _ (by omega) (by omega)]; exact g.2.2.1, g.2.2.2⟩
theorem getD_ap {tr : List Int} {v : Int} (i : Nat) (hi : i < tr.length) : (tr ++ [v]).getD i 0 = tr.getD i 0 := by
  simp [List.getD, List.getElem?_append, hi]
theorem getD_la {tr : List Int} {v : Int} : (tr ++ [v]).getD tr.length 0 = v := by
  simp [List.getD]
theorem c_X1_noteBegun {d : Nat} {M : zM} {Q : Int → zM → Prop} (hd : 1 ≤ d) (v : Int) (hv : zw v = v) (tr : List Int) (hl : tr.length < 1000) (hT : TrC M tr) (h : ∀ M2 : zM, FrG M M2 → TrC M2 (tr ++ [v]) → Q 0 M2) : Ev d mX1_noteBegun [.ref 512, zI v] M Q := by
  obtain ⟨d, rfl, -⟩ := e_of 0 hd
  obtain ⟨t1, t2⟩ := hT
  have wl : zw ((tr.length : Int) + 1) = (tr.length : Int) + 1 := zw_of (by omega) (by omega)
  have ll : (tr ++ [v]).length = tr.length + 1 := by simp
  refine e_X1_noteBegun _ (v_X1_noteBegun_0 _ ?_)
  rw [t1, show ((tr.length : Int)).toNat = tr.length by omega]
  refine ⟨fun q => ⟨by omega, by omega, ?_⟩, fun q => ?_⟩
  · rintro _ rfl _ rfl
    rw [zg_zsi _ _ _ _ (by omega), t1]
    refine h _ ⟨fun i j a b => by rw [zg_zs, if_neg b, zg_zsi _ _ _ _ a], fun _ _ => rfl⟩ ⟨by rw [zg_zs1, wl, ll]; omega, fun i hi h24 => ?_⟩
    rw [zg_zsi _ _ _ _ (by omega)]
    by_cases e : i = tr.length
    · subst e; rw [zg_zs1, hv, getD_la]
    · rw [zg_zsj _ _ _ _ e, getD_ap i (by omega)]; exact t2 i (by omega) h24
  · rintro _ rfl
    refine h _ ⟨fun i j a b => by rw [zg_zs, if_neg b], fun _ _ => rfl⟩ ⟨by rw [zg_zs1, wl, ll]; omega, fun i hi h24 => ?_⟩
    rw [zg_zsi _ _ _ _ (by omega), getD_ap i (by omega)]; exact t2 i (by omega) h24
theorem zsv1_w (k : Nat) (h : k < 8) : zw (zsv 1 k) = zsv 1 k ∧ -1 ≤ zsv 1 k ∧ zsv 1 k < 8 := by
  have : ∀ k : Nat, k < 8 → zw (zsv 1 k) = zsv 1 k ∧ -1 ≤ zsv 1 k ∧ zsv 1 k < 8 := by decide
  exact this k h
theorem zsv2_w (k : Nat) (h : k < 32) : zw (zsv 2 k) = zsv 2 k := by
  have : ∀ k : Nat, k < 32 → zw (zsv 2 k) = zsv 2 k := by decide
  exact this k h
theorem upK_lt {a : Nat} : ∀ (f kd k2 : Nat), kd < 8 → upK a f kd = some k2 → k2 < 8 ∧ zsv 2 (k2 * 4 + a) ≠ 0
  | 0, _, _, _, h => by cases h
  | f + 1, kd, k2, hk, h => by
    have z := zsv1_w kd hk
    rw [upK] at h
    split at h
    · split at h
      · cases h
      · exact upK_lt f _ k2 (by omega) h
    · rename_i q
      cases h
      exact ⟨hk, q⟩
/-- the search upwards -/
theorem l_X1_from {d : Nat} {Q : Int → zM → Prop} (a : Nat) (ha : a < 4) (x : Int) (dp : Nat) (hdp : dp < 40) (M : zM) (k2 : Nat) (h : Ev d mX1_noteBegun [.ref 512, zI (zsv 2 (k2 * 4 + a))] M (fun r5 M6 => (0 ≤ (k2 : Int)) ∧ ((k2 : Int) < 8) ∧ Ev d mX1_runBody [.ref 512, zI (zsv 2 (k2 * 4 + a)), zI (zsv 1 k2), zI x, zI ((dp : Int) + 1)] M6 (fun r9 M10 => Q (zw r9) M10))) : ∀ (f i kd : Nat), i + f = 8 → kd < 8 → upK a f kd = some k2 → wp (Ev d) 1 cX1_runFrom (some .int) Q 6 [some (.ref 512), none, some (zI (a : Int)), some (zI x), some (zI (dp : Int)), some (zI (kd : Int)), some (zI (i : Int)), none] [] M
  | 0, _, _, _, _, u => by cases u
  | f + 1, i, kd, e, hk, u => by
    have z := zsv1_w kd hk
    have e4 : zw ((kd : Int) * 4 + (a : Int)) = ((kd * 4 + a : Nat) : Int) := by rw [zw_of (by omega) (by omega)]; omega
    refine v_X1_runFrom_6 _ _ _ _ _ ?_
    rw [zw_n (a := i) (by omega), zw_n (a := kd) (by omega), zw_n (a := dp) (by omega), e4, show (((kd * 4 + a : Nat) : Int)).toNat = kd * 4 + a by omega, zsv2_w _ (by omega), show ((kd : Int)).toNat = kd by omega]
    rw [upK] at u
    refine ⟨fun _ => ⟨fun q => absurd q (by omega), fun _ => ⟨fun _ => ⟨fun _ => ⟨by omega, by omega, fun q => ⟨by omega, by omega, ?_⟩, fun q => ?_⟩, fun q => absurd (by omega) q⟩, fun q => absurd (by omega) q⟩⟩, fun q => absurd (by omega) q⟩
    · rw [if_pos q] at u
      split at u
      · cases u
      · rename_i q2
        obtain ⟨k3, hk3⟩ : ∃ k3 : Nat, zsv 1 kd = (k3 : Int) := ⟨(zsv 1 kd).toNat, by omega⟩
        rw [hk3] at u ⊢
        rw [show ((k3 : Int)).toNat = k3 by omega] at u
        rw [show (i : Int) + 1 = ((i + 1 : Nat) : Int) by omega]
        exact l_X1_from a ha x dp hdp M k2 h f (i + 1) k3 (by omega) (by omega) u
    · rw [if_neg q] at u
      cases u
      exact h
theorem xor_w (a b : Int) : zw (z_xor a b) = z_xor a b := zx_xor a b
theorem evB_w {R : Nat → Nat → Int → evT} {b : Int} {K : Nat} {nb ab x : Int} {p : Int × List Int} (h : evB R b K nb ab x = some p) : zw p.1 = p.1 := by
  unfold evB at h
  by_cases q0 : nb = 1
  · rw [if_pos q0] at h; cases h; exact zw_zw _
  rw [if_neg q0] at h
  by_cases q1 : nb = 2
  · rw [if_pos q1] at h; exact ev2_w (fun _ _ => zw_zw _) h
  rw [if_neg q1] at h
  by_cases q2 : nb = 10
  · rw [if_pos q2] at h; exact ev1_w (fun _ => zw_zw _) h
  rw [if_neg q2] at h
  by_cases q3 : nb = 11
  · rw [if_pos q3] at h; cases h; exact xor_w _ _
  rw [if_neg q3] at h
  by_cases q4 : ab < 0
  · rw [if_pos q4] at h; cases h
  rw [if_neg q4] at h
  by_cases q5 : nb = 20
  · rw [if_pos q5] at h; exact ev1_w (fun _ => zw_zw _) h
  rw [if_neg q5] at h
  by_cases q6 : nb = 30
  · rw [if_pos q6] at h; exact ev1_w (fun _ => zw_zw _) h
  rw [if_neg q6] at h
  by_cases q7 : nb = 40
  · rw [if_pos q7] at h; exact ev1_w (fun _ => zw_zw _) h
  rw [if_neg q7] at h
  by_cases q8 : nb = 41
  · rw [if_pos q8] at h; exact ev1_w (fun _ => zw_zw _) h
  rw [if_neg q8] at h
  by_cases q9 : nb = 50
  · rw [if_pos q9] at h; exact ev1_w (fun _ => xor_w _ _) h
  rw [if_neg q9] at h
  by_cases q10 : nb = 60
  · rw [if_pos q10] at h; exact ev2_w (fun _ _ => zw_zw _) h
  rw [if_neg q10] at h
  by_cases q11 : nb = 61
  · rw [if_pos q11] at h; exact ev1_w (fun _ => zw_zw _) h
  rw [if_neg q11] at h
  by_cases q12 : nb = 70
  · rw [if_pos q12] at h; exact ev1_w (fun _ => zw_zw _) h
  rw [if_neg q12] at h
  by_cases q13 : nb = 80
  · rw [if_pos q13] at h; exact ev2_w (fun _ _ => zw_zw _) h
  rw [if_neg q13] at h
  by_cases q14 : nb = 81
  · rw [if_pos q14] at h; exact ev1_w (fun _ => zw_zw _) h
  rw [if_neg q14] at h
  cases h
theorem evF_w {b : Int} {K f kd a : Nat} {x : Int} {p : Int × List Int} (h : evF b K f kd a x = some p) : zw p.1 = p.1 := by
  match f with
  | 0 => cases h
  | f + 1 =>
    rw [evF] at h
    split at h
    · cases h
    · split at h
      · cases h
      · rename_i q
        cases h
        have w := evB_w q
        exact w
/-- what the class's runFrom does -/
def rfP (b K f : Nat) : Prop := ∀ (kd a : Nat) (x : Int) (dp d : Nat) (M : zM) (tr : List Int) (p : Int × List Int) (Q : Int → zM → Prop), evF (b : Int) K f kd a x = some p → kd < 8 → a < 4 → dp + f ≤ 40 → 3 * f ≤ d → tr.length + 3 ^ f < 1000 → PC M b K → TrC M tr → (∀ M2 : zM, FrG M M2 → TrC M2 (tr ++ p.2) → (tr ++ p.2).length ≤ tr.length + 3 ^ f → Q p.1 M2) → Ev d mX1_runFrom [.ref 512, zI (kd : Int), zI (a : Int), zI x, zI (dp : Int)] M Q
theorem ow_ok {b K f : Nat} (hf : rfP b K f) (a : Nat) (x : Int) (dp d : Nat) (M : zM) (tr : List Int) (p : Int × List Int) (Q : Int → zM → Prop) (he : evF (b : Int) K f K a x = some p) (ha : a < 4) (hdp : dp + f ≤ 40) (hd : 3 * f + 1 ≤ d) (hl : tr.length + 3 ^ f < 1000) (hP : PC M b K) (hT : TrC M tr) (h : ∀ M2 : zM, FrG M M2 → TrC M2 (tr ++ p.2) → (tr ++ p.2).length ≤ tr.length + 3 ^ f → Q p.1 M2) : Ev d mX1_own [.ref 512, zI (a : Int), zI x, zI (dp : Int)] M Q := by
  obtain ⟨d, rfl, hdd⟩ := e_of (3 * f) hd; replace hd := hdd
  obtain ⟨p1, p2, p3, p4⟩ := id hP
  refine e_X1_own _ _ _ (v_X1_own_0 _ _ _ ?_)
  rw [p1, show ((b : Int)).toNat = b by omega, p3]
  refine ⟨by omega, by omega, hf K a x dp d M tr p _ he p4 ha hdp hd hl hP hT (fun M2 f1 f2 f3 => ?_)⟩
  rw [evF_w he]
  exact h M2 f1 f2 f3
