/-! shelves: shift, taken -/
theorem l_X8_shift1 {E : zE} {M : zM} {Q : Int → zM → Prop} (s i o j n : Int) (h0 : 0 ≤ s) (h1 : s < 6) (i0 : 0 ≤ i) (n0 : 0 ≤ n) (hin : i + n ≤ 60) (h : ∀ M2 : zM, (∀ a b, zg M2 a b = zg M a b) → (∀ a b, zh M2 a b = if a = 1327 ∧ b < n.toNat then zh M 1326 (60 * s.toNat + i.toNat + b) else zh M a b) → wp E 8 cX8_shift (some .int) Q 150 [some (.ref 1280), none, none, some (zI o), some (zI j), some (zI n), some (zI 0)] [] M2) : ∀ (x k : Nat) (M1 : zM), k + x = n.toNat → (∀ a b, zg M1 a b = zg M a b) → (∀ a b, zh M1 a b = if a = 1327 ∧ b < k then zh M 1326 (60 * s.toNat + i.toNat + b) else zh M a b) → wp E 8 cX8_shift (some .int) Q 113 [some (.ref 1280), some (zI s), some (zI i), some (zI o), some (zI j), some (zI n), some (zI (k : Int))] [] M1 := by
  intro x
  have wn : zw n = n := zw_of (by omega) (by omega)
  induction x with
  | zero =>
    intro k M1 hk g1 g2
    have wk : zw (k : Int) = (k : Int) := zw_of (by omega) (by omega)
    refine v_X8_shift_113 _ _ _ _ _ _ ?_
    rw [wk, wn]
    exact ⟨fun z => absurd z (by omega), fun _ => h M1 g1 (fun a b => by rw [g2, show n.toNat = k by omega])⟩
  | succ x ih =>
    intro k M1 hk g1 g2
    have wk : zw (k : Int) = (k : Int) := zw_of (by omega) (by omega)
    refine v_X8_shift_113 _ _ _ _ _ _ ?_
    rw [wk, wn, zw_of (a := 60 * s + i + (k : Int)) (by omega) (by omega)]
    refine ⟨fun _ => ⟨by omega, by omega, by omega, by omega, ?_⟩, fun z => absurd (by omega) z⟩
    rintro _ rfl
    have ih := ih (k + 1) (zt M1 1327 ((k : Int)).toNat (zh M1 1326 (60 * s + i + (k : Int)).toNat)) (by omega) (fun a b => by rw [zg_zt]; exact g1 a b) (fun a b => ?_)
    · exact ih
    · rw [zh_zt, g2, g2, show ((k : Int)).toNat = k by omega, show (60 * s + i + (k : Int)).toNat = 60 * s.toNat + i.toNat + k by omega]
      by_cases e : a = 1327
      · by_cases e2 : b = k
        · rw [if_pos (by omega), if_neg (by omega), if_pos (by omega), e2, zv_zh]
        · rw [if_neg (by omega)]
          by_cases e3 : b < k
          · rw [if_pos (by omega), if_pos (by omega)]
          · rw [if_neg (by omega), if_neg (by omega)]
      · rw [if_neg (by omega), if_neg (by omega), if_neg (by omega)]
theorem l_X8_shift2 {E : zE} {M : zM} {Q : Int → zM → Prop} (o j n : Int) (h0 : 0 ≤ o) (h1 : o < 6) (j0 : 0 ≤ j) (n0 : 0 ≤ n) (hjn : j + n ≤ 60) (h : ∀ M2 : zM, (∀ a b, zg M2 a b = zg M a b) → (∀ a b, zh M2 a b = if a = 1326 ∧ 60 * o.toNat + j.toNat ≤ b ∧ b < 60 * o.toNat + j.toNat + n.toNat then zh M 1327 (b - (60 * o.toNat + j.toNat)) else zh M a b) → Q n M2) : ∀ (x k : Nat) (M1 : zM), k + x = n.toNat → (∀ a b, zg M1 a b = zg M a b) → (∀ a b, zh M1 a b = if a = 1326 ∧ 60 * o.toNat + j.toNat ≤ b ∧ b < 60 * o.toNat + j.toNat + k then zh M 1327 (b - (60 * o.toNat + j.toNat)) else zh M a b) → wp E 8 cX8_shift (some .int) Q 150 [some (.ref 1280), none, none, some (zI o), some (zI j), some (zI n), some (zI (k : Int))] [] M1 := by
  intro x
  have wn : zw n = n := zw_of (by omega) (by omega)
  induction x with
  | zero =>
    intro k M1 hk g1 g2
    have wk : zw (k : Int) = (k : Int) := zw_of (by omega) (by omega)
    refine v_X8_shift_150 _ _ _ _ ?_
    rw [wk, wn]
    exact ⟨fun z => absurd z (by omega), fun _ => h M1 g1 (fun a b => by rw [g2, show n.toNat = k by omega])⟩
  | succ x ih =>
    intro k M1 hk g1 g2
    have wk : zw (k : Int) = (k : Int) := zw_of (by omega) (by omega)
    refine v_X8_shift_150 _ _ _ _ ?_
    rw [wk, wn, zw_of (a := 60 * o + j + (k : Int)) (by omega) (by omega)]
    refine ⟨fun _ => ⟨by omega, by omega, by omega, by omega, ?_⟩, fun z => absurd (by omega) z⟩
    rintro _ rfl
    have ih := ih (k + 1) (zt M1 1326 (60 * o + j + (k : Int)).toNat (zh M1 1327 ((k : Int)).toNat)) (by omega) (fun a b => by rw [zg_zt]; exact g1 a b) (fun a b => ?_)
    · exact ih
    · rw [zh_zt, g2, g2, show ((k : Int)).toNat = k by omega, show (60 * o + j + (k : Int)).toNat = 60 * o.toNat + j.toNat + k by omega]
      by_cases e : a = 1326
      · by_cases e2 : b = 60 * o.toNat + j.toNat + k
        · rw [if_pos (by omega), if_neg (by omega), if_pos (by omega), e2, zv_zh, show 60 * o.toNat + j.toNat + k - (60 * o.toNat + j.toNat) = k by omega]
        · rw [if_neg (by omega)]
          by_cases e3 : 60 * o.toNat + j.toNat ≤ b ∧ b < 60 * o.toNat + j.toNat + k
          · rw [if_pos (by omega), if_pos (by omega)]
          · rw [if_neg (by omega), if_neg (by omega)]
      · rw [if_neg (by omega), if_neg (by omega), if_neg (by omega)]
def shfR (M : zM) (s i o j n : Int) : Int := if (0 ≤ s ∧ s < 6) ∧ (0 ≤ o ∧ o < 6) then (if zg M 1324 s.toNat = -1 ∨ zg M 1324 o.toNat = -1 then -11 else if ¬ zg M 1324 s.toNat < 0 ∨ ¬ zg M 1324 s.toNat = zg M 1324 o.toNat then -12 else if 0 ≤ n ∧ 0 ≤ i ∧ 0 ≤ j ∧ i + n ≤ zg M 1325 s.toNat ∧ j + n ≤ zg M 1325 o.toNat then n else -13) else -1
theorem c_X8_shift {d : Nat} {M : zM} {Q : Int → zM → Prop} (hd : 3 ≤ d) (s i o j n : Int) (hs : zw s = s) (hi : zw i = i) (ho : zw o = o) (hj : zw j = j) (hn : zw n = n) (hz : ∀ j : Nat, j < 6 → zg M 1324 j < -1 → 0 ≤ zg M 1325 j ∧ zg M 1325 j ≤ 60) (hb : shfR M s i o j n < 0 → Q (shfR M s i o j n) M) (hg : 0 ≤ shfR M s i o j n → ∀ M2 : zM, (∀ a b, zg M2 a b = zg M a b) → (∀ a b, a ≠ 1327 → zh M2 a b = if a = 1326 ∧ 60 * o.toNat + j.toNat ≤ b ∧ b < 60 * o.toNat + j.toNat + n.toNat then zh M 1326 (60 * s.toNat + i.toNat + (b - (60 * o.toNat + j.toNat))) else zh M a b) → Q (shfR M s i o j n) M2) : Ev d mX8_shift [.ref 1280, zI s, zI i, zI o, zI j, zI n] M Q := by
  obtain ⟨d, rfl, -⟩ := e_of 2 hd
  unfold shfR at hb hg
  refine e_X8_shift s i o j n (v_X8_shift_0 s i o j n (c_X8_isShelf (by omega) s ?_))
  simp only [hs, hi, ho, hj, hn]
  refine bz_br (fun q => by rw [if_neg (by omega)] at hb; exact hb (by omega)) (fun q => c_X8_isShelf (by omega) o ?_)
  rw [ho]
  refine bz_br (fun q2 => by rw [if_neg (by omega)] at hb; exact hb (by omega)) (fun q2 => ?_)
  rw [if_pos ⟨q, q2⟩] at hb hg
  refine ⟨by omega, by omega, fun q3 => by rw [if_pos (Or.inl q3)] at hb; exact hb (by omega), fun q3 => ⟨by omega, by omega, fun q4 => by rw [if_pos (Or.inr q4)] at hb; exact hb (by omega), fun q4 => ⟨by omega, by omega, fun q5 => ⟨by omega, by omega, by omega, by omega, fun q6 => ?_, fun q6 => ?_⟩, fun q5 => ?_⟩⟩⟩
  · rw [if_neg (by omega), if_neg (by omega)] at hb hg
    have z1 := hz s.toNat (by omega) (by omega)
    have z2 := hz o.toNat (by omega) (by omega)
    refine ⟨fun q7 => by rw [if_neg (by omega)] at hb; exact hb (by omega), fun q7 => ⟨fun q8 => by rw [if_neg (by omega)] at hb; exact hb (by omega), fun q8 => ⟨fun q9 => by rw [if_neg (by omega)] at hb; exact hb (by omega), fun q9 => ⟨by omega, by omega, ?_⟩⟩⟩⟩
    have hnh := zw_hi n
    rw [hn] at hnh
    rw [zw_of (a := zg M 1325 s.toNat - n) (by omega) (by omega), zw_of (a := zg M 1325 o.toNat - n) (by omega) (by omega)]
    refine ⟨fun q10 => by rw [if_neg (by omega)] at hb; exact hb (by omega), fun q10 => ⟨by omega, by omega, fun q11 => by rw [if_neg (by omega)] at hb; exact hb (by omega), fun q11 => ?_⟩⟩
    rw [if_pos (by omega)] at hg
    refine l_X8_shift1 (M := M) s i o j n (by omega) (by omega) (by omega) (by omega) (by omega) (fun M2 g1 g2 => ?_) n.toNat 0 M (by omega) (fun _ _ => rfl) (fun a b => by rw [if_neg (by omega)])
    refine l_X8_shift2 (M := M2) o j n (by omega) (by omega) (by omega) (by omega) (by omega) (fun M3 f1 f2 => hg (by omega) M3 (fun a b => by rw [f1, g1]) (fun a b hab => ?_)) n.toNat 0 M2 (by omega) (fun _ _ => rfl) (fun a b => by rw [if_neg (by omega)])
    rw [f2, g2, g2, if_neg (show ¬ (a = 1327 ∧ b < n.toNat) by omega)]
    by_cases e : a = 1326 ∧ 60 * o.toNat + j.toNat ≤ b ∧ b < 60 * o.toNat + j.toNat + n.toNat
    · rw [if_pos e, if_pos e, if_pos (by omega)]
    · rw [if_neg e, if_neg e]
  · rw [if_neg (by omega), if_pos (by omega)] at hb; exact hb (by omega)
  · rw [if_neg (by omega), if_pos (by omega)] at hb; exact hb (by omega)
theorem f_shift {M M3 : zM} (s o i j n : Nat) (hs : s < 6) (ho : o < 6) (hr : zg M 1324 s < -1) (hr2 : zg M 1324 o < -1) (hin : i + n ≤ 60) (hjn : j + n ≤ 60) (k1 : ∀ i j, zg M3 i j = zg M i j) (k2 : ∀ a b, a ≠ 1327 → zh M3 a b = if a = 1326 ∧ 60 * o + j ≤ b ∧ b < 60 * o + j + n then zh M 1326 (60 * s + i + (b - (60 * o + j))) else if a = 640 + 64 * o + 1 ∧ j ≤ b ∧ b < j + n then zh M (640 + 64 * s + 1) (i + (b - j)) else zh M a b) (hI : Inv M) : Inv M3 := by
  have h14 := hI.2.2.2.2.2.2.2.2.2.2.2.2.2
  refine Inv_IS (M := M) (fun i j e1 e2 e3 => k1 _ _) (IS_upd (M := M) o (k1 _ _) (fun j k hj e => ⟨k1 _ _, ?_⟩) (fun j hj e => ⟨k1 _ _, k1 _ _, fun i hi => ?_⟩) ?_ h14) hI
  · rw [k2 _ _ (by omega)]; (repeat (first | rw [if_pos (by omega)] | rw [if_neg (by omega)]))
  · rw [k2 _ _ (by omega)]; (repeat (first | rw [if_pos (by omega)] | rw [if_neg (by omega)]))
  · have hj := h14 o ho
    have hj0 := h14 s hs
    unfold ISj at hj hj0 ⊢
    simp only [k1]
    rcases hj with hj | ⟨b1, b2, b3, b4, b5, b6, b7, b8⟩
    · omega
    · rcases hj0 with hj0 | ⟨c1, c2, c3, c4, c5, c6, c7, c8⟩
      · omega
      · refine Or.inr ⟨b1, b2, b3, b4, b5, b6, b7, fun x hx => ?_⟩
        rw [k2 _ _ (by omega), k2 _ _ (by omega)]
        by_cases e : j ≤ x ∧ x < j + n
        · (repeat (first | rw [if_pos (by omega)] | rw [if_neg (by omega)]))
          have := c8 (i + (x - j)) (by omega)
          rw [this]
          congr 1
          omega
        · (repeat (first | rw [if_pos (by omega)] | rw [if_neg (by omega)]))
          exact b8 x hx
theorem p_shift {d : Nat} {M : zM} (hd : 5 ≤ d) (s i o j n : Int) (hs : zw s = s) (hi : zw i = i) (ho : zw o = o) (hj : zw j = j) (hn : zw n = n) (hI : Inv M) : Pr d mX7_shift mX8_shift [zI s, zI i, zI o, zI j, zI n] M := by
  have h14 := hI.2.2.2.2.2.2.2.2.2.2.2.2.2
  have hz : ∀ j : Nat, j < 6 → zg M 1324 j < -1 → 0 ≤ zg M 1325 j ∧ zg M 1325 j ≤ 60 := by
    intro j hj h
    have := h14 j hj
    unfold ISj at this
    omega
  obtain ⟨d, rfl, -⟩ := e_of 4 hd
  have B : ∀ r : Int, r < 0 → shfR M s i o j n = r → Ev (d + 1) mX8_shift [.ref 1280, zI s, zI i, zI o, zI j, zI n] M (fun r2 M2 => r = r2 ∧ Inv M2) := by
    intro r h0 h1
    exact c_X8_shift (by omega) s i o j n hs hi ho hj hn hz (fun _ => ⟨h1.symm, hI⟩) (fun z => absurd h0 (by omega))
  refine e_X7_shift s i o j n (v_X7_shift_0 s i o j n (c_X7_isShelf (by omega) s ?_))
  simp only [hs, hi, ho, hj, hn]
  refine bz_br (fun q => B _ (by omega) (by unfold shfR; rw [if_neg (by omega)])) (fun q => c_X7_isShelf (by omega) o ?_)
  rw [ho]
  refine bz_br (fun q2 => B _ (by omega) (by unfold shfR; rw [if_neg (by omega)])) (fun q2 => ?_)
  have js := h14 s.toNat (by omega)
  have jo := h14 o.toNat (by omega)
  unfold ISj at js jo
  refine ⟨by omega, by omega, by omega, by omega, c_X6_isEmpty (by omega) _ (ob_sh (by omega)) (bz_br (fun q3 => c_X6_isEmpty (by omega) _ (ob_sh (by omega)) (bz_br (fun q4 => c_X6_isRow (by omega) _ (ob_sh (by omega)) (bz_br (fun q5 => ?_) (fun q5 => c_X6_isRow (by omega) _ (ob_sh (by omega)) (bz_br (fun q6 => ?_) (fun q6 => ⟨fun q7 => c_X6_hasPlaces (by omega) _ (ob_sh (by omega)) _ _ (by omega) ?_, fun q7 => ?_⟩))))) (fun q4 => ?_))) (fun q3 => ?_))⟩
  · exact B _ (by omega) (by unfold shfR; rw [if_pos (by omega), if_neg (by omega), if_pos (by omega)])
  · exact B _ (by omega) (by unfold shfR; rw [if_pos (by omega), if_neg (by omega), if_pos (by omega)])
  · rw [hi, hn]
    refine bz_br (fun q8 => B _ (by omega) (by unfold shfR; rw [if_pos (by omega), if_neg (by omega), if_neg (by omega), if_neg (by omega)])) (fun q8 => c_X6_hasPlaces (by omega) _ (ob_sh (by omega)) _ _ (by omega) ?_)
    rw [hj, hn]
    refine bz_br (fun q9 => B _ (by omega) (by unfold shfR; rw [if_pos (by omega), if_neg (by omega), if_neg (by omega), if_neg (by omega)])) (fun q9 => ⟨by omega, by omega, by omega, by omega, by omega, ?_⟩)
    rintro _ rfl
    have hsh : shfR (zcl M (640 + 64 * s.toNat + 1) (640 + 64 * o.toNat + 1) i.toNat j.toNat n.toNat) s i o j n = n := by
      show shfR M s i o j n = n
      unfold shfR
      rw [if_pos (by omega), if_neg (by omega), if_neg (by omega), if_pos (by omega)]
    refine c_X8_shift (by omega) s i o j n hs hi ho hj hn hz (fun z => absurd z (by omega)) (fun _ M2 g1 g2 => ⟨hsh.symm, f_shift (M := M) s.toNat o.toNat i.toNat j.toNat n.toNat (by omega) (by omega) (by omega) (by omega) (by omega) (by omega) (fun a b => by rw [g1, zg_zcl]) (fun a b hab => ?_) hI⟩)
    rw [g2 a b hab, zh_zcl, zh_zcl, if_neg (show ¬ (1326 = 640 + 64 * o.toNat + 1) by omega)]
    by_cases e1 : a = 1326 ∧ 60 * o.toNat + j.toNat ≤ b ∧ b < 60 * o.toNat + j.toNat + n.toNat
    · rw [if_pos e1, if_pos e1]
    · rw [if_neg e1, if_neg e1]
      by_cases e2 : a = 640 + 64 * o.toNat + 1
      · by_cases e3 : j.toNat ≤ b ∧ b < j.toNat + n.toNat
        · rw [if_pos e2, if_pos e3, if_pos ⟨e2, e3⟩]
        · rw [if_pos e2, if_neg e3, if_neg (fun z => e3 z.2), e2]
      · rw [if_neg e2, if_neg (fun z => e2 z.1)]
  · exact B _ (by omega) (by unfold shfR; rw [if_pos (by omega), if_neg (by omega), if_pos (by omega)])
  · exact B _ (by omega) (by unfold shfR; rw [if_pos (by omega), if_pos (by omega)])
  · exact B _ (by omega) (by unfold shfR; rw [if_pos (by omega), if_pos (by omega)])
def undF : Nat → Int → Int → Bool
  | 0, _, _ => false
  | f + 1, a, t => if a < 0 then false else if a < 8 then (if a = t then true else undF f (zsv 1 a.toNat) t) else false
theorem l_X1_isUnder {E : zE} {M : zM} {Q : Int → zM → Prop} (t : Int) (ht : zw t = t) : ∀ (f k : Nat) (a : Int), zw a = a → k + f = 8 → Q (bz (undF f a t = true)) M → wp E 1 cX1_isUnder (some .boolean) Q 4 [none, some (zI t), some (zI a), some (zI (k : Int))] [] M := by
  intro f
  induction f with
  | zero =>
    intro k a ha hk h
    refine v_X1_isUnder_4 _ _ _ ?_
    rw [zw_of (a := (k : Int)) (by omega) (by omega)]
    exact ⟨fun z => absurd z (by omega), fun _ => by simpa [undF, bz] using h⟩
  | succ f ih =>
    intro k a ha hk h
    refine v_X1_isUnder_4 _ _ _ ?_
    rw [zw_of (a := (k : Int)) (by omega) (by omega), ha, ht]
    unfold undF at h
    refine ⟨fun _ => ⟨fun q => ?_, fun q => ⟨fun q2 => ⟨fun q3 => ?_, fun q3 => ⟨by omega, by omega, ?_⟩⟩, fun q2 => ?_⟩⟩, fun z => absurd (by omega) z⟩
    · rw [if_pos q] at h; simpa [bz] using h
    · rw [if_neg q, if_pos q2, if_pos q3] at h; simpa [bz] using h
    · rw [if_neg q, if_pos q2, if_neg q3] at h
      have wz : ∀ x : Nat, x < 8 → zw (zsv 1 x) = zsv 1 x := by decide
      exact ih (k + 1) _ (wz _ (by omega)) (by omega) h
    · rw [if_neg q, if_neg q2] at h; simpa [bz] using h
theorem c_X1_isUnder {d : Nat} {M : zM} {Q : Int → zM → Prop} (hd : 1 ≤ d) (k t : Int) (hk : zw k = k) (ht : zw t = t) (h : Q (bz (undF 8 k t = true)) M) : Ev d mX1_isUnder [zI k, zI t] M Q := by
  obtain ⟨d, rfl, -⟩ := e_of 0 hd
  exact e_X1_isUnder k t (v_X1_isUnder_0 k t (l_X1_isUnder t ht 8 0 k hk (by omega) h))
abbrev undR (k t : Int) : Prop := t = 0 ∨ k = t ∨ (t = 1 ∧ k = 4) ∨ (t = 2 ∧ (k = 3 ∨ k = 5)) ∨ (t = 3 ∧ k = 5) ∨ (t = 6 ∧ k = 7)
def undB (k t : Int) : Bool := decide (t = 0) || decide (k = t) || (decide (t = 1) && decide (k = 4)) || (decide (t = 2) && (decide (k = 3) || decide (k = 5))) || (decide (t = 3) && decide (k = 5)) || (decide (t = 6) && decide (k = 7))
theorem undB_R (k t : Int) : undB k t = true ↔ undR k t := by
  unfold undB
  simp only [Bool.or_eq_true, Bool.and_eq_true, decide_eq_true_eq]
  constructor
  · rintro (((((h | h) | h) | h) | h) | h)
    · exact Or.inl h
    · exact Or.inr (Or.inl h)
    · exact Or.inr (Or.inr (Or.inl h))
    · exact Or.inr (Or.inr (Or.inr (Or.inl h)))
    · exact Or.inr (Or.inr (Or.inr (Or.inr (Or.inl h))))
    · exact Or.inr (Or.inr (Or.inr (Or.inr (Or.inr h))))
  · rintro (h | h | h | h | h | h)
    · exact Or.inl (Or.inl (Or.inl (Or.inl (Or.inl h))))
    · exact Or.inl (Or.inl (Or.inl (Or.inl (Or.inr h))))
    · exact Or.inl (Or.inl (Or.inl (Or.inr h)))
    · exact Or.inl (Or.inl (Or.inr h))
    · exact Or.inl (Or.inr h)
    · exact Or.inr h
theorem und_eq (k t : Nat) (hk : k < 8) (ht : t < 8) : undF 8 (k : Int) (t : Int) = true ↔ undR (k : Int) (t : Int) := by
  have : ∀ k : Nat, k < 8 → ∀ t : Nat, t < 8 → undF 8 (k : Int) (t : Int) = undB (k : Int) (t : Int) := by decide +kernel
  rw [this k hk t ht]
  exact undB_R _ _
theorem c_X8_isUnder {d : Nat} {M : zM} {Q : Int → zM → Prop} (hd : 1 ≤ d) (k t : Int) (hk : zw k = k) (ht : zw t = t) (h : Q (bz (undR k t)) M) : Ev d mX8_isUnder [zI k, zI t] M Q := by
  obtain ⟨d, rfl, -⟩ := e_of 0 hd
  have Y : undR k t → Q 1 M := fun z => by rw [bz_t z] at h; exact h
  have N : ¬ undR k t → Q 0 M := fun z => by rw [bz_f z] at h; exact h
  unfold undR at Y N
  have h44 : ¬ (t = 0 ∨ k = t ∨ (t = 1 ∧ k = 4) ∨ (t = 2 ∧ (k = 3 ∨ k = 5)) ∨ (t = 3 ∧ k = 5)) → wp (Ev d) 8 cX8_isUnder (some .boolean) Q 44 [some (zI k), some (zI t)] [] M := by
    intro q
    refine v_X8_isUnder_44 k t ?_
    rw [hk, ht]
    exact ⟨fun q1 => ⟨fun q2 => Y (by omega), fun q2 => N (by omega)⟩, fun q1 => N (by omega)⟩
  have h34 : ¬ (t = 0 ∨ k = t ∨ (t = 1 ∧ k = 4) ∨ (t = 2 ∧ (k = 3 ∨ k = 5))) → wp (Ev d) 8 cX8_isUnder (some .boolean) Q 34 [some (zI k), some (zI t)] [] M := by
    intro q
    refine v_X8_isUnder_34 k t ?_
    rw [hk, ht]
    exact ⟨fun q1 => ⟨fun q2 => Y (by omega), fun q2 => h44 (by omega)⟩, fun q1 => h44 (by omega)⟩
  have h19 : ¬ (t = 0 ∨ k = t ∨ (t = 1 ∧ k = 4)) → wp (Ev d) 8 cX8_isUnder (some .boolean) Q 19 [some (zI k), some (zI t)] [] M := by
    intro q
    refine v_X8_isUnder_19 k t ?_
    rw [hk, ht]
    exact ⟨fun q1 => ⟨fun q2 => Y (by omega), fun q2 => ⟨fun q3 => Y (by omega), fun q3 => h34 (by omega)⟩⟩, fun q1 => h34 (by omega)⟩
  refine e_X8_isUnder k t (v_X8_isUnder_0 k t ?_)
  rw [hk, ht]
  exact ⟨fun q1 => Y (by omega), fun q1 => ⟨fun q2 => Y (by omega), fun q2 => ⟨fun q3 => ⟨fun q4 => Y (by omega), fun q4 => h19 (by omega)⟩, fun q3 => h19 (by omega)⟩⟩⟩
theorem p_taken {d : Nat} {M : zM} (hd : 5 ≤ d) (s k : Int) (hs : zw s = s) (hk : zw k = k) (hI : Inv M) : Pr d mX7_taken mX8_taken [zI s, zI k] M := by
  obtain ⟨nb, n1, n2, n3, n4⟩ := hI.2.2.2.2.2.2.2.2.2.2.2.1
  have h14 := hI.2.2.2.2.2.2.2.2.2.2.2.2.2
  obtain ⟨d, rfl, -⟩ := e_of 4 hd
  have R : ∀ r : Int, (¬ ((0 ≤ s ∧ s < 6) ∧ 0 ≤ k ∧ k < 8) → r = -1) → ((0 ≤ s ∧ s < 6) ∧ 0 ≤ k ∧ k < 8 → (zg M 1324 s.toNat = -1 → r = -11) ∧ (zg M 1324 s.toNat < -1 → r = -12) ∧ (0 ≤ zg M 1324 s.toNat → (undR (zg M 1321 (zg M 1324 s.toNat).toNat) k → r = zg M 1321 (zg M 1324 s.toNat).toNat) ∧ (¬ undR (zg M 1321 (zg M 1324 s.toNat).toNat) k → r = -12))) → Ev (d + 1) mX8_taken [.ref 1280, zI s, zI k] M (fun r2 M2 => r = r2 ∧ Inv M2) := by
    intro r hb hg
    refine e_X8_taken s k (v_X8_taken_0 s k (c_X8_isShelf (by omega) s ?_))
    rw [hs]
    refine bz_br (fun q => ⟨hb (by omega), hI⟩) (fun q => c_X8_in (by omega) _ _ _ ?_)
    rw [hk, zq_0, zq_7]
    refine bz_br (fun q2 => ⟨hb (by omega), hI⟩) (fun q2 => ?_)
    have hg := hg ⟨q, by omega, by omega⟩
    refine ⟨by omega, by omega, fun q3 => ⟨hg.1 q3, hI⟩, fun q3 => ⟨by omega, by omega, fun q4 => ⟨hg.2.1 (by omega), hI⟩, fun q4 => ?_⟩⟩
    have hj := h14 s.toNat (by omega)
    unfold ISj at hj
    refine ⟨by omega, by omega, by omega, by omega, c_X8_isUnder (by omega) _ _ (zw_zg _ _ _) hk (bz_br (fun q5 => ⟨(hg.2.2 (by omega)).2 q5, hI⟩) (fun q5 => ⟨by omega, by omega, by omega, by omega, (hg.2.2 (by omega)).1 q5, hI⟩))⟩
  refine e_X7_taken s k (v_X7_taken_0 s k (c_X7_isShelf (by omega) s ?_))
  simp only [hs]
  refine bz_br (fun q => R _ (fun _ => rfl) (fun z => absurd z.1 q)) (fun q => c_X7_isKind (by omega) k ?_)
  rw [hk]
  refine bz_br (fun q2 => R _ (fun _ => rfl) (fun z => absurd z.2 q2)) (fun q2 => ?_)
  have hj := h14 s.toNat (by omega)
  unfold ISj at hj
  refine ⟨by omega, by omega, c_X6_isEmpty (by omega) _ (ob_sh (by omega)) (bz_br (fun q3 => c_X6_isRow (by omega) _ (ob_sh (by omega)) (bz_br (fun q4 => c_X1_has (by omega) _ ?_) (fun q4 => ?_))) (fun q3 => ?_))⟩
  · rw [zw_zg]
    refine bz_br (fun q5 => absurd (by omega) q5) (fun q5 => ⟨by omega, by omega, ?_⟩)
    have eb : zg M (640 + 64 * s.toNat) 1 = zg M 1324 s.toNat := by omega
    have hn4 := n4 (zg M 1324 s.toNat).toNat (by omega)
    rw [eb, hn4.1]
    have hu := und_eq (zg M 1321 (zg M 1324 s.toNat).toNat).toNat k.toNat (by omega) (by omega)
    rw [show (((zg M 1321 (zg M 1324 s.toNat).toNat).toNat : Nat) : Int) = zg M 1321 (zg M 1324 s.toNat).toNat by omega, show ((k.toNat : Nat) : Int) = k by omega] at hu
    refine c_X1_isUnder (by omega) _ _ (zw_zg _ _ _) hk (bz_br (fun q6 => ?_) (fun q6 => ?_))
    · exact R _ (fun z => absurd ⟨q, q2⟩ z) (fun _ => ⟨fun z => absurd z (by omega), fun z => absurd z (by omega), fun _ => ⟨fun z => absurd (hu.mpr z) q6, fun _ => rfl⟩⟩)
    · exact R _ (fun z => absurd ⟨q, q2⟩ z) (fun _ => ⟨fun z => absurd z (by omega), fun z => absurd z (by omega), fun _ => ⟨fun _ => rfl, fun z => absurd (hu.mp q6) z⟩⟩)
  · exact R _ (fun z => absurd ⟨q, q2⟩ z) (fun _ => ⟨fun z => absurd z (by omega), fun _ => rfl, fun z => absurd z (by omega)⟩)
  · exact R _ (fun z => absurd ⟨q, q2⟩ z) (fun _ => ⟨fun _ => rfl, fun z => absurd z (by omega), fun z => absurd z (by omega)⟩)
