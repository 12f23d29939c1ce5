/-! meet -/
theorem l_X4_addMeeting {E : zE} {M : zM} {Q : Int → zM → Prop} (o : Nat) (ho : zob o 4) (v1 v2 v3 : Int) (n : Nat) (hn : n < 16) (hb : ∀ k : Nat, k < n → 0 ≤ zg M (o + 10) k ∧ zg M (o + 10) k < (n : Int)) (h : ∀ (P : Nat) (M1 : zM), P ≤ n → (P = 0 ∨ zg M (o + 9) (zg M (o + 10) (P - 1)).toNat ≤ zw v3) → (∀ x : Nat, P ≤ x → x < n → zw v3 < zg M (o + 9) (zg M (o + 10) x).toNat) → (∀ i j, i ≠ o + 10 → zg M1 i j = zg M i j) → (∀ i j, zh M1 i j = zh M i j) → (∀ x : Nat, x < P → zg M1 (o + 10) x = zg M (o + 10) x) → (∀ x : Nat, P ≤ x → x < n → zg M1 (o + 10) (x + 1) = zg M (o + 10) x) → wp E 4 cX4_addMeeting (some .int) Q 73 [some (.ref o), some (zI v1), some (zI v2), some (zI v3), some (zI (P : Int)), none] [] M1) : ∀ (k : Nat) (M1 : zM), k ≤ n → (∀ x : Nat, k ≤ x → x < n → zw v3 < zg M (o + 9) (zg M (o + 10) x).toNat) → (∀ i j, i ≠ o + 10 → zg M1 i j = zg M i j) → (∀ i j, zh M1 i j = zh M i j) → (∀ x : Nat, x < k → zg M1 (o + 10) x = zg M (o + 10) x) → (∀ x : Nat, k ≤ x → x < n → zg M1 (o + 10) (x + 1) = zg M (o + 10) x) → wp E 4 cX4_addMeeting (some .int) Q 26 [some (.ref o), some (zI v1), some (zI v2), some (zI v3), some (zI (k : Int)), some (zI ((k : Int) - 1))] [] M1 := by
  intro k
  induction k with
  | zero =>
    intro M1 hk h1 h2 h3 h4 h5
    refine v_X4_addMeeting_26 o v1 v2 v3 _ _ ho ?_
    rw [zw_of (a := ((0 : Nat) : Int) - 1) (by omega) (by omega)]
    exact ⟨fun _ => h 0 M1 (by omega) (Or.inl rfl) h1 h2 h3 h4 h5, fun z => absurd (by omega) z⟩
  | succ k ih =>
    intro M1 hk h1 h2 h3 h4 h5
    refine v_X4_addMeeting_26 o v1 v2 v3 _ _ ho ?_
    have hbk := hb k (by omega)
    rw [zw_of (a := ((k + 1 : Nat) : Int) - 1) (by omega) (by omega), zw_of (a := ((k + 1 : Nat) : Int) - 1 + 1) (by omega) (by omega), show ((((k + 1 : Nat) : Int) - 1)).toNat = k by omega, show ((((k + 1 : Nat) : Int) - 1 + 1)).toNat = k + 1 by omega, h4 k (by omega), h2 (o + 9) _ (by omega)]
    refine ⟨fun z => absurd z (by omega), fun _ => ⟨by omega, by omega, by omega, by omega, fun q => ⟨by omega, by omega, by omega, by omega, ?_⟩, fun q => ?_⟩⟩
    · rintro _ rfl
      rw [show ((k + 1 : Nat) : Int) - 1 + -1 = (k : Int) - 1 by omega, show ((k + 1 : Nat) : Int) - 1 = (k : Int) by omega]
      refine ih _ (by omega) (fun x hx hxn => ?_) (fun i j hi => by rw [zg_zsi _ _ _ _ hi]; exact h2 i j hi) (fun i j => by rw [zh_zs]; exact h3 i j) (fun x hx => by rw [zg_zsj _ _ _ _ (by omega)]; exact h4 x (by omega)) (fun x hx hxn => ?_)
      · by_cases e : x = k
        · subst e; exact q
        · exact h1 x (by omega) hxn
      · by_cases e : x = k
        · subst e; rw [zg_zs1, zw_zg]
        · rw [zg_zsj _ _ _ _ (by omega)]; exact h5 x (by omega) hxn
    · exact h (k + 1) M1 (by omega) (Or.inr (by rw [show k + 1 - 1 = k by omega]; omega)) h1 h2 h3 h4 h5
/-- what addMeeting leaves -/
def meetM (M M2 : zM) (o n : Nat) (v1 v2 v3 : Int) : Prop := (∃ P : Nat, P ≤ n ∧ (P = 0 ∨ zg M (o + 9) (zg M (o + 10) (P - 1)).toNat ≤ zw v3) ∧ (∀ x : Nat, P ≤ x → x < n → zw v3 < zg M (o + 9) (zg M (o + 10) x).toNat) ∧ (∀ x : Nat, x < P → zg M2 (o + 10) x = zg M (o + 10) x) ∧ zg M2 (o + 10) P = (n : Int) ∧ (∀ x : Nat, P ≤ x → x < n → zg M2 (o + 10) (x + 1) = zg M (o + 10) x)) ∧ (∀ i j, i ≠ o + 10 → zg M2 i j = if i = o ∧ j = 10 then (n : Int) + 1 else if i = o + 9 ∧ j = n then zw v3 else if i = o + 8 ∧ j = n then zw v2 else if i = o + 7 ∧ j = n then zw v1 else zg M i j) ∧ (∀ i j, zh M2 i j = zh M i j)
theorem c_X4_addMeeting {d : Nat} {M : zM} {Q : Int → zM → Prop} (hd : 1 ≤ d) (o : Nat) (ho : zob o 4) (v1 v2 v3 : Int) (n : Nat) (hM : zg M o 10 = (n : Int)) (hb : n < 16 → ∀ k : Nat, k < n → 0 ≤ zg M (o + 10) k ∧ zg M (o + 10) k < (n : Int)) (hf : ¬ n < 16 → Q (-3) M) (ht : n < 16 → ∀ M2 : zM, meetM M M2 o n v1 v2 v3 → Q (n : Int) M2) : Ev d mX4_addMeeting [.ref o, zI v1, zI v2, zI v3] M Q := by
  obtain ⟨d, rfl, -⟩ := e_of 0 hd
  refine e_X4_addMeeting o v1 v2 v3 (v_X4_addMeeting_0 o v1 v2 v3 ho ?_)
  rw [hM]
  refine ⟨fun q => ?_, fun q => hf (by omega)⟩
  have hn : n < 16 := by omega
  refine l_X4_addMeeting (M := M) o ho v1 v2 v3 n hn (hb hn) (fun P M1 p1 p2 p3 p4 p5 p6 p7 => ?_) n M (by omega) (fun x h1 h2 => absurd h1 (by omega)) (fun _ _ _ => rfl) (fun _ _ => rfl) (fun _ _ => rfl) (fun x h1 h2 => absurd h1 (by omega))
  have hm5 : zg M1 o 10 = (n : Int) := by rw [p4 _ _ (by omega)]; exact hM
  refine v_X4_addMeeting_73 o v1 v2 v3 _ ho ?_
  rw [zw_of (a := (P : Int)) (by omega) (by omega), show ((P : Int)).toNat = P by omega]
  refine ⟨by omega, by omega, ?_⟩
  rintro _ rfl
  have r1 : zg (zs M1 (o + 10) P (zg M1 o 10)) o 10 = (n : Int) := by rw [zg_zsi _ _ _ _ (by omega)]; exact hm5
  rw [r1, hm5, show ((n : Int)).toNat = n by omega]
  refine ⟨by omega, by omega, ?_⟩
  rintro _ rfl
  have r2 : zg (zs (zs M1 (o + 10) P (n : Int)) (o + 7) n v1) o 10 = (n : Int) := by rw [zg_zsi _ _ _ _ (by omega), zg_zsi _ _ _ _ (by omega)]; exact hm5
  rw [r2, show ((n : Int)).toNat = n by omega]
  refine ⟨by omega, by omega, ?_⟩
  rintro _ rfl
  have r3 : zg (zs (zs (zs M1 (o + 10) P (n : Int)) (o + 7) n v1) (o + 8) n v2) o 10 = (n : Int) := by rw [zg_zsi _ _ _ _ (by omega), zg_zsi _ _ _ _ (by omega), zg_zsi _ _ _ _ (by omega)]; exact hm5
  rw [r3, show ((n : Int)).toNat = n by omega]
  refine ⟨by omega, by omega, ?_⟩
  rintro _ rfl _ rfl
  have r4 : zg (zs (zs (zs (zs M1 (o + 10) P (n : Int)) (o + 7) n v1) (o + 8) n v2) (o + 9) n v3) o 10 = (n : Int) := by rw [zg_zsi _ _ _ _ (by omega), zg_zsi _ _ _ _ (by omega), zg_zsi _ _ _ _ (by omega), zg_zsi _ _ _ _ (by omega)]; exact hm5
  rw [r4]
  have wn : zw (n : Int) = (n : Int) := zw_of (by omega) (by omega)
  have wn1 : zw ((n : Int) + 1) = (n : Int) + 1 := zw_of (by omega) (by omega)
  have r5 : ∀ x, zg (zs (zs (zs (zs (zs M1 (o + 10) P (n : Int)) (o + 7) n v1) (o + 8) n v2) (o + 9) n v3) o 10 ((n : Int) + 1)) (o + 10) x = if x = P then (n : Int) else zg M1 (o + 10) x := by
    intro x
    rw [zg_zsi _ _ _ _ (by omega), zg_zsi _ _ _ _ (by omega), zg_zsi _ _ _ _ (by omega), zg_zsi _ _ _ _ (by omega), zg_zs, wn]
    by_cases e : x = P
    · rw [if_pos ⟨rfl, e⟩, if_pos e]
    · rw [if_neg (fun z => e z.2), if_neg e]
  refine ht hn _ ⟨⟨P, p1, p2, p3, fun x hx => ?_, ?_, fun x h1 h2 => ?_⟩, fun i j hi => ?_, fun i j => ?_⟩
  · rw [r5, if_neg (by omega)]; exact p6 x hx
  · rw [r5, if_pos rfl]
  · rw [r5, if_neg (by omega)]; exact p7 x h1 h2
  · simp only [zg_zs, hi, false_and, if_false, wn1, p4 i j hi]
  · exact p5 i j
theorem f_meet {M M2 M3 : zM} (n : Nat) (a b y : Int) (hn : n < 16) (hM : zg M 192 10 = (n : Int)) (ha : zw a = a) (hb : zw b = b) (hy : zw y = y) (a0 : 0 ≤ a) (a1 : a < zg M 1280 1) (b0 : 0 ≤ b) (b1 : b < zg M 1280 1) (hab : a ≠ b) (y0 : 0 ≤ y) (y1 : y < 100) (h2 : meetM M M2 192 n a b y) (k1 : ∀ i j, zg M3 i j = if i = 1280 ∧ j = 5 then (n : Int) + 1 else if i = 1289 ∧ j = n then y else if i = 1288 ∧ j = n then b else if i = 1287 ∧ j = n then a else zg M2 i j) (k2 : ∀ i j, zh M3 i j = zh M2 i j) (hI : Inv M) : Inv M3 := by
  obtain ⟨⟨P, p1, p2, p3, p4, p5, p6⟩, c1, c2⟩ := h2
  rw [hy] at p2
  simp only [hy, ha, hb] at p3 c1
  obtain ⟨h1, h2, h3, h4, h5, h6, h7, h8, h9, h10, h11, h12, h13, h14⟩ := hI
  obtain ⟨n', q1, q2, q3, q4, q5, q6, q7⟩ := h4
  obtain rfl : n' = n := by omega
  have g : ∀ i j, i ≠ 202 → zg M3 i j = if i = 1280 ∧ j = 5 then (n' : Int) + 1 else if i = 1289 ∧ j = n' then y else if i = 1288 ∧ j = n' then b else if i = 1287 ∧ j = n' then a else if i = 192 ∧ j = 10 then (n' : Int) + 1 else if i = 201 ∧ j = n' then y else if i = 200 ∧ j = n' then b else if i = 199 ∧ j = n' then a else zg M i j := by
    intro i j hi
    rw [k1, c1 i j hi]
  have g202 : ∀ j, zg M3 202 j = zg M2 202 j := by
    intro j
    rw [k1]
    rw [if_neg (by omega), if_neg (by omega), if_neg (by omega), if_neg (by omega)]
  have gz : ∀ i j, zh M3 i j = zh M i j := fun i j => by rw [k2, c2]
  have gfr : ∀ i j, i ≠ 202 → i ≠ 1289 → i ≠ 1288 → i ≠ 1287 → i ≠ 201 → i ≠ 200 → i ≠ 199 → (i = 1280 → j ≠ 5) → (i = 192 → j ≠ 10) → zg M3 i j = zg M i j := by
    intro i j e1 e2 e3 e4 e5 e6 e7 e8 e9
    rw [g i j e1]
    rw [if_neg (by omega), if_neg (by omega), if_neg (by omega), if_neg (by omega), if_neg (by omega), if_neg (by omega), if_neg (by omega), if_neg (by omega)]
  have o1 : zg M3 1280 5 = (n' : Int) + 1 := by rw [g _ _ (by omega), if_pos ⟨rfl, rfl⟩]
  have o2 : zg M3 192 10 = (n' : Int) + 1 := by rw [g _ _ (by omega)]; rw [if_neg (by omega), if_neg (by omega), if_neg (by omega), if_neg (by omega), if_pos ⟨rfl, rfl⟩]
  have g1289 : ∀ j, zg M3 1289 j = if j = n' then y else zg M 1289 j := by
    intro j
    rw [g _ _ (by omega)]
    rw [if_neg (by omega)]
    by_cases e : j = n'
    · rw [if_pos (by omega), if_pos e]
    · rw [if_neg (by omega), if_neg (by omega), if_neg (by omega), if_neg (by omega), if_neg (by omega), if_neg (by omega), if_neg (by omega), if_neg e]
  have g1288 : ∀ j, zg M3 1288 j = if j = n' then b else zg M 1288 j := by
    intro j
    rw [g _ _ (by omega)]
    rw [if_neg (by omega), if_neg (by omega)]
    by_cases e : j = n'
    · rw [if_pos (by omega), if_pos e]
    · rw [if_neg (by omega), if_neg (by omega), if_neg (by omega), if_neg (by omega), if_neg (by omega), if_neg (by omega), if_neg e]
  have g1287 : ∀ j, zg M3 1287 j = if j = n' then a else zg M 1287 j := by
    intro j
    rw [g _ _ (by omega)]
    rw [if_neg (by omega), if_neg (by omega), if_neg (by omega)]
    by_cases e : j = n'
    · rw [if_pos (by omega), if_pos e]
    · rw [if_neg (by omega), if_neg (by omega), if_neg (by omega), if_neg (by omega), if_neg (by omega), if_neg e]
  have g201 : ∀ j, zg M3 201 j = if j = n' then y else zg M 201 j := by
    intro j
    rw [g _ _ (by omega)]
    rw [if_neg (by omega), if_neg (by omega), if_neg (by omega), if_neg (by omega), if_neg (by omega)]
    by_cases e : j = n'
    · rw [if_pos (by omega), if_pos e]
    · rw [if_neg (by omega), if_neg (by omega), if_neg (by omega), if_neg e]
  have g200 : ∀ j, zg M3 200 j = if j = n' then b else zg M 200 j := by
    intro j
    rw [g _ _ (by omega)]
    rw [if_neg (by omega), if_neg (by omega), if_neg (by omega), if_neg (by omega), if_neg (by omega), if_neg (by omega)]
    by_cases e : j = n'
    · rw [if_pos (by omega), if_pos e]
    · rw [if_neg (by omega), if_neg (by omega), if_neg e]
  have g199 : ∀ j, zg M3 199 j = if j = n' then a else zg M 199 j := by
    intro j
    rw [g _ _ (by omega)]
    rw [if_neg (by omega), if_neg (by omega), if_neg (by omega), if_neg (by omega), if_neg (by omega), if_neg (by omega), if_neg (by omega)]
    by_cases e : j = n'
    · rw [if_pos (by omega), if_pos e]
    · rw [if_neg (by omega), if_neg e]
  have e201 : ∀ x : Nat, x < n' → zg M (192 + 9) x = zg M 1289 x := fun x hx => (q4 x hx).2.2.1
  have hp2 : P = 0 ∨ zg M 1289 (zg M 202 (P - 1)).toNat ≤ y := by
    rcases p2 with h | h
    · exact Or.inl h
    · by_cases e0 : P = 0
      · exact Or.inl e0
      · have hb := q5 (P - 1) (by omega)
        rw [e201 _ (by show (zg M 202 (P - 1)).toNat < n'; omega)] at h
        exact Or.inr h
  have hp3 : ∀ x : Nat, P ≤ x → x < n' → y < zg M 1289 (zg M 202 x).toNat := by
    intro x hx hxn
    have hb := q5 x hxn
    have h := p3 x hx hxn
    rw [e201 _ (by show (zg M 202 x).toNat < n'; omega)] at h
    exact h
  have ins := ins_ok (f := fun x => zg M 202 x) (g := fun x => zg M3 202 x) (key := fun x => zg M 1289 x) (key2 := fun x => zg M3 1289 x) p1 q5 q6 q7 (fun x hx => by show zg M3 1289 x = _; rw [g1289, if_neg (by omega)]) (by show P = 0 ∨ zg M 1289 (zg M 202 (P - 1)).toNat ≤ zg M3 1289 n'; rw [g1289, if_pos rfl]; exact hp2) (fun x hx hxn => by show zg M3 1289 n' < _; rw [g1289, if_pos rfl]; exact hp3 x hx hxn) (fun x hx => by show zg M3 202 x = _; rw [g202]; exact p4 x hx) (by show zg M3 202 P = _; rw [g202]; exact p5) (fun x hx hxn => by show zg M3 202 (x + 1) = _; rw [g202]; exact p6 x hx hxn)
  have on : zg M3 1280 1 = zg M 1280 1 := gfr 1280 1 (by omega) (by omega) (by omega) (by omega) (by omega) (by omega) (by omega) (by omega) (by omega)
  refine ⟨IP_fr (fun i j h => ?_) h1, ID_fr (fun i j h => ?_) h2, IN_fr (fun i j h => ?_) h3, ⟨n' + 1, by omega, by rw [o2]; omega, by rw [o1]; omega, fun m hm => ?_, ins.1, ins.2.1, ins.2.2⟩, IH_fr (fun i j h => ?_) h5, IW_fr (fun i j h => ?_) h6, IF_fr (fun i j h => ?_) h7, IC_fr (fun i j h => ?_) h8, II_fr (fun i j h => ?_) h9, IT_fr (fun i j h => ?_) h10, IL_fr (fun i j h => ?_) h11, IG_fr (fun i j h => ?_) h12, IR_fr (fun i j h => ?_) h13, IS_fr (fun i j h => ?_) (fun i j _ => gz i j) h14⟩
  · simp [cIP] at h; exact gfr i j (by omega) (by omega) (by omega) (by omega) (by omega) (by omega) (by omega) (by omega) (by omega)
  · simp [cID] at h; exact gfr i j (by omega) (by omega) (by omega) (by omega) (by omega) (by omega) (by omega) (by omega) (by omega)
  · simp [cIN] at h; exact gfr i j (by omega) (by omega) (by omega) (by omega) (by omega) (by omega) (by omega) (by omega) (by omega)
  · rw [on, g199, g200, g201, g1287, g1288, g1289]
    by_cases e : m = n'
    · simp only [if_pos e, true_and]; omega
    · simp only [if_neg e]; exact q4 m (by omega)
  · simp [cIH] at h; exact gfr i j (by omega) (by omega) (by omega) (by omega) (by omega) (by omega) (by omega) (by omega) (by omega)
  · simp [cIW] at h; exact gfr i j (by omega) (by omega) (by omega) (by omega) (by omega) (by omega) (by omega) (by omega) (by omega)
  · simp [cIF] at h; exact gfr i j (by omega) (by omega) (by omega) (by omega) (by omega) (by omega) (by omega) (by omega) (by omega)
  · simp [cIC] at h; exact gfr i j (by omega) (by omega) (by omega) (by omega) (by omega) (by omega) (by omega) (by omega) (by omega)
  · simp [cII] at h; exact gfr i j (by omega) (by omega) (by omega) (by omega) (by omega) (by omega) (by omega) (by omega) (by omega)
  · simp [cIT] at h; exact gfr i j (by omega) (by omega) (by omega) (by omega) (by omega) (by omega) (by omega) (by omega) (by omega)
  · simp [cIL] at h; exact gfr i j (by omega) (by omega) (by omega) (by omega) (by omega) (by omega) (by omega) (by omega) (by omega)
  · simp [cIG] at h; exact gfr i j (by omega) (by omega) (by omega) (by omega) (by omega) (by omega) (by omega) (by omega) (by omega)
  · simp [cIR] at h; exact gfr i j (by omega) (by omega) (by omega) (by omega) (by omega) (by omega) (by omega) (by omega) (by omega)
  · simp [cIS] at h; exact gfr i j (by omega) (by omega) (by omega) (by omega) (by omega) (by omega) (by omega) (by omega) (by omega)
theorem c_X4_mayMeet {d : Nat} {M : zM} {Q : Int → zM → Prop} (hd : 2 ≤ d) (o : Nat) (ho : zob o 4) (a b y : Int) (ha : zw a = a) (hb : zw b = b) (hn : zg M o 5 ≤ 12) (h : Q (bz ((0 ≤ a ∧ a < zg M o 5) ∧ (0 ≤ b ∧ b < zg M o 5) ∧ ¬ a = b ∧ (zg M (o + 2) a.toNat ≤ zw y ∧ zw y < zg M (o + 3) a.toNat) ∧ (zg M (o + 2) b.toNat ≤ zw y ∧ zw y < zg M (o + 3) b.toNat))) M) : Ev d mX4_mayMeet [.ref o, zI a, zI b, zI y] M Q := by
  obtain ⟨d, rfl, -⟩ := e_of 1 hd
  refine e_X4_mayMeet o a b y (v_X4_mayMeet_0 o a b y ho (c_X4_hasPerson (by omega) o ho a ?_))
  rw [ha]
  refine bz_br (fun q => by rw [bz_f (by omega)] at h; exact h) (fun q => c_X4_hasPerson (by omega) o ho b ?_)
  rw [hb]
  refine bz_br (fun q2 => by rw [bz_f (by omega)] at h; exact h) (fun q2 => ⟨fun q3 => by rw [bz_f (by omega)] at h; exact h, fun q3 => c_X4_lives (by omega) o ho a y (by omega) (by omega) ?_⟩)
  rw [ha]
  refine bz_br (fun q4 => by rw [bz_f (by omega)] at h; exact h) (fun q4 => c_X4_lives (by omega) o ho b y (by omega) (by omega) ?_)
  rw [hb]
  exact bz_br (fun q5 => by rw [bz_f (by omega)] at h; exact h) (fun q5 => by rw [bz_t (by omega)] at h; exact h)
theorem c_X8_meet {d : Nat} {M : zM} {Q : Int → zM → Prop} (hd : 3 ≤ d) (ab a b y : Int) (hab : zw ab = ab) (hy : zw y = y) (ea : z_div ab 100 = a) (eb : z_rem ab 100 = b) (np k : Nat) (hp : zg M 1280 1 = (np : Int)) (hp1 : np ≤ 12) (hk : zg M 1280 5 = (k : Int)) (hk1 : k ≤ 16)
    (hf : ¬ (0 ≤ ab ∧ (0 ≤ a ∧ a < (np : Int)) ∧ (0 ≤ b ∧ b < (np : Int)) ∧ ¬ a = b ∧ (0 ≤ y ∧ y < 100) ∧ (zg M 1283 a.toNat ≤ y ∧ y < zg M 1284 a.toNat) ∧ (zg M 1283 b.toNat ≤ y ∧ y < zg M 1284 b.toNat)) → Q (-1) M)
    (hg : (0 ≤ ab ∧ (0 ≤ a ∧ a < (np : Int)) ∧ (0 ≤ b ∧ b < (np : Int)) ∧ ¬ a = b ∧ (0 ≤ y ∧ y < 100) ∧ (zg M 1283 a.toNat ≤ y ∧ y < zg M 1284 a.toNat) ∧ (zg M 1283 b.toNat ≤ y ∧ y < zg M 1284 b.toNat)) → (k = 16 → Q (-3) M) ∧ (k < 16 → ∀ M3 : zM, (∀ i j, zg M3 i j = if i = 1280 ∧ j = 5 then (k : Int) + 1 else if i = 1289 ∧ j = k then y else if i = 1288 ∧ j = k then b else if i = 1287 ∧ j = k then a else zg M i j) → (∀ i j, zh M3 i j = zh M i j) → Q (k : Int) M3)) : Ev d mX8_meet [.ref 1280, zI ab, zI y] M Q := by
  obtain ⟨d, rfl, -⟩ := e_of 2 hd
  have ha : zw a = a := by rw [← ea, zx_div]
  have hb : zw b = b := by rw [← eb, zx_rem]
  refine e_X8_meet ab y (v_X8_meet_0 ab y ?_)
  rw [hab, ea, eb]
  refine ⟨fun q => hf (by omega), fun q => c_X8_isPerson (by omega) a (by omega) ?_⟩
  rw [ha, hp]
  refine bz_br (fun q1 => hf (by omega)) (fun q1 => c_X8_isPerson (by omega) b (by omega) ?_)
  rw [hb, hp]
  refine bz_br (fun q2 => hf (by omega)) (fun q2 => ⟨fun q3 => hf (by omega), fun q3 => c_X8_isYear (by omega) y ?_⟩)
  rw [hy]
  refine bz_br (fun q4 => hf (by omega)) (fun q4 => c_X8_lives (by omega) a y (by omega) (by omega) ?_)
  rw [ha, hy]
  refine bz_br (fun q5 => hf (by omega)) (fun q5 => c_X8_lives (by omega) b y (by omega) (by omega) ?_)
  rw [hb, hy]
  refine bz_br (fun q6 => hf (by omega)) (fun q6 => ?_)
  have hg := hg (by omega)
  refine ⟨fun q7 => hg.1 (by omega), fun q7 => ?_⟩
  have wk1 : zw ((k : Int) + 1) = (k : Int) + 1 := zw_of (by omega) (by omega)
  rw [hk, show ((k : Int)).toNat = k by omega]
  refine ⟨by omega, by omega, ?_⟩
  rintro _ rfl
  rw [zg_zsi _ _ _ _ (by omega), hk, show ((k : Int)).toNat = k by omega]
  refine ⟨by omega, by omega, ?_⟩
  rintro _ rfl
  rw [zg_zsi _ _ _ _ (by omega), zg_zsi _ _ _ _ (by omega), hk, show ((k : Int)).toNat = k by omega]
  refine ⟨by omega, by omega, ?_⟩
  rintro _ rfl _ rfl
  rw [zg_zs1, zg_zsi _ _ _ _ (by omega), zg_zsi _ _ _ _ (by omega), zg_zsi _ _ _ _ (by omega), hk, wk1, zw_of (a := (k : Int) + 1 - 1) (by omega) (by omega), show (k : Int) + 1 - 1 = (k : Int) by omega]
  refine hg.2 (by omega) _ (fun i j => ?_) (fun _ _ => rfl)
  simp only [zg_zs, wk1, ha, hb, hy]
theorem p_meet {d : Nat} {M : zM} (hd : 6 ≤ d) (ab y : Int) (hab : zw ab = ab) (hy : zw y = y) (hI : Inv M) : Pr d mX7_meet mX8_meet [zI ab, zI y] M := by
  obtain ⟨np, q1, q2, q3, q4, -⟩ := id hI.1
  obtain ⟨k, m1, m2, m3, m4, m5, m6, m7⟩ := id hI.2.2.2.1
  have hD := hI.2.1
  obtain ⟨d, rfl, -⟩ := e_of 5 hd
  generalize ea : z_div ab 100 = a
  generalize eb : z_rem ab 100 = b
  have ha : zw a = a := by rw [← ea, zx_div]
  have hb : zw b = b := by rw [← eb, zx_rem]
  refine e_X7_meet ab y (v_X7_meet_0 ab y ?_)
  rw [hab, ea, eb]
  have al : ∀ x : Int, 0 ≤ x → x < (np : Int) → zg M 194 x.toNat = zg M 1283 x.toNat ∧ zg M 195 x.toNat = zg M 1284 x.toNat ∧ 0 ≤ zg M 1283 x.toNat ∧ zg M 1284 x.toNat ≤ 100 := by
    intro x h0 h1
    have a1 := q4 x.toNat (by omega)
    have a2 := hD x.toNat (by omega)
    omega
  refine ⟨fun q => ?_, fun q => c_X4_mayMeet (by omega) 192 ob_192 a b y ha hb (by omega) ?_⟩
  · exact c_X8_meet (by omega) ab a b y hab hy ea eb np k q3 q1 m3 m1 (fun _ => ⟨rfl, hI⟩) (fun z => absurd z.1 (by omega))
  · rw [hy, q2]
    refine bz_br (fun z => ?_) (fun z => ?_)
    · refine c_X8_meet (by omega) ab a b y hab hy ea eb np k q3 q1 m3 m1 (fun _ => ⟨rfl, hI⟩) (fun g => absurd ⟨g.2.1, g.2.2.1, g.2.2.2.1, ?_⟩ z)
      have a1 := al a (by omega) (by omega)
      have a2 := al b (by omega) (by omega)
      show (zg M 194 a.toNat ≤ y ∧ y < zg M 195 a.toNat) ∧ zg M 194 b.toNat ≤ y ∧ y < zg M 195 b.toNat
      omega
    · have a1 := al a (by omega) (by omega)
      have a2 := al b (by omega) (by omega)
      have z2 : (zg M 194 a.toNat ≤ y ∧ y < zg M 195 a.toNat) ∧ (zg M 194 b.toNat ≤ y ∧ y < zg M 195 b.toNat) := z.2.2.2
      refine c_X4_addMeeting (by omega) 192 ob_192 a b y k m2 (fun _ => m5) (fun hk => ?_) (fun hk M2 h2 => ?_)
      · exact c_X8_meet (by omega) ab a b y hab hy ea eb np k q3 q1 m3 m1 (fun g => absurd (by omega) g) (fun _ => ⟨fun _ => ⟨zq_m3, hI⟩, fun g => absurd g hk⟩)
      · have c1 := h2.2.1
        have e : ∀ i j, 1280 ≤ i → zg M2 i j = zg M i j := fun i j hi => by rw [c1 i j (by omega), if_neg (by omega), if_neg (by omega), if_neg (by omega), if_neg (by omega)]
        refine c_X8_meet (by omega) ab a b y hab hy ea eb np k (by rw [e _ _ (by omega)]; exact q3) q1 (by rw [e _ _ (by omega)]; exact m3) m1 (fun g => absurd ?_ g) (fun _ => ⟨fun g => absurd g (by omega), fun _ M3 k1 k2 => ⟨zw_of (by omega) (by omega), f_meet k a b y hk m2 ha hb hy (by omega) (by omega) (by omega) (by omega) (by omega) (by omega) (by omega) h2 k1 k2 hI⟩⟩)
        rw [e _ _ (by omega), e _ _ (by omega), e _ _ (by omega), e _ _ (by omega)]
        omega
