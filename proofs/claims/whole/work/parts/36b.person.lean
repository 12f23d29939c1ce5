/-! person, people -/
theorem f_come {M M2 M3 : zM} (n : Nat) (b dd nm : Int) (hn : n < 12) (hM : zg M 192 5 = (n : Int)) (hw1 : 0 ≤ zw b) (hw2 : zw b < 100) (hw3 : zw b < zw dd) (hw4 : zw dd ≤ 100) (hw5 : -1 ≤ zw nm) (hw6 : zw nm < 12) (h2 : comeM M M2 192 n b dd nm) (k1 : ∀ i j, zg M3 i j = if i = 1280 ∧ j = 1 then (n : Int) + 1 else if i = 1285 ∧ j = n then zw nm else if i = 1284 ∧ j = n then zw dd else if i = 1283 ∧ j = n then zw b else zg M2 i j) (k2 : ∀ i j, zh M3 i j = zh M2 i j) (hI : Inv M) : Inv M3 := by
  obtain ⟨⟨P, p1, p2, p3, p4, p5, p6⟩, c1, c2⟩ := h2
  obtain ⟨h1, h2, h3, h4, h5, h6, h7, h8, h9, h10, h11, h12, h13, h14⟩ := hI
  obtain ⟨n', q1, q2, q3, q4, q5, q6, q7⟩ := h1
  obtain rfl : n' = n := by omega
  have g : ∀ i j, i ≠ 197 → zg M3 i j = if i = 1280 ∧ j = 1 then (n' : Int) + 1 else if i = 1285 ∧ j = n' then zw nm else if i = 1284 ∧ j = n' then zw dd else if i = 1283 ∧ j = n' then zw b else if i = 192 ∧ j = 5 then (n' : Int) + 1 else if i = 196 ∧ j = n' then zw nm else if i = 195 ∧ j = n' then zw dd else if i = 194 ∧ j = n' then zw b else zg M i j := by
    intro i j hi
    rw [k1, c1 i j hi]
  have g197 : ∀ j, zg M3 197 j = zg M2 197 j := by
    intro j
    rw [k1]
    rw [if_neg (by omega), if_neg (by omega), if_neg (by omega), if_neg (by omega)]
  have gz : ∀ i j, zh M3 i j = zh M i j := fun i j => by rw [k2, c2]
  have gfr : ∀ i j, i ≠ 197 → i ≠ 1285 → i ≠ 1284 → i ≠ 1283 → i ≠ 196 → i ≠ 195 → i ≠ 194 → (i = 1280 → j ≠ 1) → (i = 192 → j ≠ 5) → zg M3 i j = zg M i j := by
    intro i j e1 e2 e3 e4 e5 e6 e7 e8 e9
    rw [g i j e1]
    rw [if_neg (by omega), if_neg (by omega), if_neg (by omega), if_neg (by omega), if_neg (by omega), if_neg (by omega), if_neg (by omega), if_neg (by omega)]
  have f199 : ∀ j, zg M3 199 j = zg M 199 j := fun j => gfr 199 j (by omega) (by omega) (by omega) (by omega) (by omega) (by omega) (by omega) (by omega) (by omega)
  have f200 : ∀ j, zg M3 200 j = zg M 200 j := fun j => gfr 200 j (by omega) (by omega) (by omega) (by omega) (by omega) (by omega) (by omega) (by omega) (by omega)
  have f201 : ∀ j, zg M3 201 j = zg M 201 j := fun j => gfr 201 j (by omega) (by omega) (by omega) (by omega) (by omega) (by omega) (by omega) (by omega) (by omega)
  have f202 : ∀ j, zg M3 202 j = zg M 202 j := fun j => gfr 202 j (by omega) (by omega) (by omega) (by omega) (by omega) (by omega) (by omega) (by omega) (by omega)
  have f1287 : ∀ j, zg M3 1287 j = zg M 1287 j := fun j => gfr 1287 j (by omega) (by omega) (by omega) (by omega) (by omega) (by omega) (by omega) (by omega) (by omega)
  have f1288 : ∀ j, zg M3 1288 j = zg M 1288 j := fun j => gfr 1288 j (by omega) (by omega) (by omega) (by omega) (by omega) (by omega) (by omega) (by omega) (by omega)
  have f1289 : ∀ j, zg M3 1289 j = zg M 1289 j := fun j => gfr 1289 j (by omega) (by omega) (by omega) (by omega) (by omega) (by omega) (by omega) (by omega) (by omega)
  have f449 : ∀ j, zg M3 449 j = zg M 449 j := fun j => gfr 449 j (by omega) (by omega) (by omega) (by omega) (by omega) (by omega) (by omega) (by omega) (by omega)
  have f450 : ∀ j, zg M3 450 j = zg M 450 j := fun j => gfr 450 j (by omega) (by omega) (by omega) (by omega) (by omega) (by omega) (by omega) (by omega) (by omega)
  have f451 : ∀ j, zg M3 451 j = zg M 451 j := fun j => gfr 451 j (by omega) (by omega) (by omega) (by omega) (by omega) (by omega) (by omega) (by omega) (by omega)
  have f452 : ∀ j, zg M3 452 j = zg M 452 j := fun j => gfr 452 j (by omega) (by omega) (by omega) (by omega) (by omega) (by omega) (by omega) (by omega) (by omega)
  have f1295 : ∀ j, zg M3 1295 j = zg M 1295 j := fun j => gfr 1295 j (by omega) (by omega) (by omega) (by omega) (by omega) (by omega) (by omega) (by omega) (by omega)
  have f1296 : ∀ j, zg M3 1296 j = zg M 1296 j := fun j => gfr 1296 j (by omega) (by omega) (by omega) (by omega) (by omega) (by omega) (by omega) (by omega) (by omega)
  have f1297 : ∀ j, zg M3 1297 j = zg M 1297 j := fun j => gfr 1297 j (by omega) (by omega) (by omega) (by omega) (by omega) (by omega) (by omega) (by omega) (by omega)
  have f1298 : ∀ j, zg M3 1298 j = zg M 1298 j := fun j => gfr 1298 j (by omega) (by omega) (by omega) (by omega) (by omega) (by omega) (by omega) (by omega) (by omega)
  have o1 : zg M3 1280 1 = (n' : Int) + 1 := by rw [g _ _ (by omega), if_pos ⟨rfl, rfl⟩]
  have o2 : zg M3 192 5 = (n' : Int) + 1 := by rw [g _ _ (by omega)]; rw [if_neg (by omega), if_neg (by omega), if_neg (by omega), if_neg (by omega), if_pos ⟨rfl, rfl⟩]
  have g1283 : ∀ j, zg M3 1283 j = if j = n' then zw b else zg M 1283 j := by
    intro j
    rw [g _ _ (by omega)]
    by_cases e : j = n'
    · rw [if_neg (by omega), if_neg (by omega), if_neg (by omega), if_pos (by omega), if_pos e]
    · rw [if_neg (by omega), if_neg (by omega), if_neg (by omega), if_neg (by omega), if_neg (by omega), if_neg (by omega), if_neg (by omega), if_neg (by omega), if_neg e]
  have g1284 : ∀ j, zg M3 1284 j = if j = n' then zw dd else zg M 1284 j := by
    intro j
    rw [g _ _ (by omega)]
    by_cases e : j = n'
    · rw [if_neg (by omega), if_neg (by omega), if_pos (by omega), if_pos e]
    · rw [if_neg (by omega), if_neg (by omega), if_neg (by omega), if_neg (by omega), if_neg (by omega), if_neg (by omega), if_neg (by omega), if_neg (by omega), if_neg e]
  have g1285 : ∀ j, zg M3 1285 j = if j = n' then zw nm else zg M 1285 j := by
    intro j
    rw [g _ _ (by omega)]
    by_cases e : j = n'
    · rw [if_neg (by omega), if_pos (by omega), if_pos e]
    · rw [if_neg (by omega), if_neg (by omega), if_neg (by omega), if_neg (by omega), if_neg (by omega), if_neg (by omega), if_neg (by omega), if_neg (by omega), if_neg e]
  have g194 : ∀ j, zg M3 194 j = if j = n' then zw b else zg M 194 j := by
    intro j
    rw [g _ _ (by omega)]
    rw [if_neg (by omega), if_neg (by omega), if_neg (by omega), if_neg (by omega), if_neg (by omega), if_neg (by omega), if_neg (by omega)]
    by_cases e : j = n'
    · rw [if_pos (by omega), if_pos e]
    · rw [if_neg (by omega), if_neg e]
  have g195 : ∀ j, zg M3 195 j = if j = n' then zw dd else zg M 195 j := by
    intro j
    rw [g _ _ (by omega)]
    rw [if_neg (by omega), if_neg (by omega), if_neg (by omega), if_neg (by omega), if_neg (by omega), if_neg (by omega)]
    by_cases e : j = n'
    · rw [if_pos (by omega), if_pos e]
    · rw [if_neg (by omega), if_neg (by omega), if_neg e]
  have g196 : ∀ j, zg M3 196 j = if j = n' then zw nm else zg M 196 j := by
    intro j
    rw [g _ _ (by omega)]
    rw [if_neg (by omega), if_neg (by omega), if_neg (by omega), if_neg (by omega), if_neg (by omega)]
    by_cases e : j = n'
    · rw [if_pos (by omega), if_pos e]
    · rw [if_neg (by omega), if_neg (by omega), if_neg (by omega), if_neg e]
  have e194 : ∀ x : Nat, x < n' → zg M (192 + 2) x = zg M 1283 x := fun x hx => (q4 x hx).1
  have hp2 : P = 0 ∨ zg M 1283 (zg M 197 (P - 1)).toNat ≤ zw b := by
    rcases p2 with h | h
    · exact Or.inl h
    · by_cases e0 : P = 0
      · exact Or.inl e0
      · have hb := q5 (P - 1) (by omega)
        rw [e194 _ (by show (zg M 197 (P - 1)).toNat < n'; omega)] at h
        exact Or.inr h
  have hp3 : ∀ x : Nat, P ≤ x → x < n' → zw b < zg M 1283 (zg M 197 x).toNat := by
    intro x hx hxn
    have hb := q5 x hxn
    have h := p3 x hx hxn
    rw [e194 _ (by show (zg M 197 x).toNat < n'; omega)] at h
    exact h
  have ins := ins_ok (f := fun x => zg M 197 x) (g := fun x => zg M3 197 x) (key := fun x => zg M 1283 x) (key2 := fun x => zg M3 1283 x) p1 q5 q6 q7 (fun x hx => by show zg M3 1283 x = _; rw [g1283, if_neg (by omega)]) (by show P = 0 ∨ zg M 1283 (zg M 197 (P - 1)).toNat ≤ zg M3 1283 n'; rw [g1283, if_pos rfl]; exact hp2) (fun x hx hxn => by show zg M3 1283 n' < _; rw [g1283, if_pos rfl]; exact hp3 x hx hxn) (fun x hx => by show zg M3 197 x = _; rw [g197]; exact p4 x hx) (by show zg M3 197 P = _; rw [g197]; exact p5) (fun x hx hxn => by show zg M3 197 (x + 1) = _; rw [g197]; exact p6 x hx hxn)
  refine ⟨⟨n' + 1, by omega, by rw [o2]; omega, by rw [o1]; omega, fun p hp => ?_, ins.1, ins.2.1, ins.2.2⟩, fun p hp => ?_, fun p hp => ?_, ?_, IH_fr (fun i j h => ?_) h5, IW_fr (fun i j h => ?_) h6, IF_fr (fun i j h => ?_) h7, ?_, ?_, IT_fr (fun i j h => ?_) h10, IL_fr (fun i j h => ?_) h11, IG_fr (fun i j h => ?_) h12, IR_fr (fun i j h => ?_) h13, IS_fr (fun i j h => ?_) (fun i j _ => gz i j) h14⟩
  · rw [g194, g1283]
    by_cases e : p = n'
    · rw [if_pos e, if_pos e]; omega
    · rw [if_neg e, if_neg e]; exact q4 p (by omega)
  · rw [o1] at hp
    rw [g195, g1283, g1284]
    by_cases e : p = n'
    · rw [if_pos e, if_pos e, if_pos e]; omega
    · rw [if_neg e, if_neg e, if_neg e]; exact h2 p (by omega)
  · rw [o1] at hp
    rw [g196, g1285]
    by_cases e : p = n'
    · rw [if_pos e, if_pos e]; omega
    · rw [if_neg e, if_neg e]; exact h3 p (by omega)
  · obtain ⟨k, m1, m2, m3, m4, m5, m6, m7⟩ := h4
    refine ⟨k, m1, by rw [gfr _ _ (by omega) (by omega) (by omega) (by omega) (by omega) (by omega) (by omega) (by omega) (by omega)]; exact m2, by rw [gfr _ _ (by omega) (by omega) (by omega) (by omega) (by omega) (by omega) (by omega) (by omega) (by omega)]; exact m3, fun m hm => ?_, fun j hj => ?_, fun i j hij hj => ?_, fun p hp => ?_⟩
    · have := m4 m hm
      rw [o1]
      simp only [f199, f200, f201, f1287, f1288, f1289]
      omega
    · rw [f202]; exact m5 j hj
    · simp only [f202, f1289]
      exact m6 i j hij hj
    · obtain ⟨x, x1, x2⟩ := m7 p hp
      exact ⟨x, x1, by rw [f202]; exact x2⟩
  · simp [cIH] at h; exact gfr i j (by omega) (by omega) (by omega) (by omega) (by omega) (by omega) (by omega) (by omega) (by omega)
  · simp [cIW] at h; exact gfr i j (by omega) (by omega) (by omega) (by omega) (by omega) (by omega) (by omega) (by omega) (by omega)
  · simp [cIF] at h; exact gfr i j (by omega) (by omega) (by omega) (by omega) (by omega) (by omega) (by omega) (by omega) (by omega)
  · obtain ⟨dn, kp, a1, a2, a3, a4, a5, a6, a7⟩ := h8
    refine ⟨dn, kp, a1, a2, ?_, ?_, ?_, ?_, fun i hi => ?_⟩
    · rw [gfr _ _ (by omega) (by omega) (by omega) (by omega) (by omega) (by omega) (by omega) (by omega) (by omega)]; exact a3
    · rw [gfr _ _ (by omega) (by omega) (by omega) (by omega) (by omega) (by omega) (by omega) (by omega) (by omega)]; exact a4
    · rw [gfr _ _ (by omega) (by omega) (by omega) (by omega) (by omega) (by omega) (by omega) (by omega) (by omega)]; exact a5
    · rw [gfr _ _ (by omega) (by omega) (by omega) (by omega) (by omega) (by omega) (by omega) (by omega) (by omega)]; exact a6
    · have h := a7 i hi
      simp only [f449, f450, f451, f452, f1295, f1296, f1297, f1298, o1]
      refine ⟨h.1, h.2.1, h.2.2.1, h.2.2.2.1, ?_⟩
      rcases h.2.2.2.2 with h0 | h0
      · have ee : zg M3 1283 (zg M 1296 i).toNat = zg M 1283 (zg M 1296 i).toNat := by rw [g1283, if_neg (by omega)]
        rw [ee]
        left; omega
      · right; exact h0
  · rcases h9 with ⟨a1, a2⟩ | ⟨qq, a1, a2, a3, a4, a5⟩
    · left
      rw [gfr _ _ (by omega) (by omega) (by omega) (by omega) (by omega) (by omega) (by omega) (by omega) (by omega), gfr _ _ (by omega) (by omega) (by omega) (by omega) (by omega) (by omega) (by omega) (by omega) (by omega)]
      exact ⟨a1, a2⟩
    · right
      refine ⟨qq, ?_, ?_, ?_, ?_, fun p hp => ?_⟩
      · rw [gfr _ _ (by omega) (by omega) (by omega) (by omega) (by omega) (by omega) (by omega) (by omega) (by omega)]; exact a1
      · rw [gfr _ _ (by omega) (by omega) (by omega) (by omega) (by omega) (by omega) (by omega) (by omega) (by omega)]; exact a2
      · rw [gfr _ _ (by omega) (by omega) (by omega) (by omega) (by omega) (by omega) (by omega) (by omega) (by omega)]; exact a3
      · rw [o1]; omega
      · rw [gfr 72 _ (by omega) (by omega) (by omega) (by omega) (by omega) (by omega) (by omega) (by omega) (by omega), gfr 1319 _ (by omega) (by omega) (by omega) (by omega) (by omega) (by omega) (by omega) (by omega) (by omega)]; exact a5 p hp
  · simp [cIT] at h; exact gfr i j (by omega) (by omega) (by omega) (by omega) (by omega) (by omega) (by omega) (by omega) (by omega)
  · simp [cIL] at h; exact gfr i j (by omega) (by omega) (by omega) (by omega) (by omega) (by omega) (by omega) (by omega) (by omega)
  · simp [cIG] at h; exact gfr i j (by omega) (by omega) (by omega) (by omega) (by omega) (by omega) (by omega) (by omega) (by omega)
  · simp [cIR] at h; exact gfr i j (by omega) (by omega) (by omega) (by omega) (by omega) (by omega) (by omega) (by omega) (by omega)
  · simp [cIS] at h; exact gfr i j (by omega) (by omega) (by omega) (by omega) (by omega) (by omega) (by omega) (by omega) (by omega)
theorem p_person {d : Nat} {M : zM} (hd : 6 ≤ d) (b dd : Int) (hb : zw b = b) (hdd : zw dd = dd) (hI : Inv M) : Pr d mX7_person mX8_person [zI b, zI dd] M := by
  obtain ⟨n, q1, q2, q3, q4, q5, q6, q7⟩ := hI.1
  obtain ⟨d, rfl, -⟩ := e_of 5 hd
  refine e_X7_person b dd (v_X7_person_0 b dd (c_X7_mayLive (by omega) b dd (bz_br (fun q => ?_) (fun q => c_X4_come (by omega) 192 ob_192 b dd (-1) n q2 (fun _ => q5) (fun hn => ?_) (fun hn M2 h2 => ?_)))))
  · refine e_X8_person b dd (v_X8_person_0 b dd (c_X8_isLife (by omega) b dd (bz_br (fun _ => ⟨rfl, hI⟩) (fun z => absurd z q))))
  · refine e_X8_person b dd (v_X8_person_0 b dd (c_X8_isLife (by omega) b dd (bz_br (fun z => absurd q z) (fun _ => ⟨fun _ => ⟨zq_m3, hI⟩, fun z => absurd (by omega) z⟩))))
  · have c1 := h2.2.1
    have e1 : zg M2 1280 1 = (n : Int) := by
      rw [c1 _ _ (by omega), if_neg (by omega), if_neg (by omega), if_neg (by omega), if_neg (by omega)]; exact q3
    refine e_X8_person b dd (v_X8_person_0 b dd (c_X8_isLife (by omega) b dd (bz_br (fun z => absurd q z) (fun _ => ⟨fun z => absurd z (by omega), fun _ => c_X8_addPerson (by omega) b dd (-1) n hn e1 (fun M3 k1 k2 => ⟨rfl, f_come n b dd (-1) hn q2 (by omega) (by omega) (by omega) (by omega) (by rw [zq_m1]; omega) (by rw [zq_m1]; omega) h2 k1 k2 hI⟩)⟩))))
