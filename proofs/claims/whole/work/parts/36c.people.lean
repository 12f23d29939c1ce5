/-! people: class first, then the reference, in step -/
theorem zv_of {a : Int} (h0 : -9223372036854775808 ≤ a) (h1 : a < 9223372036854775808) : zv a = a := by
  unfold zv
  rw [Int64.toInt_ofInt]
  apply Int.bmod_eq_of_le
  · show -((18446744073709551616 : Nat) : Int) / 2 ≤ a; omega
  · show a < (((18446744073709551616 : Nat) : Int) + 1) / 2; omega
theorem zlc_lt {a b : Int} : zw (z_lc a b) < 0 ↔ zv a < zv b := by
  unfold z_lc
  split
  · rw [zq_1]; omega
  · split
    · rw [zq_0]; omega
    · rw [zq_m1]; omega
def AgC (N M : zM) : Prop := (∀ i j, i < 1280 → zg M i j = zg N i j) ∧ (∀ i j, i < 1280 → zh M i j = zh N i j)
def AgR (N M : zM) : Prop := (∀ i j, 1280 ≤ i → zg M i j = zg N i j) ∧ (∀ i j, 1280 ≤ i → zh M i j = zh N i j)
theorem Inv_Ag {N M : zM} (hc : AgC N M) (hr : AgR N M) (hI : Inv N) : Inv M := by
  refine Inv_fr (M := N) (fun i j _ => ?_) (fun i j _ => ?_) hI
  · by_cases h : i < 1280
    · exact hc.1 i j h
    · exact hr.1 i j (by omega)
  · by_cases h : i < 1280
    · exact hc.2 i j h
    · exact hr.2 i j (by omega)
def mixM (A B : zM) : zM := (fun i j => if i < 1280 then A.1 i j else B.1 i j, fun i j => if i < 1280 then A.2 i j else B.2 i j)
theorem zg_mix (A B : zM) (i j : Nat) : zg (mixM A B) i j = if i < 1280 then zg A i j else zg B i j := by
  unfold zg mixM; dsimp only; split <;> rfl
theorem zh_mix (A B : zM) (i j : Nat) : zh (mixM A B) i j = if i < 1280 then zh A i j else zh B i j := by
  unfold zh mixM; dsimp only; split <;> rfl
/-- the c-th three, as the reference sees it, may come -/
def pplG (N : zM) (s i : Int) (c : Nat) : Prop := 0 ≤ i + 3 * (c : Int) ∧ i + 3 * (c : Int) + 2 < zg N 1325 s.toNat ∧ zg N 1280 1 < 12 ∧ (0 ≤ zw (zh N 1326 (60 * s.toNat + (i + 3 * (c : Int)).toNat)) ∧ zw (zh N 1326 (60 * s.toNat + (i + 3 * (c : Int)).toNat)) < 100 ∧ zw (zh N 1326 (60 * s.toNat + (i + 3 * (c : Int)).toNat)) < zw (zh N 1326 (60 * s.toNat + (i + 3 * (c : Int)).toNat + 1)) ∧ zw (zh N 1326 (60 * s.toNat + (i + 3 * (c : Int)).toNat + 1)) ≤ 100) ∧ -1 ≤ zw (zh N 1326 (60 * s.toNat + (i + 3 * (c : Int)).toNat + 2)) ∧ zw (zh N 1326 (60 * s.toNat + (i + 3 * (c : Int)).toNat + 2)) < 12
theorem r_people {d : Nat} {M : zM} {Q : Int → zM → Prop} (hd : 3 ≤ d) (s i n : Int) (c : Nat) (hs0 : 0 ≤ s) (hs1 : s < 6) (hi : zw i = i) (n1 : n ≤ 12) (hcn : (c : Int) ≤ n) (hz : 0 ≤ zg M 1325 s.toNat) (hz1 : zg M 1325 s.toNat ≤ 60) (np : Nat) (hp : zg M 1280 1 = (np : Int)) (hp1 : np ≤ 12) (hst : ¬ ((c : Int) < n ∧ pplG M s i c) → Q (c : Int) M) (hgo : (c : Int) < n → pplG M s i c → ∀ M2 : zM, (∀ a j, zg M2 a j = if a = 1280 ∧ j = 1 then (np : Int) + 1 else if a = 1285 ∧ j = np then zw (zh M 1326 (60 * s.toNat + (i + 3 * (c : Int)).toNat + 2)) else if a = 1284 ∧ j = np then zw (zh M 1326 (60 * s.toNat + (i + 3 * (c : Int)).toNat + 1)) else if a = 1283 ∧ j = np then zw (zh M 1326 (60 * s.toNat + (i + 3 * (c : Int)).toNat)) else zg M a j) → (∀ a j, zh M2 a j = zh M a j) → wp (Ev d) 8 cX8_people (some .int) Q 58 [some (.ref 1280), some (zI s), some (zI i), some (zI n), some (zI ((c + 1 : Nat) : Int)), none, none, none] [] M2) : wp (Ev d) 8 cX8_people (some .int) Q 58 [some (.ref 1280), some (zI s), some (zI i), some (zI n), some (zI (c : Int)), none, none, none] [] M := by
  have hil := zw_lo i
  have hih := zw_hi i
  rw [hi] at hil hih
  refine v_X8_people_58 s i n _ ?_
  have e1 : zw (c : Int) = (c : Int) := zw_of (by omega) (by omega)
  have e2 : zw n = n := zw_of (by omega) (by omega)
  have e3 : zw (3 * (c : Int)) = 3 * (c : Int) := zw_of (by omega) (by omega)
  have e4 : zw s = s := zw_of (by omega) (by omega)
  have e5 : zv (i + 3 * (c : Int)) = i + 3 * (c : Int) := zv_of (by omega) (by omega)
  have e6 : zv (i + 3 * (c : Int) + 2) = i + 3 * (c : Int) + 2 := zv_of (by omega) (by omega)
  have e7 : zv (zg M 1325 s.toNat) = zg M 1325 s.toNat := zv_of (by omega) (by omega)
  have e8 : zv 0 = 0 := by decide
  have e9 : zw ((c : Int)) = (c : Int) := e1
  simp only [e1, e2, e3, e4, hi, zlc_lt, zw_zg, e5, e6, e7, e8, zv_zh]
  unfold pplG at hst hgo
  refine ⟨fun q => ⟨fun q1 => hst (by omega), fun q1 => ⟨hs0, hs1, fun q2 => ⟨fun q3 => hst (by omega), fun q3 => ?_⟩, fun q2 => hst (by omega)⟩⟩, fun q => ?_⟩
  · have a0 : zw (60 * s + (i + 3 * (c : Int))) = ((60 * s.toNat + (i + 3 * (c : Int)).toNat : Nat) : Int) := by rw [zw_of (by omega) (by omega)]; omega
    have a1 : zw (60 * s + (i + 3 * (c : Int)) + 1) = ((60 * s.toNat + (i + 3 * (c : Int)).toNat + 1 : Nat) : Int) := by rw [zw_of (by omega) (by omega)]; omega
    have a2 : zw (60 * s + (i + 3 * (c : Int)) + 2) = ((60 * s.toNat + (i + 3 * (c : Int)).toNat + 2 : Nat) : Int) := by rw [zw_of (by omega) (by omega)]; omega
    simp only [a0, a1, a2, Int.toNat_natCast]
    refine ⟨by omega, by omega, by omega, by omega, c_X8_isLife (by omega) _ _ (bz_br (fun q4 => hst (by omega)) (fun q4 => ⟨by omega, by omega, c_X8_in (by omega) _ _ _ ?_⟩))⟩
    rw [zq_m1, zq_11]
    refine bz_br (fun q5 => hst (by omega)) (fun q5 => ⟨by omega, by omega, by omega, by omega, by omega, by omega, c_X8_addPerson (by omega) _ _ _ np (by omega) hp (fun M2 k1 k2 => ?_)⟩)
    have := hgo q (by omega) M2 k1 k2
    exact this
  · have : (c : Int) = n := by omega
    rw [← this]
    exact hst (by omega)
theorem k_people {d : Nat} {M : zM} {Q : Int → zM → Prop} (hd : 4 ≤ d) (s i n : Int) (c : Nat) (hs0 : 0 ≤ s) (hs1 : s < 6) (hi : zw i = i) (n1 : n ≤ 12) (hcn : (c : Int) ≤ n) (hci : c = 0 ∨ 0 ≤ i) {N : zM} (hN : Inv N) (hA : AgC N M) (hrow : zg N 1324 s.toNat = -2) (np : Nat) (hp : zg N 192 5 = (np : Int)) (hst : ¬ ((c : Int) < n ∧ pplG N s i c) → Q (c : Int) M) (hgo : (c : Int) < n → pplG N s i c → ∀ M2 : zM, comeM M M2 192 np (zh N 1326 (60 * s.toNat + (i + 3 * (c : Int)).toNat)) (zh N 1326 (60 * s.toNat + (i + 3 * (c : Int)).toNat + 1)) (zh N 1326 (60 * s.toNat + (i + 3 * (c : Int)).toNat + 2)) → wp (Ev d) 7 cX7_people (some .int) Q 60 [some (.ref 64), none, some (zI i), some (zI n), some (.ref (640 + 64 * s.toNat)), some (zI ((c + 1 : Nat) : Int))] [] M2) : wp (Ev d) 7 cX7_people (some .int) Q 60 [some (.ref 64), none, some (zI i), some (zI n), some (.ref (640 + 64 * s.toNat)), some (zI (c : Int))] [] M := by
  have hil := zw_lo i
  have hih := zw_hi i
  rw [hi] at hil hih
  have hj := hN.2.2.2.2.2.2.2.2.2.2.2.2.2 s.toNat (by omega)
  unfold ISj at hj
  obtain ⟨n', q1, q2, q3, q4, q5, q6, q7⟩ := hN.1
  obtain rfl : n' = np := by omega
  have z3 : zg M (640 + 64 * s.toNat) 3 = zg N 1325 s.toNat := by rw [hA.1 _ _ (by omega)]; omega
  have zr : 0 ≤ zg N 1325 s.toNat ∧ zg N 1325 s.toNat ≤ 60 := by omega
  have ze : ∀ x : Nat, x < 60 → zh M (640 + 64 * s.toNat + 1) x = zh N 1326 (60 * s.toNat + x) := by
    intro x hx
    rw [hA.2 _ _ (by omega)]
    rcases hj with hj | hj
    · omega
    · exact hj.2.2.2.2.2.2.2 x hx
  have e1 : zw (c : Int) = (c : Int) := zw_of (by omega) (by omega)
  have e2 : zw n = n := zw_of (by omega) (by omega)
  obtain ⟨d, rfl, -⟩ := e_of 3 hd
  refine v_X7_people_60 i n _ _ (ob_sh (by omega)) ?_
  rw [e1, e2]
  refine ⟨fun q => e_X7_comesFrom _ i _ (v_X7_comesFrom_0 _ i _ (ob_sh (by omega)) ?_), fun q => ?_⟩
  · rw [hi, z3, zw_of (a := zg N 1325 s.toNat - 3 - 3 * (c : Int)) (by omega) (by omega)]
    unfold pplG at hst hgo
    refine ⟨fun y => ⟨fun _ => hst (by omega), fun z => absurd zq_0 z⟩, fun y => ⟨fun y1 => ⟨fun _ => hst (by omega), fun z => absurd zq_0 z⟩, fun y1 => ?_⟩⟩
    have a0 : zw (i + 3 * (c : Int)) = (((i + 3 * (c : Int)).toNat : Nat) : Int) := by rw [zw_of (by omega) (by omega)]; omega
    have a1 : zw (i + 3 * (c : Int) + 1) = (((i + 3 * (c : Int)).toNat + 1 : Nat) : Int) := by rw [zw_of (by omega) (by omega)]; omega
    have a2 : zw (i + 3 * (c : Int) + 2) = (((i + 3 * (c : Int)).toNat + 2 : Nat) : Int) := by rw [zw_of (by omega) (by omega)]; omega
    simp only [a0, a1, a2, Int.toNat_natCast]
    rw [ze _ (by omega), ze _ (by omega), ze _ (by omega)]
    simp only [zv_zh, ← Nat.add_assoc]
    refine ⟨by omega, by omega, by omega, by omega, by omega, by omega, c_X7_mayLive (by omega) _ _ (bz_br (fun y2 => ⟨fun _ => hst (by omega), fun z => absurd zq_0 z⟩) (fun y2 => c_X7_mayBeNamed (by omega) _ (bz_br (fun y3 => ⟨fun _ => hst (by omega), fun z => absurd zq_0 z⟩) (fun y3 => c_X4_come (by omega) 192 ob_192 _ _ _ n' (by rw [hA.1 _ _ (by omega)]; exact hp) (fun _ k hk => by rw [hA.1 _ _ (by omega)]; exact q5 k hk) (fun y4 => ⟨fun _ => ⟨fun _ => hst (by omega), fun z => absurd zq_0 z⟩, fun z => absurd zq_m3 z⟩) (fun y4 M2 h2 => ⟨fun z => ?_, fun _ => ⟨fun z => absurd z (by rw [zq_1]; omega), fun _ => ?_⟩⟩)))))⟩
    · rw [zw_of (by omega) (by omega)] at z; omega
    · rw [show (c : Int) + 1 = ((c + 1 : Nat) : Int) by omega]
      exact hgo q (by omega) M2 h2
  · have : (c : Int) = n := by omega
    rw [← this]
    exact hst (by omega)
theorem l_people {d : Nat} {Q : Int → zM → Prop} (hd : 4 ≤ d) (s i n : Int) (hs0 : 0 ≤ s) (hs1 : s < 6) (hi : zw i = i) (n1 : n ≤ 12) : ∀ (x c : Nat) (N M1 : zM), (c : Int) + (x : Int) = n → (c = 0 ∨ 0 ≤ i) → Inv N → AgC N M1 → zg N 1324 s.toNat = -2 → (∀ (r : Int) (Mf : zM), AgR M1 Mf → (∀ M2 : zM, AgR N M2 → AgC Mf M2 → wp (Ev d) 8 cX8_people (some .int) (fun r2 M3 => r = r2 ∧ Inv M3) 58 [some (.ref 1280), some (zI s), some (zI i), some (zI n), some (zI (c : Int)), none, none, none] [] M2) → Q r Mf) → wp (Ev d) 7 cX7_people (some .int) Q 60 [some (.ref 64), none, some (zI i), some (zI n), some (.ref (640 + 64 * s.toNat)), some (zI (c : Int))] [] M1 := by
  intro x
  induction x with
  | zero =>
    intro c N M1 hcx hci hN hA hrow K
    obtain ⟨np, q1, q2, q3, q4, q5, q6, q7⟩ := id hN.1
    have hj := hN.2.2.2.2.2.2.2.2.2.2.2.2.2 s.toNat (by omega)
    unfold ISj at hj
    refine k_people hd s i n c hs0 hs1 hi n1 (by omega) hci hN hA hrow np q2 (fun g => ?_) (fun g => absurd g (by omega))
    refine K _ _ ⟨fun _ _ _ => rfl, fun _ _ _ => rfl⟩ (fun M2 a1 a2 => ?_)
    refine r_people (by omega) s i n c hs0 hs1 hi n1 (by omega) (by rw [a1.1 _ _ (by omega)]; omega) (by rw [a1.1 _ _ (by omega)]; omega) np (by rw [a1.1 _ _ (by omega)]; exact q3) q1 (fun _ => ⟨rfl, Inv_Ag (N := N) ⟨fun i j h => by rw [a2.1 i j h, hA.1 i j h], fun i j h => by rw [a2.2 i j h, hA.2 i j h]⟩ a1 hN⟩) (fun g => absurd g (by omega))
  | succ x ih =>
    intro c N M1 hcx hci hN hA hrow K
    obtain ⟨np, q1, q2, q3, q4, q5, q6, q7⟩ := id hN.1
    have hj := hN.2.2.2.2.2.2.2.2.2.2.2.2.2 s.toNat (by omega)
    unfold ISj at hj
    have pG : ∀ M2 : zM, AgR N M2 → (pplG M2 s i c ↔ pplG N s i c) := by
      intro M2 a1
      unfold pplG
      rw [a1.1 _ _ (by omega), a1.1 _ _ (by omega), a1.2 _ _ (by omega), a1.2 _ _ (by omega), a1.2 _ _ (by omega)]
    refine k_people hd s i n c hs0 hs1 hi n1 (by omega) hci hN hA hrow np q2 (fun g => ?_) (fun g g2 M2 h2 => ?_)
    · refine K _ _ ⟨fun _ _ _ => rfl, fun _ _ _ => rfl⟩ (fun M2 a1 a2 => ?_)
      refine r_people (by omega) s i n c hs0 hs1 hi n1 (by omega) (by rw [a1.1 _ _ (by omega)]; omega) (by rw [a1.1 _ _ (by omega)]; omega) np (by rw [a1.1 _ _ (by omega)]; exact q3) q1 (fun _ => ⟨rfl, Inv_Ag (N := N) ⟨fun i j h => by rw [a2.1 i j h, hA.1 i j h], fun i j h => by rw [a2.2 i j h, hA.2 i j h]⟩ a1 hN⟩) (fun g1 g2 => absurd ⟨g1, (pG M2 a1).mp g2⟩ g)
    · have g3 := g2
      unfold pplG at g3
      have hnp : np < 12 := by omega
      generalize hE0 : zh N 1326 (60 * s.toNat + (i + 3 * (c : Int)).toNat) = E0 at h2 g3
      generalize hE1 : zh N 1326 (60 * s.toNat + (i + 3 * (c : Int)).toNat + 1) = E1 at h2 g3
      generalize hE2 : zh N 1326 (60 * s.toNat + (i + 3 * (c : Int)).toNat + 2) = E2 at h2 g3
      have cm : comeM N (mixM M2 N) 192 np E0 E1 E2 := by
        obtain ⟨⟨P, p1, p2, p3, p4, p5, p6⟩, c1, c2⟩ := h2
        refine ⟨⟨P, p1, ?_, fun x h1 h3 => ?_, fun x hx => ?_, ?_, fun x h1 h3 => ?_⟩, fun i j hi => ?_, fun i j => ?_⟩
        · rw [hA.1 _ _ (by omega), hA.1 _ _ (by omega)] at p2; exact p2
        · have := p3 x h1 h3
          rw [hA.1 _ _ (by omega), hA.1 _ _ (by omega)] at this; exact this
        · rw [zg_mix, if_pos (by omega), p4 x hx, hA.1 _ _ (by omega)]
        · rw [zg_mix, if_pos (by omega), p5]
        · rw [zg_mix, if_pos (by omega), p6 x h1 h3, hA.1 _ _ (by omega)]
        · rw [zg_mix]
          by_cases h : i < 1280
          · rw [if_pos h, c1 i j hi, hA.1 i j h]
          · rw [if_neg h, if_neg (by omega), if_neg (by omega), if_neg (by omega), if_neg (by omega)]
        · rw [zh_mix]
          by_cases h : i < 1280
          · rw [if_pos h, c2 i j, hA.2 i j h]
          · rw [if_neg h]
      have wn1 : zw ((np : Int) + 1) = (np : Int) + 1 := zw_of (by omega) (by omega)
      have k1 : ∀ a b, zg (zs (zs (zs (zs (mixM M2 N) 1283 np E0) 1284 np E1) 1285 np E2) 1280 1 ((np : Int) + 1)) a b = if a = 1280 ∧ b = 1 then (np : Int) + 1 else if a = 1285 ∧ b = np then zw E2 else if a = 1284 ∧ b = np then zw E1 else if a = 1283 ∧ b = np then zw E0 else zg (mixM M2 N) a b := by
        intro a b
        simp only [zg_zs, wn1]
      have iN := f_come np E0 E1 E2 hnp q2 (by omega) (by omega) (by omega) (by omega) (by omega) (by omega) cm k1 (fun _ _ => rfl) hN
      have agC : AgC (zs (zs (zs (zs (mixM M2 N) 1283 np E0) 1284 np E1) 1285 np E2) 1280 1 ((np : Int) + 1)) M2 := by
        refine ⟨fun a b h => ?_, fun a b h => ?_⟩
        · rw [k1, if_neg (by omega), if_neg (by omega), if_neg (by omega), if_neg (by omega), zg_mix, if_pos h]
        · rw [zh_zs, zh_zs, zh_zs, zh_zs, zh_mix, if_pos h]
      refine ih (c + 1) _ M2 (by omega) (Or.inr (by omega)) iN agC ?_ (fun r Mf b1 b2 => K r Mf ⟨fun a b h => ?_, fun a b h => ?_⟩ (fun M4 a1 a2 => ?_))
      · rw [k1, if_neg (by omega), if_neg (by omega), if_neg (by omega), if_neg (by omega), zg_mix, if_neg (by omega)]; exact hrow
      · rw [b1.1 a b h, h2.2.1 a b (by omega), if_neg (by omega), if_neg (by omega), if_neg (by omega), if_neg (by omega)]
      · rw [b1.2 a b h, h2.2.2 a b]
      · refine r_people (by omega) s i n c hs0 hs1 hi n1 (by omega) (by rw [a1.1 _ _ (by omega)]; omega) (by rw [a1.1 _ _ (by omega)]; omega) np (by rw [a1.1 _ _ (by omega)]; exact q3) q1 (fun z => absurd ⟨g, (pG M4 a1).mpr g2⟩ z) (fun _ _ M5 k2 k3 => b2 M5 ⟨fun a b h => ?_, fun a b h => ?_⟩ ⟨fun a b h => ?_, fun a b h => ?_⟩)
        · rw [k2, k1, a1.2 _ _ (by omega), a1.2 _ _ (by omega), a1.2 _ _ (by omega), hE0, hE1, hE2, a1.1 a b h, zg_mix, if_neg (show ¬ a < 1280 by omega)]
        · rw [k3, a1.2 a b h, zh_zs, zh_zs, zh_zs, zh_zs, zh_mix, if_neg (by omega)]
        · rw [k2, if_neg (by omega), if_neg (by omega), if_neg (by omega), if_neg (by omega), a2.1 a b h]
        · rw [k3, a2.2 a b h]
theorem p_people {d : Nat} {M : zM} (hd : 6 ≤ d) (s i n : Int) (hs : zw s = s) (hi : zw i = i) (hn : zw n = n) (hI : Inv M) : Pr d mX7_people mX8_people [zI s, zI i, zI n] M := by
  have h14 := hI.2.2.2.2.2.2.2.2.2.2.2.2.2
  obtain ⟨d, rfl, -⟩ := e_of 5 hd
  have R : ∀ (r : Int) (Mf : zM), AgR M Mf → (¬ ((0 ≤ s ∧ s < 6) ∧ 1 ≤ n ∧ n ≤ 12) → r = -1 ∧ Inv Mf) → ((0 ≤ s ∧ s < 6) ∧ 1 ≤ n ∧ n ≤ 12 → (zg M 1324 s.toNat = -1 → r = 0 ∧ Inv Mf) ∧ (¬ zg M 1324 s.toNat = -1 → ¬ zg M 1324 s.toNat = -2 → r = -12 ∧ Inv Mf) ∧ (zg M 1324 s.toNat = -2 → wp (Ev d) 8 cX8_people (some .int) (fun r2 M3 => r = r2 ∧ Inv M3) 58 [some (.ref 1280), some (zI s), some (zI i), some (zI n), some (zI 0), none, none, none] [] Mf)) → Ev (d + 1) mX8_people [.ref 1280, zI s, zI i, zI n] Mf (fun r2 M2 => r = r2 ∧ Inv M2) := by
    intro r Mf hA hb hg
    refine e_X8_people s i n (v_X8_people_0 s i n (c_X8_isShelf (by omega) s ?_))
    rw [hs]
    refine bz_br (fun q => hb (by omega)) (fun q => c_X8_in (by omega) _ _ _ ?_)
    rw [hn, zq_1, zq_12]
    refine bz_br (fun q2 => hb (by omega)) (fun q2 => ?_)
    have hg := hg ⟨q, by omega, by omega⟩
    have e : zg Mf 1324 s.toNat = zg M 1324 s.toNat := hA.1 _ _ (by omega)
    rw [e]
    refine ⟨by omega, by omega, fun q3 => v_X8_people_43 s i n ?_, fun q3 => ⟨by omega, by omega, fun q4 => v_X8_people_43 s i n ?_, fun q4 => hg.2.1 q3 q4⟩⟩
    · rw [hs, e]
      exact ⟨by omega, by omega, fun _ => hg.1 q3, fun z => absurd q3 z⟩
    · rw [hs, e]
      exact ⟨by omega, by omega, fun z => absurd z q3, fun _ => hg.2.2 q4⟩
  have rf : AgR M M := ⟨fun _ _ _ => rfl, fun _ _ _ => rfl⟩
  refine e_X7_people s i n (v_X7_people_0 s i n (c_X7_isShelf (by omega) s ?_))
  rw [hs, hn]
  refine bz_br (fun q => R _ _ rf (fun _ => ⟨rfl, hI⟩) (fun z => absurd z.1 q)) (fun q => ⟨fun q2 => R _ _ rf (fun _ => ⟨rfl, hI⟩) (fun z => absurd z (by omega)), fun q2 => ⟨fun q3 => R _ _ rf (fun _ => ⟨rfl, hI⟩) (fun z => absurd z (by omega)), fun q3 => ?_⟩⟩)
  have hj := h14 s.toNat (by omega)
  unfold ISj at hj
  refine ⟨by omega, by omega, c_X6_isEmpty (by omega) _ (ob_sh (by omega)) (bz_br (fun q4 => c_X6_isRow (by omega) _ (ob_sh (by omega)) (bz_br (fun q5 => ?_) (fun q5 => ⟨fun q6 => ?_, fun q6 => ?_⟩))) (fun q4 => ?_))⟩
  · exact R _ _ rf (fun z => absurd (by omega) z) (fun _ => ⟨fun z => absurd z (by omega), fun _ _ => ⟨rfl, hI⟩, fun z => absurd z (by omega)⟩)
  · refine l_people (by omega) s i n (by omega) (by omega) hi (by omega) n.toNat 0 M M (by omega) (Or.inl rfl) hI ⟨fun _ _ _ => rfl, fun _ _ _ => rfl⟩ (by omega) (fun r Mf b1 b2 => ?_)
    refine R r Mf b1 (fun z => absurd (by omega) z) (fun _ => ⟨fun z => absurd z (by omega), fun _ z => absurd (by omega) z, fun _ => b2 Mf b1 ⟨fun _ _ _ => rfl, fun _ _ _ => rfl⟩⟩)
  · exact R _ _ rf (fun z => absurd (by omega) z) (fun _ => ⟨fun z => absurd z (by omega), fun _ _ => ⟨rfl, hI⟩, fun z => absurd z (by omega)⟩)
  · exact R _ _ rf (fun z => absurd (by omega) z) (fun _ => ⟨fun _ => ⟨rfl, hI⟩, fun z => absurd (by omega) z, fun z => absurd z (by omega)⟩)
