/-! pairs: mend -/
def addC (M : zM) (e : Nat) (w p x y : Int) : zM := zs (zs (zs (zs (zs (zs M 449 e w) 450 e p) 451 e x) 452 e y) 448 4 ((e : Int) + 1)) 448 5 ((e : Int) + 1)
def dropC (M : zM) : zM := zci (zci (zci (zci (zs M 448 4 39) 449 449 1 0 39) 450 450 1 0 39) 451 451 1 0 39) 452 452 1 0 39
theorem c_X0_add13 {E : zE} {M : zM} {Q : Int → zM → Prop} (w p x y : Int) (e : Nat) (he : zg M 448 4 = (e : Int)) (h40 : e < 40) (hQ : Q 0 (addC M e w p x y)) : wp E 0 cX0_add (none) Q 13 [some (.ref 448), some (zI w), some (zI p), some (zI x), some (zI y)] [] M := by
  have w1 : zw ((e : Int) + 1) = (e : Int) + 1 := zw_of (by omega) (by omega)
  refine v_X0_add_13 w p x y ?_
  simp [zg_zs, he, w1]
  repeat (refine ⟨by omega, ?_⟩)
  exact hQ
theorem c_X0_add {d : Nat} {M : zM} {Q : Int → zM → Prop} (hd : 2 ≤ d) (w p x y : Int) (e : Nat) (he : zg M 448 4 = (e : Int)) (h40 : e ≤ 40) (h1 : e < 40 → Q 0 (addC M e w p x y)) (h2 : e = 40 → Q 0 (addC (dropC M) 39 w p x y)) : Ev d mX0_add [.ref 448, zI w, zI p, zI x, zI y] M Q := by
  obtain ⟨d, rfl, -⟩ := e_of 1 hd
  obtain ⟨d2, rfl, -⟩ := e_of 0 (show 0 + 1 ≤ d by omega)
  refine e_X0_add w p x y (v_X0_add_0 w p x y ⟨fun q => c_X0_add13 w p x y e he (by omega) (h1 (by omega)), fun q => e_X0_dropOldest (v_X0_dropOldest_0 ?_)⟩)
  have e40 : e = 40 := by omega
  have w39 : zw 39 = 39 := by decide
  simp [zg_zs, zg_zci, w39]
  exact c_X0_add13 w p x y 39 (by simp [zg_zs, zg_zci, w39]) (by omega) (h2 e40)
theorem IC_add {M N : zM} (dn off e : Nat) (hdn : zg M 1280 12 = (dn : Int)) (w p x y : Int) (he : e + off = dn) (he40 : e < 40)
    (c449 : ∀ i, i < e → zg N 449 i = zg M 449 (i + off)) (c450 : ∀ i, i < e → zg N 450 i = zg M 450 (i + off)) (c451 : ∀ i, i < e → zg N 451 i = zg M 451 (i + off)) (c452 : ∀ i, i < e → zg N 452 i = zg M 452 (i + off))
    (c1295 : ∀ i, i < e → zg N 1295 i = zg M 1295 (i + off)) (c1296 : ∀ i, i < e → zg N 1296 i = zg M 1296 (i + off)) (c1297 : ∀ i, i < e → zg N 1297 i = zg M 1297 (i + off)) (c1298 : ∀ i, i < e → zg N 1298 i = zg M 1298 (i + off))
    (s449 : zg N 449 e = w) (s450 : zg N 450 e = p) (s451 : zg N 451 e = x) (s452 : zg N 452 e = y) (s1295 : zg N 1295 e = w) (s1296 : zg N 1296 e = p) (s1297 : zg N 1297 e = x) (s1298 : zg N 1298 e = y)
    (f4 : zg N 448 4 = (e : Int) + 1) (f5 : zg N 448 5 = (e : Int) + 1) (g12 : zg N 1280 12 = (e : Int) + 1) (g13 : zg N 1280 13 = 0) (h1283 : ∀ q, zg N 1283 q = zg M 1283 q) (f1 : zg N 1280 1 = zg M 1280 1)
    (hv : (w = 0 ∧ 0 ≤ p ∧ p < zg M 1280 1 ∧ zg M 1283 p.toNat < x ∧ x ≤ 100 ∧ zg M 1283 p.toNat < y ∧ y ≤ 100) ∨ (w = 1 ∧ 0 ≤ p ∧ p < 12 ∧ 0 ≤ x ∧ x ≤ 9 ∧ 0 ≤ y ∧ y ≤ 9)) (hI : IC M) : IC N := by
  obtain ⟨dn2, kp, a1, a2, a3, a4, a5, a6, a7⟩ := hI
  refine ⟨e + 1, e + 1, by omega, by omega, by omega, by omega, by omega, by omega, fun i hi => ?_⟩
  by_cases hie : i = e
  · subst hie
    rw [s449, s450, s451, s452, s1295, s1296, s1297, s1298, h1283, f1]
    exact ⟨rfl, rfl, rfl, rfl, hv⟩
  · have h := a7 (i + off) (by omega)
    have hl : i < e := by omega
    rw [c449 i hl, c450 i hl, c451 i hl, c452 i hl, c1295 i hl, c1296 i hl, c1297 i hl, c1298 i hl, h1283, f1]
    exact h
/-- the reference's rows move down by one -/
def shR (k : Nat) (M N : zM) : Prop := (∀ a b, ¬ (a = 1295 ∨ a = 1296 ∨ a = 1297 ∨ a = 1298) → zg N a b = zg M a b) ∧ (∀ a b, zh N a b = zh M a b) ∧ ∀ a b, (a = 1295 ∨ a = 1296 ∨ a = 1297 ∨ a = 1298) → zg N a b = if b + 1 < k then zg M a (b + 1) else zg M a b
theorem l_X8_changes {E : zE} {M0 : zM} {Q : Int → zM → Prop} (w p v x : Int) (hQ : ∀ N, shR 40 M0 N → wp E 8 cX8_changes (some .int) Q 121 [some (.ref 1280), some (zI w), some (zI p), some (zI v), some (zI x), none] [] (zs N 1280 12 (zg N 1280 12 - 1))) : ∀ (j k : Nat) (N : zM), k + j = 40 → 1 ≤ k → shR k M0 N → wp E 8 cX8_changes (some .int) Q 34 [some (.ref 1280), some (zI w), some (zI p), some (zI v), some (zI x), some (zI (k : Int))] [] N := by
  intro j
  induction j with
  | zero =>
    intro k N hk h1 hs
    have hk40 : k = 40 := by omega
    subst hk40
    refine v_X8_changes_34 w p v x _ ⟨fun q => absurd q (by decide), fun _ => ?_⟩
    rintro _ rfl
    exact hQ N hs
  | succ j ih =>
    intro k N hk h1 hs
    have wk : zw (k : Int) = (k : Int) := zw_of (by omega) (by omega)
    have wk1 : zw ((k : Int) - 1) = (k : Int) - 1 := zw_of (by omega) (by omega)
    have e1 : ((k : Int) - 1).toNat = k - 1 := by omega
    refine v_X8_changes_34 w p v x _ ⟨fun _ => ?_, fun q => absurd q (by rw [wk]; omega)⟩
    rw [wk, wk1, e1]
    have b1 : (0 : Int) ≤ k := by omega
    have b2 : (k : Int) < 40 := by omega
    have b3 : (0 : Int) ≤ (k : Int) - 1 := by omega
    have b4 : (k : Int) - 1 < 40 := by omega
    refine ⟨b1, b2, b3, b4, ?_⟩
    rintro _ rfl
    refine ⟨b1, b2, b3, b4, ?_⟩
    rintro _ rfl
    refine ⟨b1, b2, b3, b4, ?_⟩
    rintro _ rfl
    refine ⟨b1, b2, b3, b4, ?_⟩
    rintro _ rfl
    have e2 : ((k : Int)).toNat = k := by omega
    rw [e2]
    rw [show ((k : Int) + 1) = ((k + 1 : Nat) : Int) by omega]
    refine ih (k + 1) _ (by omega) (by omega) ?_
    · refine ⟨fun a b hab => ?_, fun a b => by simp only [zh_zs]; exact hs.2.1 a b, fun a b hab => ?_⟩
      · rw [← hs.1 a b hab]
        simp only [zg_zs]
        rw [if_neg (by omega), if_neg (by omega), if_neg (by omega), if_neg (by omega)]
      · have h0 := hs.2.2 a b hab
        have hk0 := hs.2.2 a k hab
        rw [if_neg (by omega)] at hk0
        rcases hab with rfl | rfl | rfl | rfl <;> simp [zg_zs, zw_zg] <;> by_cases hb : b = k - 1
        all_goals first
          | (subst hb; rw [if_pos rfl, hk0, if_pos (by omega)]; congr 1; omega)
          | (rw [if_neg hb, h0]; split <;> split <;> first | rfl | omega)
