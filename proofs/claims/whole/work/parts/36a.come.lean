/-! people and meetings: kept in order -/
theorem ins_ok {f g key key2 : Nat → Int} {n P : Nat} (hP : P ≤ n) (hb : ∀ k : Nat, k < n → 0 ≤ f k ∧ f k < (n : Int)) (hs : ∀ k j : Nat, k < j → j < n → key (f k).toNat < key (f j).toNat ∨ (key (f k).toNat = key (f j).toNat ∧ f k < f j)) (ho : ∀ p : Nat, p < n → ∃ k : Nat, k < n ∧ f k = (p : Int)) (hk : ∀ x : Nat, x < n → key2 x = key x) (hlo : P = 0 ∨ key (f (P - 1)).toNat ≤ key2 n) (hhi : ∀ x : Nat, P ≤ x → x < n → key2 n < key (f x).toNat) (g1 : ∀ x : Nat, x < P → g x = f x) (g2 : g P = (n : Int)) (g3 : ∀ x : Nat, P ≤ x → x < n → g (x + 1) = f x) :
    (∀ k : Nat, k < n + 1 → 0 ≤ g k ∧ g k < ((n + 1 : Nat) : Int)) ∧ (∀ k j : Nat, k < j → j < n + 1 → key2 (g k).toNat < key2 (g j).toNat ∨ (key2 (g k).toNat = key2 (g j).toNat ∧ g k < g j)) ∧ (∀ p : Nat, p < n + 1 → ∃ k : Nat, k < n + 1 ∧ g k = (p : Int)) := by
  have lo : ∀ x : Nat, x < P → key (f x).toNat ≤ key2 n := by
    intro x hx
    rcases hlo with h | h
    · omega
    · by_cases e : x = P - 1
      · subst e; exact h
      · have := hs x (P - 1) (by omega) (by omega)
        omega
  have kk : ∀ x : Nat, x < n → key2 (f x).toNat = key (f x).toNat := fun x hx => hk _ (by have := hb x hx; omega)
  have hn2 : (((n : Nat) : Int)).toNat = n := by omega
  refine ⟨fun k hk1 => ?_, fun k j hkj hj => ?_, fun p hp => ?_⟩
  · by_cases e : k < P
    · rw [g1 k e]; have := hb k (by omega); omega
    · by_cases e2 : k = P
      · subst e2; rw [g2]; omega
      · have := g3 (k - 1) (by omega) (by omega)
        rw [show k - 1 + 1 = k by omega] at this
        rw [this]; have := hb (k - 1) (by omega); omega
  · by_cases e : k < P
    · rw [g1 k e, kk k (by omega)]
      by_cases e1 : j < P
      · rw [g1 j e1, kk j (by omega)]; exact hs k j hkj (by omega)
      · by_cases e2 : j = P
        · subst e2; rw [g2, hn2]
          have a1 := lo k e
          have a2 := hb k (by omega)
          omega
        · have h3 := g3 (j - 1) (by omega) (by omega)
          rw [show j - 1 + 1 = j by omega] at h3
          rw [h3, kk (j - 1) (by omega)]
          exact hs k (j - 1) (by omega) (by omega)
    · have h3 := g3 (j - 1) (by omega) (by omega)
      rw [show j - 1 + 1 = j by omega] at h3
      rw [h3, kk (j - 1) (by omega)]
      by_cases e2 : k = P
      · subst e2; rw [g2, hn2]
        exact Or.inl (hhi (j - 1) (by omega) (by omega))
      · have h4 := g3 (k - 1) (by omega) (by omega)
        rw [show k - 1 + 1 = k by omega] at h4
        rw [h4, kk (k - 1) (by omega)]
        exact hs (k - 1) (j - 1) (by omega) (by omega)
  · by_cases e : p = n
    · subst e; exact ⟨P, by omega, g2⟩
    · obtain ⟨k, k1, k2⟩ := ho p (by omega)
      by_cases e2 : k < P
      · exact ⟨k, by omega, by rw [g1 k e2]; exact k2⟩
      · exact ⟨k + 1, by omega, by rw [g3 k (by omega) k1]; exact k2⟩
theorem l_X4_come {E : zE} {M : zM} {Q : Int → zM → Prop} (o : Nat) (ho : zob o 4) (v1 v2 v3 : Int) (n : Nat) (hn : n < 12) (hb : ∀ k : Nat, k < n → 0 ≤ zg M (o + 5) k ∧ zg M (o + 5) k < (n : Int)) (h : ∀ (P : Nat) (M1 : zM), P ≤ n → (P = 0 ∨ zg M (o + 2) (zg M (o + 5) (P - 1)).toNat ≤ zw v1) → (∀ x : Nat, P ≤ x → x < n → zw v1 < zg M (o + 2) (zg M (o + 5) x).toNat) → (∀ i j, i ≠ o + 5 → zg M1 i j = zg M i j) → (∀ i j, zh M1 i j = zh M i j) → (∀ x : Nat, x < P → zg M1 (o + 5) x = zg M (o + 5) x) → (∀ x : Nat, P ≤ x → x < n → zg M1 (o + 5) (x + 1) = zg M (o + 5) x) → wp E 4 cX4_come (some .int) Q 73 [some (.ref o), some (zI v1), some (zI v2), some (zI v3), some (zI (P : Int)), none] [] M1) : ∀ (k : Nat) (M1 : zM), k ≤ n → (∀ x : Nat, k ≤ x → x < n → zw v1 < zg M (o + 2) (zg M (o + 5) x).toNat) → (∀ i j, i ≠ o + 5 → zg M1 i j = zg M i j) → (∀ i j, zh M1 i j = zh M i j) → (∀ x : Nat, x < k → zg M1 (o + 5) x = zg M (o + 5) x) → (∀ x : Nat, k ≤ x → x < n → zg M1 (o + 5) (x + 1) = zg M (o + 5) x) → wp E 4 cX4_come (some .int) Q 26 [some (.ref o), some (zI v1), some (zI v2), some (zI v3), some (zI (k : Int)), some (zI ((k : Int) - 1))] [] M1 := by
  intro k
  induction k with
  | zero =>
    intro M1 hk h1 h2 h3 h4 h5
    refine v_X4_come_26 o v1 v2 v3 _ _ ho ?_
    rw [zw_of (a := ((0 : Nat) : Int) - 1) (by omega) (by omega)]
    exact ⟨fun _ => h 0 M1 (by omega) (Or.inl rfl) h1 h2 h3 h4 h5, fun z => absurd (by omega) z⟩
  | succ k ih =>
    intro M1 hk h1 h2 h3 h4 h5
    refine v_X4_come_26 o v1 v2 v3 _ _ ho ?_
    have hbk := hb k (by omega)
    rw [zw_of (a := ((k + 1 : Nat) : Int) - 1) (by omega) (by omega), zw_of (a := ((k + 1 : Nat) : Int) - 1 + 1) (by omega) (by omega), show ((((k + 1 : Nat) : Int) - 1)).toNat = k by omega, show ((((k + 1 : Nat) : Int) - 1 + 1)).toNat = k + 1 by omega, h4 k (by omega), h2 (o + 2) _ (by omega)]
    refine ⟨fun z => absurd z (by omega), fun _ => ⟨by omega, by omega, by omega, by omega, fun q => ⟨by omega, by omega, by omega, by omega, ?_⟩, fun q => ?_⟩⟩
    · rintro _ rfl
      rw [show ((k + 1 : Nat) : Int) - 1 + -1 = (k : Int) - 1 by omega, show ((k + 1 : Nat) : Int) - 1 = (k : Int) by omega]
      refine ih _ (by omega) (fun x hx hxn => ?_) (fun i j hi => by rw [zg_zsi _ _ _ _ hi]; exact h2 i j hi) (fun i j => by rw [zh_zs]; exact h3 i j) (fun x hx => by rw [zg_zsj _ _ _ _ (by omega)]; exact h4 x (by omega)) (fun x hx hxn => ?_)
      · by_cases e : x = k
        · subst e; exact q
        · exact h1 x (by omega) hxn
      · by_cases e : x = k
        · subst e; rw [zg_zs1, zw_zg]
        · rw [zg_zsj _ _ _ _ (by omega)]; exact h5 x (by omega) hxn
    · exact h (k + 1) M1 (by omega) (Or.inr (by rw [show k + 1 - 1 = k by omega]; omega)) h1 h2 h3 h4 h5
/-- what come leaves -/
def comeM (M M2 : zM) (o n : Nat) (v1 v2 v3 : Int) : Prop := (∃ P : Nat, P ≤ n ∧ (P = 0 ∨ zg M (o + 2) (zg M (o + 5) (P - 1)).toNat ≤ zw v1) ∧ (∀ x : Nat, P ≤ x → x < n → zw v1 < zg M (o + 2) (zg M (o + 5) x).toNat) ∧ (∀ x : Nat, x < P → zg M2 (o + 5) x = zg M (o + 5) x) ∧ zg M2 (o + 5) P = (n : Int) ∧ (∀ x : Nat, P ≤ x → x < n → zg M2 (o + 5) (x + 1) = zg M (o + 5) x)) ∧ (∀ i j, i ≠ o + 5 → zg M2 i j = if i = o ∧ j = 5 then (n : Int) + 1 else if i = o + 4 ∧ j = n then zw v3 else if i = o + 3 ∧ j = n then zw v2 else if i = o + 2 ∧ j = n then zw v1 else zg M i j) ∧ (∀ i j, zh M2 i j = zh M i j)
theorem c_X4_come {d : Nat} {M : zM} {Q : Int → zM → Prop} (hd : 1 ≤ d) (o : Nat) (ho : zob o 4) (v1 v2 v3 : Int) (n : Nat) (hM : zg M o 5 = (n : Int)) (hb : n < 12 → ∀ k : Nat, k < n → 0 ≤ zg M (o + 5) k ∧ zg M (o + 5) k < (n : Int)) (hf : ¬ n < 12 → Q (-3) M) (ht : n < 12 → ∀ M2 : zM, comeM M M2 o n v1 v2 v3 → Q (n : Int) M2) : Ev d mX4_come [.ref o, zI v1, zI v2, zI v3] M Q := by
  obtain ⟨d, rfl, -⟩ := e_of 0 hd
  refine e_X4_come o v1 v2 v3 (v_X4_come_0 o v1 v2 v3 ho ?_)
  rw [hM]
  refine ⟨fun q => ?_, fun q => hf (by omega)⟩
  have hn : n < 12 := by omega
  refine l_X4_come (M := M) o ho v1 v2 v3 n hn (hb hn) (fun P M1 p1 p2 p3 p4 p5 p6 p7 => ?_) n M (by omega) (fun x h1 h2 => absurd h1 (by omega)) (fun _ _ _ => rfl) (fun _ _ => rfl) (fun _ _ => rfl) (fun x h1 h2 => absurd h1 (by omega))
  have hm5 : zg M1 o 5 = (n : Int) := by rw [p4 _ _ (by omega)]; exact hM
  refine v_X4_come_73 o v1 v2 v3 _ ho ?_
  rw [zw_of (a := (P : Int)) (by omega) (by omega), show ((P : Int)).toNat = P by omega]
  refine ⟨by omega, by omega, ?_⟩
  rintro _ rfl
  have r1 : zg (zs M1 (o + 5) P (zg M1 o 5)) o 5 = (n : Int) := by rw [zg_zsi _ _ _ _ (by omega)]; exact hm5
  rw [r1, hm5, show ((n : Int)).toNat = n by omega]
  refine ⟨by omega, by omega, ?_⟩
  rintro _ rfl
  have r2 : zg (zs (zs M1 (o + 5) P (n : Int)) (o + 2) n v1) o 5 = (n : Int) := by rw [zg_zsi _ _ _ _ (by omega), zg_zsi _ _ _ _ (by omega)]; exact hm5
  rw [r2, show ((n : Int)).toNat = n by omega]
  refine ⟨by omega, by omega, ?_⟩
  rintro _ rfl
  have r3 : zg (zs (zs (zs M1 (o + 5) P (n : Int)) (o + 2) n v1) (o + 3) n v2) o 5 = (n : Int) := by rw [zg_zsi _ _ _ _ (by omega), zg_zsi _ _ _ _ (by omega), zg_zsi _ _ _ _ (by omega)]; exact hm5
  rw [r3, show ((n : Int)).toNat = n by omega]
  refine ⟨by omega, by omega, ?_⟩
  rintro _ rfl _ rfl
  have r4 : zg (zs (zs (zs (zs M1 (o + 5) P (n : Int)) (o + 2) n v1) (o + 3) n v2) (o + 4) n v3) o 5 = (n : Int) := by rw [zg_zsi _ _ _ _ (by omega), zg_zsi _ _ _ _ (by omega), zg_zsi _ _ _ _ (by omega), zg_zsi _ _ _ _ (by omega)]; exact hm5
  rw [r4]
  have wn : zw (n : Int) = (n : Int) := zw_of (by omega) (by omega)
  have wn1 : zw ((n : Int) + 1) = (n : Int) + 1 := zw_of (by omega) (by omega)
  have r5 : ∀ x, zg (zs (zs (zs (zs (zs M1 (o + 5) P (n : Int)) (o + 2) n v1) (o + 3) n v2) (o + 4) n v3) o 5 ((n : Int) + 1)) (o + 5) x = if x = P then (n : Int) else zg M1 (o + 5) x := by
    intro x
    rw [zg_zsi _ _ _ _ (by omega), zg_zsi _ _ _ _ (by omega), zg_zsi _ _ _ _ (by omega), zg_zsi _ _ _ _ (by omega), zg_zs, wn]
    by_cases e : x = P
    · rw [if_pos ⟨rfl, e⟩, if_pos e]
    · rw [if_neg (fun z => e z.2), if_neg e]
  refine ht hn _ ⟨⟨P, p1, p2, p3, fun x hx => ?_, ?_, fun x h1 h2 => ?_⟩, fun i j hi => ?_, fun i j => ?_⟩
  · rw [r5, if_neg (by omega)]; exact p6 x hx
  · rw [r5, if_pos rfl]
  · rw [r5, if_neg (by omega)]; exact p7 x h1 h2
  · simp only [zg_zs, hi, false_and, if_false, wn1, p4 i j hi]
  · exact p5 i j
theorem c_X8_addPerson {d : Nat} {M : zM} {Q : Int → zM → Prop} (hd : 1 ≤ d) (v1 v2 v3 : Int) (n : Nat) (hn : n < 12) (hM : zg M 1280 1 = (n : Int)) (h : ∀ M2 : zM, (∀ i j, zg M2 i j = if i = 1280 ∧ j = 1 then (n : Int) + 1 else if i = 1285 ∧ j = n then zw v3 else if i = 1284 ∧ j = n then zw v2 else if i = 1283 ∧ j = n then zw v1 else zg M i j) → (∀ i j, zh M2 i j = zh M i j) → Q (n : Int) M2) : Ev d mX8_addPerson [.ref 1280, zI v1, zI v2, zI v3] M Q := by
  obtain ⟨d, rfl, -⟩ := e_of 0 hd
  have wn1 : zw ((n : Int) + 1) = (n : Int) + 1 := zw_of (by omega) (by omega)
  refine e_X8_addPerson v1 v2 v3 (v_X8_addPerson_0 v1 v2 v3 ?_)
  rw [hM, show ((n : Int)).toNat = n by omega]
  refine ⟨by omega, by omega, ?_⟩
  rintro _ rfl
  rw [zg_zsi _ _ _ _ (by omega), hM, show ((n : Int)).toNat = n by omega]
  refine ⟨by omega, by omega, ?_⟩
  rintro _ rfl
  rw [zg_zsi _ _ _ _ (by omega), zg_zsi _ _ _ _ (by omega), hM, show ((n : Int)).toNat = n by omega]
  refine ⟨by omega, by omega, ?_⟩
  rintro _ rfl _ rfl
  rw [zg_zs1, zg_zsi _ _ _ _ (by omega), zg_zsi _ _ _ _ (by omega), zg_zsi _ _ _ _ (by omega), hM, wn1, zw_of (a := (n : Int) + 1 - 1) (by omega) (by omega), show (n : Int) + 1 - 1 = (n : Int) by omega]
  refine h _ (fun i j => ?_) (fun _ _ => rfl)
  simp only [zg_zs, wn1]
