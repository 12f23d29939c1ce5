/-! bits, and views of a parish -/
def bs (P : Nat → Bool) : Nat → Nat
  | 0 => 0
  | i + 1 => if P i = true then bs P i ||| 2 ^ i else bs P i
def anyN (P : Nat → Bool) : Nat → Bool
  | 0 => false
  | i + 1 => anyN P i || P i
theorem anyN_iff {P : Nat → Bool} : ∀ n : Nat, anyN P n = true ↔ ∃ i, i < n ∧ P i = true
  | 0 => by simp [anyN]
  | n + 1 => by
    rw [anyN, Bool.or_eq_true, anyN_iff n]
    constructor
    · rintro (⟨i, h1, h2⟩ | h)
      · exact ⟨i, by omega, h2⟩
      · exact ⟨n, by omega, h⟩
    · rintro ⟨i, h1, h2⟩
      by_cases e : i = n
      · subst e; exact Or.inr h2
      · exact Or.inl ⟨i, by omega, h2⟩
theorem anyN_cg {P P2 : Nat → Bool} : ∀ n : Nat, (∀ i, i < n → P i = P2 i) → anyN P n = anyN P2 n
  | 0, _ => rfl
  | n + 1, h => by rw [anyN, anyN, anyN_cg n (fun i hi => h i (by omega)), h n (by omega)]
theorem tp_s (i : Nat) : 2 ^ (i + 1) = 2 ^ i * 2 := Nat.pow_succ 2 i
theorem zw_n {a : Nat} (h : a < 2147483648) : zw (a : Int) = (a : Int) := zw_of (by omega) (by omega)
theorem bs_lt (P : Nat → Bool) : ∀ n : Nat, bs P n < 2 ^ n
  | 0 => by simp [bs]
  | i + 1 => by
    have h := bs_lt P i
    have e := tp_s i
    rw [bs]
    split
    · exact Nat.or_lt_two_pow (by omega) (by omega)
    · omega
theorem bs_bit (P : Nat → Bool) : ∀ n i : Nat, (bs P n).testBit i = (decide (i < n) && P i)
  | 0, i => by simp [bs]
  | n + 1, i => by
    rw [bs]
    by_cases h : P n = true
    · rw [if_pos h, Nat.testBit_or, bs_bit P n i, Nat.testBit_two_pow]
      by_cases e : n = i
      · subst e; simp [h]
      · have e2 : (i < n + 1) ↔ (i < n) := by omega
        simp [e2, e]
    · rw [if_neg h, bs_bit P n i]
      by_cases e : n = i
      · subst e; simp [h]
      · have e2 : (i < n + 1) ↔ (i < n) := by omega
        simp [e2]
theorem bs_eq {x : Nat} {P : Nat → Bool} {n : Nat} (h : ∀ i, x.testBit i = (decide (i < n) && P i)) : x = bs P n := Nat.eq_of_testBit_eq (fun i => by rw [h, bs_bit])
theorem bs_cg {P P2 : Nat → Bool} : ∀ n : Nat, (∀ i, i < n → P i = P2 i) → bs P n = bs P2 n
  | 0, _ => rfl
  | n + 1, h => by rw [bs, bs, bs_cg n (fun i hi => h i (by omega)), h n (by omega)]
theorem bs_z {P : Nat → Bool} (n : Nat) : bs P n = 0 ↔ anyN P n = false := by
  constructor
  · intro h
    rw [Bool.eq_false_iff]
    intro g
    obtain ⟨i, h1, h2⟩ := (anyN_iff n).mp g
    have := bs_bit P n i
    rw [h, Nat.zero_testBit] at this
    simp [h1, h2] at this
  · intro h
    refine (bs_eq (fun i => ?_)).symm
    rw [Nat.zero_testBit]
    by_cases e : i < n ∧ P i = true
    · have : anyN P n = true := (anyN_iff n).mpr ⟨i, e.1, e.2⟩
      rw [h] at this; cases this
    · by_cases e1 : i < n
      · have e2 : P i = false := by rw [Bool.eq_false_iff]; exact fun z => e ⟨e1, z⟩
        simp [e2]
      · simp [e1]
theorem tp_12 {p : Nat} (h : p < 12) : 2 ^ p < 4096 := Nat.pow_lt_pow_right (a := 2) (n := 12) (by omega) h
theorem or_12 {a b : Nat} (ha : a < 4096) (hb : b < 4096) : a ||| b < 4096 := Nat.or_lt_two_pow (n := 12) ha hb
/-- rows: 0 born, 1 dies, 2 names, 3 one, 4 other, 5 year, 6 the meetings in order, 7 fame, 8 worth; 9 2: hearing -/
abbrev zV : Type := Nat → Nat → Int
def Vok (n k : Nat) (V : zV) : Prop := n ≤ 12 ∧ k ≤ 16 ∧ (∀ p : Nat, p < n → 0 ≤ V 0 p ∧ V 0 p < 100 ∧ V 0 p < V 1 p ∧ V 1 p ≤ 100 ∧ -1 ≤ V 2 p ∧ V 2 p < 12) ∧ (∀ m : Nat, m < k → 0 ≤ V 3 m ∧ V 3 m < (n : Int) ∧ 0 ≤ V 4 m ∧ V 4 m < (n : Int) ∧ V 3 m ≠ V 4 m ∧ 0 ≤ V 5 m ∧ V 5 m < 100) ∧ (∀ j : Nat, j < k → 0 ≤ V 6 j ∧ V 6 j < (k : Int)) ∧ (∀ i j : Nat, i < j → j < k → V 5 (V 6 i).toNat < V 5 (V 6 j).toNat ∨ (V 5 (V 6 i).toNat = V 5 (V 6 j).toNat ∧ V 6 i < V 6 j)) ∧ (∀ m : Nat, m < k → ∃ j : Nat, j < k ∧ V 6 j = (m : Int)) ∧ (∀ a : Nat, a < 12 → 0 ≤ V 7 a ∧ V 7 a ≤ 1 ∧ 0 ≤ V 8 a ∧ V 8 a ≤ 9)
def CV (o n k : Nat) (V : zV) (M : zM) : Prop := zg M o 5 = (n : Int) ∧ zg M o 10 = (k : Int) ∧ zg M o 11 = V 9 2 ∧ (∀ p : Nat, p < n → zg M (o + 2) p = V 0 p ∧ zg M (o + 3) p = V 1 p ∧ zg M (o + 4) p = V 2 p) ∧ (∀ m : Nat, m < k → zg M (o + 7) m = V 3 m ∧ zg M (o + 8) m = V 4 m ∧ zg M (o + 9) m = V 5 m ∧ zg M (o + 10) m = V 6 m) ∧ (∀ a : Nat, a < 12 → zg M (o + 14) a = V 7 a ∧ zg M (o + 13) a = V 8 a)
def RV (n k : Nat) (V : zV) (am : Nat) (M : zM) : Prop := zg M 1280 1 = (n : Int) ∧ zg M 1280 5 = (k : Int) ∧ zg M 1280 9 = V 9 2 ∧ (∀ p : Nat, p < n → zg M 1283 p = V 0 p ∧ zg M 1284 p = V 1 p ∧ V 2 p = if am.testBit p = true then zg M 1315 p else -1) ∧ (∀ m : Nat, m < k → zg M 1287 m = V 3 m ∧ zg M 1288 m = V 4 m ∧ zg M 1289 m = V 5 m) ∧ (∀ a : Nat, a < 12 → zg M 1292 a = V 7 a ∧ zg M 1291 a = V 8 a)
/-- what class methods that only look leave changed -/
def FrC (M M2 : zM) : Prop := (∀ i j, i ≠ 137 → i ≠ 138 → i ≠ 207 → i ≠ 271 → ¬ (i = 128 ∧ j = 10) → zg M2 i j = zg M i j) ∧ (∀ i j, zh M2 i j = zh M i j)
theorem FrC_rf (M : zM) : FrC M M := ⟨fun _ _ _ _ _ _ _ => rfl, fun _ _ => rfl⟩
theorem FrC_tr {M M2 M3 : zM} (h : FrC M M2) (g : FrC M2 M3) : FrC M M3 := ⟨fun i j a b c e f => by rw [g.1 i j a b c e f, h.1 i j a b c e f], fun i j => by rw [g.2, h.2]⟩
/-- what the reference's methods that only look leave changed -/
def FrR (M M2 : zM) : Prop := (∀ i j, i ≠ 1310 → i ≠ 1311 → i ≠ 1313 → i ≠ 1314 → zg M2 i j = zg M i j) ∧ (∀ i j, zh M2 i j = zh M i j)
theorem FrR_rf (M : zM) : FrR M M := ⟨fun _ _ _ _ _ _ => rfl, fun _ _ => rfl⟩
theorem FrR_tr {M M2 M3 : zM} (h : FrR M M2) (g : FrR M2 M3) : FrR M M3 := ⟨fun i j a b c e => by rw [g.1 i j a b c e, h.1 i j a b c e], fun i j => by rw [g.2, h.2]⟩
/-- only the law's told facts and stack -/
def FrL (M M2 : zM) : Prop := (∀ i j, i ≠ 137 → i ≠ 138 → ¬ (i = 128 ∧ j = 10) → zg M2 i j = zg M i j) ∧ (∀ i j, zh M2 i j = zh M i j)
def FrQ (M M2 : zM) : Prop := (∀ i j, i ≠ 1310 → i ≠ 1311 → zg M2 i j = zg M i j) ∧ (∀ i j, zh M2 i j = zh M i j)
def FrK (A : Nat) (M M2 : zM) : Prop := (∀ i j, i ≠ A → zg M2 i j = zg M i j) ∧ (∀ i j, zh M2 i j = zh M i j)
theorem FrK_rf (A : Nat) (M : zM) : FrK A M M := ⟨fun _ _ _ => rfl, fun _ _ => rfl⟩
theorem FrK_tr {A : Nat} {M M2 M3 : zM} (h : FrK A M M2) (g : FrK A M2 M3) : FrK A M M3 := ⟨fun i j a => by rw [g.1 i j a, h.1 i j a], fun i j => by rw [g.2, h.2]⟩
theorem FrK_zs (A : Nat) (M : zM) (j : Nat) (v : Int) : FrK A M (zs M A j v) := ⟨fun i j a => by rw [zg_zsi _ _ _ _ a], fun _ _ => rfl⟩
theorem FrL_C {M M2 : zM} (h : FrL M M2) : FrC M M2 := ⟨fun i j a b _ _ c => h.1 i j a b c, h.2⟩
theorem FrK_C {o : Nat} {M M2 : zM} (ho : o = 192 ∨ o = 256) (h : FrK (o + 15) M M2) : FrC M M2 := ⟨fun i j a b c e _ => h.1 i j (by omega), h.2⟩
theorem FrQ_R {M M2 : zM} (h : FrQ M M2) : FrR M M2 := ⟨fun i j a b _ _ => h.1 i j a b, h.2⟩
theorem CV_C {o n k : Nat} {V : zV} {M M2 : zM} (ho : o = 192 ∨ o = 256) (h : FrC M M2) (g : CV o n k V M) : CV o n k V M2 := by
  obtain ⟨g1, g2, g3, g4, g5, g6⟩ := g
  have e : ∀ a j, a < 15 → zg M2 (o + a) j = zg M (o + a) j := fun a j ha => h.1 _ _ (by omega) (by omega) (by omega) (by omega) (by omega)
  have e0 : ∀ j, zg M2 o j = zg M o j := fun j => e 0 j (by omega)
  unfold CV
  simp only [e0, e 2 _ (by omega), e 3 _ (by omega), e 4 _ (by omega), e 7 _ (by omega), e 8 _ (by omega), e 9 _ (by omega), e 10 _ (by omega), e 13 _ (by omega), e 14 _ (by omega)]
  exact ⟨g1, g2, g3, g4, g5, g6⟩
theorem RV_R {n k am : Nat} {V : zV} {M M2 : zM} (h : FrR M M2) (g : RV n k V am M) : RV n k V am M2 := by
  have e : ∀ a j, a ≠ 1310 → a ≠ 1311 → a ≠ 1313 → a ≠ 1314 → zg M2 a j = zg M a j := fun a j => h.1 a j
  unfold RV
  simp only [e 1280 _ (by omega) (by omega) (by omega) (by omega), e 1283 _ (by omega) (by omega) (by omega) (by omega), e 1284 _ (by omega) (by omega) (by omega) (by omega), e 1315 _ (by omega) (by omega) (by omega) (by omega), e 1287 _ (by omega) (by omega) (by omega) (by omega), e 1288 _ (by omega) (by omega) (by omega) (by omega), e 1289 _ (by omega) (by omega) (by omega) (by omega), e 1292 _ (by omega) (by omega) (by omega) (by omega), e 1291 _ (by omega) (by omega) (by omega) (by omega)]
  exact g
theorem RV_C {n k am : Nat} {V : zV} {M M2 : zM} (h : FrC M M2) (g : RV n k V am M) : RV n k V am M2 := by
  have e : ∀ a j, 1280 ≤ a → zg M2 a j = zg M a j := fun a j ha => h.1 a j (by omega) (by omega) (by omega) (by omega) (by omega)
  unfold RV
  simp only [e 1280 _ (by omega), e 1283 _ (by omega), e 1284 _ (by omega), e 1315 _ (by omega), e 1287 _ (by omega), e 1288 _ (by omega), e 1289 _ (by omega), e 1292 _ (by omega), e 1291 _ (by omega)]
  exact g
theorem LC_C {LS : Option (List lwL)} {M M2 : zM} (h : FrC M M2) (g : LC M LS) : LC M2 LS := by
  have e1 : zg M2 128 7 = zg M 128 7 := h.1 _ _ (by omega) (by omega) (by omega) (by omega) (by omega)
  match LS with
  | none => show zg M2 128 7 = 0; rw [e1]; exact g
  | some ls =>
    obtain ⟨g1, g2, g3, g4⟩ := g
    exact ⟨g1, by rw [e1]; exact g2, g3, CdA_fr _ _ (fun j _ _ => h.1 _ _ (by omega) (by omega) (by omega) (by omega) (by omega)) g4⟩
theorem LR_fr {LS : Option (List lwL)} {M M2 : zM} (h : ∀ i j, i = 1280 ∨ (1305 ≤ i ∧ i ≤ 1309) → zg M2 i j = zg M i j) (g : LR M LS) : LR M2 LS := by
  have e1 : zg M2 1280 31 = zg M 1280 31 := h _ _ (by omega)
  match LS with
  | none => show zg M2 1280 31 = 0; rw [e1]; exact g
  | some ls =>
    obtain ⟨g1, g2, g3, g4, g5, g6⟩ := g
    exact ⟨by rw [e1]; exact g1, g2, by rw [h 1307 0 (by omega)]; exact g3, g4, g5, LnA_fr (fun j _ => h _ _ (by omega)) (fun j _ => h _ _ (by omega)) (fun j _ => h _ _ (by omega)) (fun j _ => h _ _ (by omega)) _ _ _ (by omega) (by omega) g6⟩
theorem LR_R {LS : Option (List lwL)} {M M2 : zM} (h : FrR M M2) (g : LR M LS) : LR M2 LS := LR_fr (fun i j hi => h.1 i j (by omega) (by omega) (by omega) (by omega)) g
theorem LR_C {LS : Option (List lwL)} {M M2 : zM} (h : FrC M M2) (g : LR M LS) : LR M2 LS := LR_fr (fun i j hi => h.1 i j (by omega) (by omega) (by omega) (by omega) (by omega)) g
/-- what of a meeting is known by whom -/
abbrev cnt (V : zV) (m : Nat) : Prop := (V 0 (V 3 m).toNat ≤ V 5 m ∧ V 5 m < V 1 (V 3 m).toNat) ∧ V 0 (V 4 m).toNat ≤ V 5 m ∧ V 5 m < V 1 (V 4 m).toNat
def okB (V : zV) (y : Int) (w : Nat) (m : Nat) : Bool := decide (V 5 m ≤ y ∧ cnt V m) && !(w.testBit m)
def ks (V : zV) (m : Nat) (K : Nat → Nat) (p : Nat) : Nat :=
  if p = (V 3 m).toNat then K p ||| (if V 9 2 = 1 then K (V 4 m).toNat else 2 ^ (V 4 m).toNat)
  else if p = (V 4 m).toNat then K p ||| (if V 9 2 = 1 then K (V 3 m).toNat else 2 ^ (V 3 m).toNat)
  else K p
def kup (V : zV) (ok : Nat → Bool) : Nat → Nat → Nat
  | 0, p => 2 ^ p
  | j + 1, p => if ok (V 6 j).toNat = true then ks V (V 6 j).toNat (kup V ok j) p else kup V ok j p
def KnA (M : zM) (A n : Nat) (K : Nat → Nat) : Prop := ∀ p : Nat, p < n → zg M A p = (K p : Int)
theorem KnA_fr {M M2 : zM} {A n : Nat} {K : Nat → Nat} (h : ∀ j, zg M2 A j = zg M A j) (g : KnA M A n K) : KnA M2 A n K := fun p hp => by rw [h]; exact g p hp
theorem ks_lt {V : zV} {n k m : Nat} {K : Nat → Nat} (hV : Vok n k V) (hm : m < k) (hK : ∀ p, p < n → K p < 4096) : ∀ p, p < n → ks V m K p < 4096 := by
  intro p hp
  obtain ⟨v1, v2, v3, v4, -⟩ := hV
  have g := v4 m hm
  unfold ks
  split
  · refine or_12 (hK p hp) ?_
    split
    · exact hK _ (by omega)
    · exact tp_12 (by omega)
  · split
    · refine or_12 (hK p hp) ?_
      split
      · exact hK _ (by omega)
      · exact tp_12 (by omega)
    · exact hK p hp
theorem kup_lt {V : zV} {n k : Nat} {ok : Nat → Bool} (hV : Vok n k V) : ∀ j, j ≤ k → ∀ p, p < n → kup V ok j p < 4096
  | 0, _, p, hp => by have := hV.1; exact tp_12 (by omega)
  | j + 1, hj, p, hp => by
    have g := hV.2.2.2.2.1 j (by omega)
    rw [kup]
    split
    · exact ks_lt hV (by omega) (kup_lt hV j (by omega)) p hp
    · exact kup_lt hV j (by omega) p hp
theorem c_X4_counts {d : Nat} {M : zM} {Q : Int → zM → Prop} (hd : 2 ≤ d) (o n k : Nat) (V : zV) (ho : zob o 4) (hV : Vok n k V) (hC : CV o n k V M) (m : Nat) (hm : m < k) (h : Q (bz (cnt V m)) M) : Ev d mX4_counts [.ref o, zI (m : Int)] M Q := by
  obtain ⟨d, rfl, hdd⟩ := e_of 1 hd; replace hd := hdd
  obtain ⟨v1, v2, v3, v4, -⟩ := hV
  obtain ⟨c1, c2, c3, c4, c5, -⟩ := hC
  have g := v4 m hm
  obtain ⟨g1, g2, g3, -⟩ := c5 m hm
  refine e_X4_counts o _ (v_X4_counts_0 o _ ho ?_)
  rw [zw_of (a := (m : Int)) (by omega) (by omega), show ((m : Int)).toNat = m by omega, g1, g3]
  have w1 : zw (V 3 m) = V 3 m := zw_of (by omega) (by omega)
  have w2 : zw (V 4 m) = V 4 m := zw_of (by omega) (by omega)
  have w3 : zw (V 5 m) = V 5 m := zw_of (by omega) (by omega)
  refine ⟨by omega, by omega, by omega, by omega, c_X4_lives hd o ho _ _ (by omega) (by omega) ?_⟩
  rw [w1, w3, (c4 _ (by omega)).1, (c4 _ (by omega)).2.1]
  refine bz_br (fun q => ?_) (fun q => ⟨by omega, by omega, by omega, by omega, c_X4_lives hd o ho _ _ (by rw [g2, w2]; omega) (by rw [g2, w2]; omega) ?_⟩)
  · rw [bz_f (fun z => q z.1)] at h; exact h
  · rw [g2, g3, w2, w3, (c4 _ (by omega)).1, (c4 _ (by omega)).2.1]
    refine bz_br (fun q2 => ?_) (fun q2 => ?_)
    · rw [bz_f (fun z => q2 z.2)] at h; exact h
    · rw [bz_t ⟨q, q2⟩] at h; exact h
theorem c_X8_counts {d : Nat} {M : zM} {Q : Int → zM → Prop} (hd : 2 ≤ d) (n k am : Nat) (V : zV) (hV : Vok n k V) (hC : RV n k V am M) (m : Nat) (hm : m < k) (h : Q (bz (cnt V m)) M) : Ev d mX8_counts [.ref 1280, zI (m : Int)] M Q := by
  obtain ⟨d, rfl, hdd⟩ := e_of 1 hd; replace hd := hdd
  obtain ⟨v1, v2, v3, v4, -⟩ := hV
  obtain ⟨c1, c2, c3, c4, c5, -⟩ := hC
  have g := v4 m hm
  obtain ⟨g1, g2, g3⟩ := c5 m hm
  refine e_X8_counts _ (v_X8_counts_0 _ ?_)
  rw [zw_of (a := (m : Int)) (by omega) (by omega), show ((m : Int)).toNat = m by omega, g1, g3]
  have w1 : zw (V 3 m) = V 3 m := zw_of (by omega) (by omega)
  have w2 : zw (V 4 m) = V 4 m := zw_of (by omega) (by omega)
  have w3 : zw (V 5 m) = V 5 m := zw_of (by omega) (by omega)
  refine ⟨by omega, by omega, by omega, by omega, c_X8_lives hd _ _ (by omega) (by omega) ?_⟩
  rw [w1, w3, (c4 _ (by omega)).1, (c4 _ (by omega)).2.1]
  refine bz_br (fun q => ?_) (fun q => ⟨by omega, by omega, by omega, by omega, c_X8_lives hd _ _ (by rw [g2, w2]; omega) (by rw [g2, w2]; omega) ?_⟩)
  · rw [bz_f (fun z => q z.1)] at h; exact h
  · rw [g2, g3, w2, w3, (c4 _ (by omega)).1, (c4 _ (by omega)).2.1]
    refine bz_br (fun q2 => ?_) (fun q2 => ?_)
    · rw [bz_f (fun z => q2 z.2)] at h; exact h
    · rw [bz_t ⟨q, q2⟩] at h; exact h
theorem c_X4_countsBy {d : Nat} {M : zM} {Q : Int → zM → Prop} (hd : 3 ≤ d) (o n k : Nat) (V : zV) (ho : zob o 4) (hV : Vok n k V) (hC : CV o n k V M) (m : Nat) (hm : m < k) (y : Int) (hy : zw y = y) (h : Q (bz (V 5 m ≤ y ∧ cnt V m)) M) : Ev d mX4_countsBy [.ref o, zI (m : Int), zI y] M Q := by
  obtain ⟨d, rfl, hdd⟩ := e_of 2 hd; replace hd := hdd
  have hk := hV.2.1
  refine e_X4_countsBy o _ _ (v_X4_countsBy_0 o _ _ ho ?_)
  rw [zw_of (a := (m : Int)) (by omega) (by omega), show ((m : Int)).toNat = m by omega, hy, (hC.2.2.2.2.1 m hm).2.2.1]
  refine ⟨by omega, by omega, fun q => ?_, fun q => c_X4_counts hd o n k V ho hV hC m hm (bz_br (fun q2 => ?_) (fun q2 => ?_))⟩
  · rw [bz_f (fun z => by omega)] at h; exact h
  · rw [bz_f (fun z => q2 z.2)] at h; exact h
  · rw [bz_t ⟨by omega, q2⟩] at h; exact h
theorem l_X4_know {E : zE} {Q : Int → zM → Prop} (o : Nat) (ho : zob o 4) (n : Nat) (hn : n ≤ 12) (M0 : zM) (h5 : zg M0 o 5 = (n : Int)) (h : ∀ M2 : zM, FrK (o + 15) M0 M2 → KnA M2 (o + 15) n (fun p => 2 ^ p) → Q 0 M2) : ∀ (x i : Nat) (M : zM), i + x = n → FrK (o + 15) M0 M → KnA M (o + 15) i (fun p => 2 ^ p) → wp E 4 cX4_knowOneself (none) Q 2 [some (.ref o), some (zI (i : Int))] [] M
  | 0, i, M, e, f, g => by
    refine v_X4_knowOneself_2 o _ ho ?_
    rw [zw_of (a := (i : Int)) (by omega) (by omega), f.1 o 5 (by omega), h5]
    refine ⟨fun z => absurd z (by omega), fun _ => h M f ?_⟩
    rw [show n = i by omega]; exact g
  | x + 1, i, M, e, f, g => by
    refine v_X4_knowOneself_2 o _ ho ?_
    rw [zw_of (a := (i : Int)) (by omega) (by omega), f.1 o 5 (by omega), h5, show ((i : Int)).toNat = i by omega, zb_shl (by omega), show (i : Int) + 1 = ((i + 1 : Nat) : Int) by omega]
    refine ⟨fun _ => ⟨by omega, by omega, ?_⟩, fun z => absurd (by omega) z⟩
    rintro _ rfl
    refine l_X4_know o ho n hn M0 h5 h x (i + 1) _ (by omega) (FrK_tr f (FrK_zs _ _ _ _)) (fun p hp => ?_)
    have t := tp_12 (p := i) (by omega)
    by_cases q : p = i
    · subst q; rw [zg_zs1]; exact zw_n (by omega)
    · rw [zg_zsj _ _ _ _ q]; exact g p (by omega)
theorem c_X4_knowOneself {d : Nat} {M : zM} {Q : Int → zM → Prop} (hd : 1 ≤ d) (o : Nat) (ho : zob o 4) (n : Nat) (hn : n ≤ 12) (h5 : zg M o 5 = (n : Int)) (h : ∀ M2 : zM, FrK (o + 15) M M2 → KnA M2 (o + 15) n (fun p => 2 ^ p) → Q 0 M2) : Ev d mX4_knowOneself [.ref o] M Q := by
  obtain ⟨d, rfl, -⟩ := e_of 0 hd
  exact e_X4_knowOneself o (v_X4_knowOneself_0 o ho (l_X4_know o ho n hn M h5 h n 0 M (by omega) (FrK_rf _ _) (fun p hp => absurd hp (by omega))))
theorem c_X4_greet {d : Nat} {M : zM} {Q : Int → zM → Prop} (hd : 1 ≤ d) (o n k : Nat) (V : zV) (ho : zob o 4) (hV : Vok n k V) (hC : CV o n k V M) (m : Nat) (hm : m < k) (K : Nat → Nat) (hK : KnA M (o + 15) n K) (hb : ∀ p, p < n → K p < 4096) (h : ∀ M2 : zM, FrK (o + 15) M M2 → KnA M2 (o + 15) n (ks V m K) → Q 0 M2) : Ev d mX4_greet [.ref o, zI (m : Int)] M Q := by
  obtain ⟨d, rfl, hdd⟩ := e_of 0 hd; replace hd := hdd
  obtain ⟨v1, v2, v3, v4, -⟩ := hV
  obtain ⟨c1, c2, c3, c4, c5, -⟩ := hC
  have g := v4 m hm
  obtain ⟨g1, g2, g3, -⟩ := c5 m hm
  obtain ⟨a, ha⟩ : ∃ a : Nat, V 3 m = (a : Int) := ⟨(V 3 m).toNat, by omega⟩
  obtain ⟨b, hb2⟩ : ∃ b : Nat, V 4 m = (b : Int) := ⟨(V 4 m).toNat, by omega⟩
  have ta : ((a : Int)).toNat = a := by omega
  have tb : ((b : Int)).toNat = b := by omega
  have ka := hK a (by omega)
  have kb := hK b (by omega)
  have la := hb a (by omega)
  have lb := hb b (by omega)
  have pa := tp_12 (p := a) (by omega)
  have pb := tp_12 (p := b) (by omega)
  have wa : zw (a : Int) = (a : Int) := zw_of (by omega) (by omega)
  have wb : zw (b : Int) = (b : Int) := zw_of (by omega) (by omega)
  have kse : ∀ p, ks V m K p = if p = a then K p ||| (if V 9 2 = 1 then K b else 2 ^ b) else if p = b then K p ||| (if V 9 2 = 1 then K a else 2 ^ a) else K p := by
    intro p; unfold ks; rw [ha, hb2, ta, tb]
  have fin : ∀ (x y : Nat), x < 4096 → y < 4096 → (∀ p, p < n → ks V m K p = if p = a then x else if p = b then y else K p) → Q 0 (zs (zs M (o + 15) a (x : Int)) (o + 15) b (y : Int)) := by
    intro x y hx hy e
    refine h _ (FrK_tr (FrK_zs _ _ _ _) (FrK_zs _ _ _ _)) (fun p hp => ?_)
    rw [e p hp]
    by_cases q1 : p = b
    · subst q1; rw [zg_zs1, if_neg (by omega), if_pos rfl]; exact zw_of (by omega) (by omega)
    · rw [zg_zsj _ _ _ _ q1, if_neg q1]
      by_cases q2 : p = a
      · subst q2; rw [zg_zs1, if_pos rfl]; exact zw_of (by omega) (by omega)
      · rw [zg_zsj _ _ _ _ q2, if_neg q2]; exact hK p hp
  refine e_X4_greet o _ (v_X4_greet_0 o _ ho ?_)
  rw [zw_of (a := (m : Int)) (by omega) (by omega), show ((m : Int)).toNat = m by omega, g1, g2, ha, hb2, ta, tb, ka, kb, c3, zb_shl (p := b) (by omega)]
  refine ⟨by omega, by omega, by omega, by omega, by omega, by omega, by omega, by omega, fun q => v_X4_greet_53 o _ _ _ _ _ _ _ ho ?_, fun q => v_X4_greet_53 o _ _ _ _ _ _ _ ho ?_⟩
  · rw [wa, wb, ta, tb, zb_or (by omega) (by omega)]
    refine ⟨by omega, by omega, ?_⟩
    rintro _ rfl
    rw [zg_zsi _ _ _ _ (by omega), c3, zb_or (by omega) (by omega)]
    refine ⟨fun _ => ⟨by omega, by omega, ?_⟩, fun z => absurd q z⟩
    rintro _ rfl
    refine fin (K a ||| K b) (K b ||| K a) (or_12 la lb) (or_12 lb la) (fun p hp => ?_)
    rw [kse, if_pos q, if_pos q]
    by_cases q1 : p = a
    · subst q1; (repeat rw [if_pos rfl])
    · rw [if_neg q1, if_neg q1]
      by_cases q2 : p = b
      · subst q2; (repeat rw [if_pos rfl])
      · rw [if_neg q2, if_neg q2]
  · rw [wa, wb, ta, tb, zb_or (by omega) (by omega)]
    refine ⟨by omega, by omega, ?_⟩
    rintro _ rfl
    rw [zg_zsi _ _ _ _ (by omega), c3, zb_shl (p := a) (by omega), zb_or (a := K b) (b := 2 ^ a) (by omega) (by omega)]
    refine ⟨fun z => absurd z q, fun _ => ⟨by omega, by omega, ?_⟩⟩
    rintro _ rfl
    refine fin (K a ||| 2 ^ b) (K b ||| 2 ^ a) (or_12 la pb) (or_12 lb pa) (fun p hp => ?_)
    rw [kse, if_neg q, if_neg q]
    by_cases q1 : p = a
    · subst q1; (repeat rw [if_pos rfl])
    · rw [if_neg q1, if_neg q1]
      by_cases q2 : p = b
      · subst q2; (repeat rw [if_pos rfl])
      · rw [if_neg q2, if_neg q2]
theorem okB_0 (V : zV) (y : Int) (m : Nat) : okB V y 0 m = decide (V 5 m ≤ y ∧ cnt V m) := by
  unfold okB; rw [Nat.zero_testBit]; simp
theorem l_X4_learn {d : Nat} {Q : Int → zM → Prop} (hd : 3 ≤ d) (o n k : Nat) (V : zV) (ho : zob o 4) (ho2 : o = 192 ∨ o = 256) (hV : Vok n k V) (y : Int) (hy : zw y = y) (M0 : zM) (h : ∀ M2 : zM, FrK (o + 15) M0 M2 → KnA M2 (o + 15) n (kup V (okB V y 0) k) → Q 0 M2) : ∀ (x j : Nat) (M : zM), j + x = k → FrK (o + 15) M0 M → CV o n k V M → KnA M (o + 15) n (kup V (okB V y 0) j) → wp (Ev d) 4 cX4_learnUpTo (none) Q 6 [some (.ref o), some (zI y), some (zI (j : Int))] [] M
  | 0, j, M, e, f, hC, g => by
    have hk := hV.2.1
    refine v_X4_learnUpTo_6 o _ _ ho ?_
    rw [zw_of (a := (j : Int)) (by omega) (by omega), hC.2.1]
    refine ⟨fun z => absurd z (by omega), fun _ => h M f ?_⟩
    have ej : j = k := by omega
    rw [ej] at g; exact g
  | x + 1, j, M, e, f, hC, g => by
    have hk := hV.2.1
    have g6 := hV.2.2.2.2.1 j (by omega)
    obtain ⟨m, hm⟩ : ∃ m : Nat, V 6 j = (m : Int) := ⟨(V 6 j).toNat, by omega⟩
    have tm : ((m : Int)).toNat = m := by omega
    have ke : ∀ p, kup V (okB V y 0) (j + 1) p = if okB V y 0 m = true then ks V m (kup V (okB V y 0) j) p else kup V (okB V y 0) j p := by
      intro p; rw [kup, hm, tm]
    refine v_X4_learnUpTo_6 o _ _ ho ?_
    rw [zw_of (a := (j : Int)) (by omega) (by omega), hC.2.1, show ((j : Int)).toNat = j by omega, (hC.2.2.2.2.1 j (by omega)).2.2.2, hm, show (j : Int) + 1 = ((j + 1 : Nat) : Int) by omega]
    refine ⟨fun _ => ⟨by omega, by omega, c_X4_countsBy hd o n k V ho hV hC m (by omega) y hy (bz_br (fun q => ?_) (fun q => ⟨by omega, by omega, ?_⟩))⟩, fun z => absurd (by omega) z⟩
    · refine l_X4_learn hd o n k V ho ho2 hV y hy M0 h x (j + 1) M (by omega) f hC (fun p hp => ?_)
      rw [ke, if_neg (by rw [okB_0]; simp [q])]; exact g p hp
    · rw [(hC.2.2.2.2.1 j (by omega)).2.2.2, hm]
      refine c_X4_greet (by omega) o n k V ho hV hC m (by omega) _ g (kup_lt hV j (by omega)) (fun M2 a1 a2 => ?_)
      refine l_X4_learn hd o n k V ho ho2 hV y hy M0 h x (j + 1) M2 (by omega) (FrK_tr f a1) (CV_C ho2 (FrK_C ho2 a1) hC) (fun p hp => ?_)
      rw [ke, if_pos (by rw [okB_0]; simp [q])]; exact a2 p hp
theorem c_X4_learnUpTo {d : Nat} {M : zM} {Q : Int → zM → Prop} (hd : 4 ≤ d) (o n k : Nat) (V : zV) (ho : zob o 4) (ho2 : o = 192 ∨ o = 256) (hV : Vok n k V) (hC : CV o n k V M) (y : Int) (hy : zw y = y) (h : ∀ M2 : zM, FrK (o + 15) M M2 → KnA M2 (o + 15) n (kup V (okB V y 0) k) → Q 0 M2) : Ev d mX4_learnUpTo [.ref o, zI y] M Q := by
  obtain ⟨d, rfl, hdd⟩ := e_of 3 hd; replace hd := hdd
  refine e_X4_learnUpTo o y (v_X4_learnUpTo_0 o y ho (c_X4_knowOneself (by omega) o ho n hV.1 hC.1 (fun M2 a1 a2 => ?_)))
  exact l_X4_learn hd o n k V ho ho2 hV y hy M h k 0 M2 (by omega) a1 (CV_C ho2 (FrK_C ho2 a1) hC) a2
