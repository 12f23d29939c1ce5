/-! apart: sets as bits -/
theorem tb_s (x i : Nat) : x.testBit (i + 1) = (x / 2).testBit i := by rw [Nat.testBit_add_one]
theorem tb_0 (x : Nat) : x.testBit 0 = decide (x % 2 = 1) := Nat.testBit_zero x
def pc2 : Nat → Nat → Nat
  | 0, _ => 0
  | f + 1, v => v % 2 + pc2 f (v / 2)
theorem pc2_z : ∀ f, pc2 f 0 = 0
  | 0 => rfl
  | f + 1 => by rw [pc2, Nat.zero_div, pc2_z f]
theorem pc2_le : ∀ f v, pc2 f v ≤ f
  | 0, _ => Nat.le_refl _
  | f + 1, v => by
    have := pc2_le f (v / 2)
    rw [pc2]; omega
theorem lt_half {v n : Nat} (h : v < 2 ^ (n + 1)) : v / 2 < 2 ^ n := by
  have := tp_s n
  omega
/-- setting a bit that isn't set -/
theorem pc2_set : ∀ (f m v : Nat), m < f → v.testBit m = false → pc2 f (v ||| 2 ^ m) = pc2 f v + 1
  | 0, m, _, h, _ => absurd h (by omega)
  | f + 1, 0, v, _, h => by
    rw [tb_0] at h
    have h2 : v % 2 = 0 := by
      have := of_decide_eq_false h
      omega
    have e1 : (v ||| 2 ^ 0) % 2 = 1 := by
      have := tb_0 (v ||| 2 ^ 0)
      rw [Nat.testBit_or] at this
      have e : (2 ^ 0 : Nat).testBit 0 = true := by decide
      rw [e, Bool.or_true] at this
      exact of_decide_eq_true this.symm
    have e2 : (v ||| 2 ^ 0) / 2 = v / 2 := Nat.eq_of_testBit_eq (fun i => by
      rw [← tb_s, Nat.testBit_or, ← tb_s]
      have e : (2 ^ 0 : Nat).testBit (i + 1) = false := by rw [Nat.testBit_two_pow]; simp
      rw [e, Bool.or_false])
    rw [pc2, pc2, e1, e2, h2]; omega
  | f + 1, m + 1, v, hm, h => by
    rw [tb_s] at h
    have e1 : (v ||| 2 ^ (m + 1)) % 2 = v % 2 := by
      have a := tb_0 (v ||| 2 ^ (m + 1))
      have b := tb_0 v
      rw [Nat.testBit_or, Nat.testBit_two_pow, b] at a
      have e : decide (m + 1 = 0) = false := by simp
      rw [e, Bool.or_false] at a
      have := decide_eq_decide.mp a
      omega
    have e2 : (v ||| 2 ^ (m + 1)) / 2 = v / 2 ||| 2 ^ m := Nat.eq_of_testBit_eq (fun i => by
      rw [← tb_s, Nat.testBit_or, Nat.testBit_or, ← tb_s, Nat.testBit_two_pow, Nat.testBit_two_pow]
      congr 1
      simp)
    rw [pc2, pc2, e1, e2, pc2_set f m (v / 2) (by omega) h]; omega
def sub (w s : Nat) : Prop := ∀ i, w.testBit i = true → s.testBit i = true
theorem sub_h {w s : Nat} (h : sub w s) : sub (w / 2) (s / 2) := fun i q => by
  rw [← tb_s] at q ⊢
  exact h (i + 1) q
theorem sub_0 {w s : Nat} (h : sub w s) : w % 2 ≤ s % 2 := by
  have a := h 0
  rw [tb_0, tb_0, decide_eq_true_iff, decide_eq_true_iff] at a
  omega
theorem pc2_mo : ∀ (f w s : Nat), sub w s → pc2 f w ≤ pc2 f s
  | 0, _, _, _ => Nat.le_refl _
  | f + 1, w, s, h => by
    have a := pc2_mo f _ _ (sub_h h)
    have b := sub_0 h
    rw [pc2, pc2]; omega
theorem pc2_eq : ∀ (f w s : Nat), w < 2 ^ f → s < 2 ^ f → sub w s → pc2 f w = pc2 f s → w = s
  | 0, w, s, h1, h2, _, _ => by simp at h1 h2; omega
  | f + 1, w, s, h1, h2, h, e => by
    have a := pc2_mo f _ _ (sub_h h)
    have b := sub_0 h
    rw [pc2, pc2] at e
    have c := pc2_eq f (w / 2) (s / 2) (lt_half h1) (lt_half h2) (sub_h h) (by omega)
    omega
theorem and_half (a b : Nat) : (a &&& b) / 2 = a / 2 &&& b / 2 := Nat.eq_of_testBit_eq (fun i => by
  rw [← tb_s, Nat.testBit_and, Nat.testBit_and, ← tb_s, ← tb_s])
theorem and_mod (a b : Nat) : (a &&& b) % 2 = if a % 2 = 1 ∧ b % 2 = 1 then 1 else 0 := by
  have e := tb_0 (a &&& b)
  rw [Nat.testBit_and, tb_0, tb_0] at e
  by_cases h : a % 2 = 1 ∧ b % 2 = 1
  · rw [if_pos h]
    rw [decide_eq_true h.1, decide_eq_true h.2] at e
    exact of_decide_eq_true e.symm
  · rw [if_neg h]
    have : (decide (a % 2 = 1) && decide (b % 2 = 1)) = false := by
      by_cases h1 : a % 2 = 1
      · have h2 : ¬ b % 2 = 1 := fun z => h ⟨h1, z⟩
        rw [decide_eq_false h2, Bool.and_false]
      · rw [decide_eq_false h1, Bool.false_and]
    rw [this] at e
    have := of_decide_eq_false e.symm
    omega
theorem pcv_0 : pcv 0 = 0 := rfl
/-- the two ways of counting bits -/
theorem pcv_pc2 : ∀ (f v : Nat), v < 2 ^ f → pcv v = pc2 f v := by
  intro f v
  induction v using Nat.strongRecOn generalizing f with
  | _ v ih =>
    intro hv
    by_cases h0 : v = 0
    · subst h0; rw [pcv_0, pc2_z]
    · match f with
      | 0 => simp at hv; omega
      | f + 1 =>
        have hh := lt_half hv
        have p := pcv_s h0
        have lv : v &&& (v - 1) < v := Nat.lt_of_le_of_lt Nat.and_le_right (by omega)
        have i1 := ih _ lv (f + 1) (by omega)
        rw [p, i1, pc2, pc2, and_half, and_mod]
        by_cases o : v % 2 = 1
        · have e1 : (v - 1) / 2 = v / 2 := by omega
          rw [if_neg (by omega), e1, Nat.and_self]; omega
        · have e1 : (v - 1) / 2 = v / 2 - 1 := by omega
          have u0 : v / 2 ≠ 0 := by omega
          have pu := pcv_s u0
          have lu : (v / 2) &&& (v / 2 - 1) < v / 2 := Nat.lt_of_le_of_lt Nat.and_le_right (by omega)
          have i2 := ih (v / 2) (by omega) f hh
          have i3 := ih _ (Nat.lt_trans lu (by omega)) f (by omega)
          rw [if_neg (by omega), e1]
          omega
theorem pcv_set {v m : Nat} (hv : v < 65536) (hm : m < 16) (h : v.testBit m = false) : pcv (v ||| 2 ^ m) = pcv v + 1 := by
  have l1 : (2 : Nat) ^ m < 2 ^ 16 := Nat.pow_lt_pow_right (by omega) hm
  have l2 : v ||| 2 ^ m < 2 ^ 16 := Nat.or_lt_two_pow hv l1
  rw [pcv_pc2 16 _ l2, pcv_pc2 16 v hv, pc2_set 16 m v hm h]
theorem pcv_mo {w s : Nat} (hw : w < 65536) (hs : s < 65536) (h : sub w s) : pcv w ≤ pcv s := by
  rw [pcv_pc2 16 w hw, pcv_pc2 16 s hs]; exact pc2_mo 16 w s h
theorem pcv_eq {w s : Nat} (hw : w < 65536) (hs : s < 65536) (h : sub w s) (e : pcv w = pcv s) : w = s := by
  rw [pcv_pc2 16 w hw, pcv_pc2 16 s hs] at e; exact pc2_eq 16 w s hw hs h e
theorem pcv_16 {v : Nat} (hv : v < 65536) : pcv v ≤ 16 := by rw [pcv_pc2 16 v hv]; exact pc2_le 16 v
/-- at least as good: fewer, or as many and no larger -/
def leS (c1 b1 c2 b2 : Nat) : Prop := c1 < c2 ∨ (c1 = c2 ∧ b1 ≤ b2)
theorem leS_tr {c1 b1 c2 b2 c3 b3 : Nat} (h : leS c1 b1 c2 b2) (g : leS c2 b2 c3 b3) : leS c1 b1 c3 b3 := by unfold leS at *; omega
theorem leS_rf (c b : Nat) : leS c b c b := by unfold leS; omega
/-! the chain of meetings by which one came to know another -/
theorem kup_self {V : zV} {ok : Nat → Bool} : ∀ (j p : Nat), (kup V ok j p).testBit p = true
  | 0, p => by rw [kup, Nat.testBit_two_pow]; simp
  | j + 1, p => by
    have ih := kup_self (V := V) (ok := ok) j p
    rw [kup]
    split
    · unfold ks
      split
      · rw [Nat.testBit_or, ih, Bool.true_or]
      · split
        · rw [Nat.testBit_or, ih, Bool.true_or]
        · exact ih
    · exact ih
theorem kup_st {V : zV} {ok : Nat → Bool} (j p b : Nat) (h : (kup V ok j p).testBit b = true) : (kup V ok (j + 1) p).testBit b = true := by
  rw [kup]
  split
  · unfold ks
    split
    · rw [Nat.testBit_or, h, Bool.true_or]
    · split
      · rw [Nat.testBit_or, h, Bool.true_or]
      · exact h
  · exact h
theorem kup_mo {V : zV} {ok : Nat → Bool} (p b j : Nat) (h : (kup V ok j p).testBit b = true) : ∀ x, (kup V ok (j + x) p).testBit b = true
  | 0 => h
  | x + 1 => kup_st (j + x) p b (kup_mo p b j h x)
/-- the other one of a meeting -/
def othM (V : zV) (at1 m : Nat) : Nat := if V 3 m = (at1 : Int) then (V 4 m).toNat else (V 3 m).toNat
/-- each who knows another learnt it by a meeting that is noted -/
def LbP (n k : Nat) (V : zV) (ok : Nat → Bool) (Lf : Nat → Nat → Nat) (j : Nat) : Prop := ∀ a b : Nat, a < n → b < n → a ≠ b → (kup V ok j a).testBit b = true → ∃ i, i < j ∧ V 6 i = (Lf a b : Int) ∧ Lf a b < k ∧ ok (Lf a b) = true ∧ (V 3 (Lf a b) = (a : Int) ∨ V 4 (Lf a b) = (a : Int)) ∧ (kup V ok i a).testBit b = false ∧ (V 9 2 = 1 → (kup V ok i (othM V a (Lf a b))).testBit b = true) ∧ (¬ V 9 2 = 1 → othM V a (Lf a b) = b)
def chF (V : zV) (Lf : Nat → Nat → Nat) (b : Nat) : Nat → Nat → Nat
  | 0, _ => 0
  | x + 1, a => if a = b then 0 else 2 ^ (Lf a b) ||| chF V Lf b x (othM V a (Lf a b))
theorem oth_lt {n k : Nat} {V : zV} (hV : Vok n k V) {a m : Nat} (hm : m < k) : othM V a m < n := by
  have g := hV.2.2.2.1 m hm
  unfold othM
  split <;> omega
theorem ok_sub {V : zV} {y : Int} {w s m : Nat} (h : okB V y w m = true) (hs : s.testBit m = false) : okB V y s m = true := by
  unfold okB at h ⊢
  rw [Bool.and_eq_true] at h
  rw [h.1, hs]; rfl
/-- without meetings of the chain one doesn't know it otherwise -/
theorem ch_ok {n k : Nat} {V : zV} (hV : Vok n k V) {y : Int} {w : Nat} {Lf : Nat → Nat → Nat} (hL : LbP n k V (okB V y w) Lf k) {b : Nat} (hb : b < n) : ∀ (x a i : Nat), a < n → i ≤ x → i ≤ k → (kup V (okB V y w) i a).testBit b = true → ∀ s : Nat, (∀ m, (chF V Lf b x a).testBit m = true → s.testBit m = false) → (kup V (okB V y s) i a).testBit b = true := by
  intro x
  induction x with
  | zero =>
    intro a i ha hx hk h s _
    have e : i = 0 := by omega
    subst e
    exact h
  | succ x ih =>
    intro a i ha hx hk h s hs
    by_cases e : a = b
    · subst e; exact kup_self i a
    · have h2 : (kup V (okB V y w) k a).testBit b = true := by
        have := kup_mo (V := V) (ok := okB V y w) a b i h (k - i)
        rw [show i + (k - i) = k by omega] at this
        exact this
      obtain ⟨i2, j1, j2, j3, j4, j5, j6, j7, j8⟩ := hL a b ha hb e h2
      have hi : i2 < i := by
        by_cases q : i2 < i
        · exact q
        · have := kup_mo (V := V) (ok := okB V y w) a b i h (i2 - i)
          rw [show i + (i2 - i) = i2 by omega, j6] at this
          cases this
      have hs1 : s.testBit (Lf a b) = false := hs _ (by
        rw [chF, if_neg e, Nat.testBit_or, Nat.testBit_two_pow]; simp)
      have hs2 : ∀ m, (chF V Lf b x (othM V a (Lf a b))).testBit m = true → s.testBit m = false := fun m q => hs m (by
        rw [chF, if_neg e, Nat.testBit_or, q, Bool.or_true])
      have ok2 := ok_sub j4 hs1
      have g := hV.2.2.2.1 (Lf a b) j3
      have st : (kup V (okB V y s) (i2 + 1) a).testBit b = true := by
        rw [kup, j2, show (((Lf a b : Nat) : Int)).toNat = Lf a b by omega, if_pos ok2]
        unfold ks
        by_cases q1 : V 3 (Lf a b) = (a : Int)
        · have eo : othM V a (Lf a b) = (V 4 (Lf a b)).toNat := by unfold othM; rw [if_pos q1]
          rw [if_pos (by omega), Nat.testBit_or]
          by_cases q2 : V 9 2 = 1
          · rw [if_pos q2, ← eo, ih _ i2 (by rw [eo]; omega) (by omega) (by omega) (j7 q2) s hs2, Bool.or_true]
          · rw [if_neg q2, ← eo, j8 q2, Nat.testBit_two_pow]; simp
        · have q3 : V 4 (Lf a b) = (a : Int) := by omega
          have eo : othM V a (Lf a b) = (V 3 (Lf a b)).toNat := by unfold othM; rw [if_neg q1]
          rw [if_neg (by omega), if_pos (by omega), Nat.testBit_or]
          by_cases q2 : V 9 2 = 1
          · rw [if_pos q2, ← eo, ih _ i2 (by rw [eo]; omega) (by omega) (by omega) (j7 q2) s hs2, Bool.or_true]
          · rw [if_neg q2, ← eo, j8 q2, Nat.testBit_two_pow]; simp
      have := kup_mo (V := V) (ok := okB V y s) a b (i2 + 1) st (i - (i2 + 1))
      rw [show i2 + 1 + (i - (i2 + 1)) = i by omega] at this
      exact this
/-- the chain's meetings are such as count and were not taken away -/
theorem ch_in {n k : Nat} {V : zV} (hV : Vok n k V) {y : Int} {w : Nat} {Lf : Nat → Nat → Nat} (hL : LbP n k V (okB V y w) Lf k) {b : Nat} (hb : b < n) : ∀ (x a : Nat), a < n → (kup V (okB V y w) k a).testBit b = true → ∀ m, (chF V Lf b x a).testBit m = true → m < k ∧ okB V y w m = true := by
  intro x
  induction x with
  | zero => intro a _ _ m h; rw [chF, Nat.zero_testBit] at h; cases h
  | succ x ih =>
    intro a ha h m hm
    rw [chF] at hm
    by_cases e : a = b
    · rw [if_pos e, Nat.zero_testBit] at hm; cases hm
    · rw [if_neg e, Nat.testBit_or, Nat.testBit_two_pow, Bool.or_eq_true, decide_eq_true_iff] at hm
      obtain ⟨i2, j1, j2, j3, j4, j5, j6, j7, j8⟩ := hL a b ha hb e h
      rcases hm with hm | hm
      · subst hm; exact ⟨j3, j4⟩
      · refine ih _ (oth_lt hV j3) ?_ m hm
        by_cases q2 : V 9 2 = 1
        · have := kup_mo (V := V) (ok := okB V y w) _ b i2 (j7 q2) (k - i2)
          rw [show i2 + (k - i2) = k by omega] at this
          exact this
        · rw [j8 q2]; exact kup_self k b
theorem ch_ne {V : zV} {Lf : Nat → Nat → Nat} {b x a : Nat} (h : a ≠ b) : (chF V Lf b (x + 1) a).testBit (Lf a b) = true := by
  rw [chF, if_neg h, Nat.testBit_or, Nat.testBit_two_pow]; simp
