/-! the class notes who learnt by which meeting, and follows the chain -/
def FrJ (M M2 : zM) : Prop := (∀ i j, i ≠ 207 → i ≠ 387 → zg M2 i j = zg M i j) ∧ (∀ i j, zh M2 i j = zh M i j)
theorem FrJ_rf (M : zM) : FrJ M M := ⟨fun _ _ _ _ => rfl, fun _ _ => rfl⟩
theorem FrJ_tr {M M2 M3 : zM} (h : FrJ M M2) (g : FrJ M2 M3) : FrJ M M3 := ⟨fun i j a b => by rw [g.1 i j a b, h.1 i j a b], fun i j => by rw [g.2, h.2]⟩
theorem CV_J {n k : Nat} {V : zV} {M M2 : zM} (h : FrJ M M2) (g : CV 192 n k V M) : CV 192 n k V M2 := by
  have e : ∀ a j, a < 15 → zg M2 (192 + a) j = zg M (192 + a) j := fun a j ha => h.1 _ _ (by omega) (by omega)
  have e0 : ∀ j, zg M2 192 j = zg M 192 j := fun j => e 0 j (by omega)
  unfold CV
  simp only [e0, e 2 _ (by omega), e 3 _ (by omega), e 4 _ (by omega), e 7 _ (by omega), e 8 _ (by omega), e 9 _ (by omega), e 10 _ (by omega), e 13 _ (by omega), e 14 _ (by omega)]
  exact g
theorem shr_z {x p : Nat} : x >>> p = 0 ↔ ∀ i, p ≤ i → x.testBit i = false := by
  constructor
  · intro h i hi
    have := Nat.testBit_shiftRight (i := p) (j := i - p) x
    rw [h, Nat.zero_testBit, show p + (i - p) = i by omega] at this
    exact this.symm
  · intro h
    refine Nat.eq_of_testBit_eq (fun i => ?_)
    rw [Nat.testBit_shiftRight, Nat.zero_testBit]
    exact h _ (by omega)
theorem c_X5_noteLearnt {d : Nat} {M0 : zM} {Q : Int → zM → Prop} (hd : 1 ≤ d) (a X m : Nat) (ha : a < 12) (hX : X < 4096) (hm : m < 16) (h : ∀ M2 : zM, (∀ i j, i ≠ 387 → zg M2 i j = zg M0 i j) → (∀ i j, zh M2 i j = zh M0 i j) → (∀ c p : Nat, p < 12 → zg M2 387 (c * 12 + p) = if c = a ∧ X.testBit p = true then (m : Int) else zg M0 387 (c * 12 + p)) → Q 0 M2) : Ev d mX5_noteLearnt [.ref 384, zI (a : Int), zI (X : Int), zI (m : Int)] M0 Q := by
  obtain ⟨d, rfl, -⟩ := e_of 0 hd
  have l : ∀ (x i : Nat) (M : zM), i + x = 12 → (∀ i j, i ≠ 387 → zg M i j = zg M0 i j) → (∀ i j, zh M i j = zh M0 i j) → (∀ c p : Nat, p < 12 → zg M 387 (c * 12 + p) = if c = a ∧ X.testBit p = true ∧ p < i then (m : Int) else zg M0 387 (c * 12 + p)) → wp (Ev d) 5 cX5_noteLearnt none Q 3 [some (.ref 384), some (zI (a : Int)), some (zI (X : Int)), some (zI (m : Int)), some (zI (i : Int))] [] M := by
    intro x
    induction x with
    | zero =>
      intro i M e f1 f2 g
      refine v_X5_noteLearnt_3 _ _ _ _ ?_
      rw [zw_n (a := i) (by omega)]
      refine ⟨fun z => absurd z (by omega), fun _ => h M f1 f2 (fun c p hp => ?_)⟩
      rw [g c p hp]
      by_cases q : c = a ∧ X.testBit p = true
      · rw [if_pos q, if_pos ⟨q.1, q.2, by omega⟩]
      · rw [if_neg q, if_neg (fun z => q ⟨z.1, z.2.1⟩)]
    | succ x ih =>
      intro i M e f1 f2 g
      have ei : zw ((a : Int) * 12 + (i : Int)) = ((a * 12 + i : Nat) : Int) := by rw [zw_of (by omega) (by omega)]; omega
      refine v_X5_noteLearnt_3 _ _ _ _ ?_
      rw [zw_n (a := i) (by omega), zb_bit (by omega) (by omega), bz_1, zb_shr (by omega) (by omega), ei, show (((a * 12 + i : Nat) : Int)).toNat = a * 12 + i by omega, show (i : Int) + 1 = ((i + 1 : Nat) : Int) by omega]
      refine ⟨fun _ => ⟨fun q => h M f1 f2 (fun c p hp => ?_), fun q => ⟨fun q2 => ⟨by omega, by omega, ?_⟩, fun q2 => ?_⟩⟩, fun z => absurd (by omega) z⟩
      · have q3 := shr_z.mp (show X >>> i = 0 by omega)
        rw [g c p hp]
        by_cases q4 : c = a ∧ X.testBit p = true
        · have : p < i := by
            by_cases y : p < i
            · exact y
            · rw [q3 p (by omega)] at q4; cases q4.2
          rw [if_pos q4, if_pos ⟨q4.1, q4.2, this⟩]
        · rw [if_neg q4, if_neg (fun z => q4 ⟨z.1, z.2.1⟩)]
      · rintro _ rfl
        refine ih (i + 1) _ (by omega) (fun u v q3 => by rw [zg_zsi _ _ _ _ q3]; exact f1 u v q3) (fun u v => by rw [zh_zs]; exact f2 u v) (fun c p hp => ?_)
        by_cases q4 : c = a ∧ p = i
        · obtain ⟨rfl, rfl⟩ := q4
          rw [zg_zs1, if_pos ⟨rfl, q2, by omega⟩, zw_n (by omega)]
        · have ne : c * 12 + p ≠ a * 12 + i := fun z => q4 ⟨by omega, by omega⟩
          rw [zg_zsj _ _ _ _ ne, g c p hp]
          by_cases q5 : c = a ∧ X.testBit p = true ∧ p < i
          · rw [if_pos q5, if_pos ⟨q5.1, q5.2.1, by omega⟩]
          · rw [if_neg q5, if_neg (fun z => q5 ⟨z.1, z.2.1, by omega⟩)]
      · refine ih (i + 1) M (by omega) f1 f2 (fun c p hp => ?_)
        rw [g c p hp]
        by_cases q5 : c = a ∧ X.testBit p = true ∧ p < i
        · rw [if_pos q5, if_pos ⟨q5.1, q5.2.1, by omega⟩]
        · rw [if_neg q5, if_neg (fun z => by
            by_cases y : p = i
            · subst y; exact q2 z.2.1
            · exact q5 ⟨z.1, z.2.1, by omega⟩)]
  exact e_X5_noteLearnt _ _ _ (v_X5_noteLearnt_0 _ _ _ (l 12 0 M0 (by omega) (fun _ _ _ => rfl) (fun _ _ => rfl) (fun c p _ => by rw [if_neg (by omega)])))
theorem andn_lt2 {a b : Nat} (h : a < 4096) : andn a b < 4096 := andn_lt (n := 12) h
/-- a new bit is noted at its meeting -/
theorem c_X5_greetAndNote {d : Nat} {M : zM} {Q : Int → zM → Prop} (hd : 2 ≤ d) (n k : Nat) (V : zV) (hV : Vok n k V) (hC : CV 192 n k V M) (m : Nat) (hm : m < k) (K : Nat → Nat) (hK : KnA M 207 n K) (hb : ∀ p, p < n → K p < 4096) (h : ∀ M2 : zM, FrJ M M2 → KnA M2 207 n (ks V m K) → (∀ c p : Nat, c < n → p < 12 → zg M2 387 (c * 12 + p) = if (ks V m K c).testBit p = true ∧ (K c).testBit p = false then (m : Int) else zg M 387 (c * 12 + p)) → Q 0 M2) : Ev d mX5_greetAndNote [.ref 384, zI (m : Int)] M Q := by
  obtain ⟨d, rfl, hdd⟩ := e_of 1 hd; replace hd := hdd
  have hk := hV.2.1
  have hn := hV.1
  have g := hV.2.2.2.1 m hm
  obtain ⟨g1, g2, g3, -⟩ := hC.2.2.2.2.1 m hm
  obtain ⟨a, ha⟩ : ∃ a : Nat, V 3 m = (a : Int) := ⟨(V 3 m).toNat, by omega⟩
  obtain ⟨b, hb2⟩ : ∃ b : Nat, V 4 m = (b : Int) := ⟨(V 4 m).toNat, by omega⟩
  have ta : ((a : Int)).toNat = a := by omega
  have tb : ((b : Int)).toNat = b := by omega
  have kl := ks_lt hV hm hb
  have other : ∀ c, c ≠ a → c ≠ b → ks V m K c = K c := by
    intro c c1 c2
    unfold ks
    rw [ha, hb2, ta, tb, if_neg c1, if_neg c2]
  refine e_X5_greetAndNote _ (v_X5_greetAndNote_0 _ ?_)
  rw [zw_n (a := m) (by omega), show ((m : Int)).toNat = m by omega, show zg M 199 m = V 3 m from g1, show zg M 200 m = V 4 m from g2, ha, hb2, ta, tb, hK a (by omega), hK b (by omega)]
  refine ⟨by omega, by omega, by omega, by omega, by omega, by omega, by omega, by omega, c_X4_greet hd 192 n k V ob_192 hV hC m hm K hK hb (fun M2 f1 f2 => ?_)⟩
  have la := hb a (by omega)
  have lb := hb b (by omega)
  have la2 := kl a (by omega)
  have lb2 := kl b (by omega)
  rw [show zg M2 207 a = _ from f2 a (by omega), zb_andn (by omega) (by omega)]
  refine ⟨by omega, by omega, c_X5_noteLearnt hd a _ m (by omega) (andn_lt2 la2) (by omega) (fun M3 e1 e2 e3 => ?_)⟩
  rw [e1 207 b (by omega), show zg M2 207 b = _ from f2 b (by omega), zb_andn (by omega) (by omega)]
  refine ⟨by omega, by omega, c_X5_noteLearnt hd b _ m (by omega) (andn_lt2 lb2) (by omega) (fun M4 k1 k2 k3 => h M4 ⟨fun i j q1 q2 => by rw [k1 i j q2, e1 i j q2, f1.1 i j q1], fun i j => by rw [k2, e2, f1.2]⟩ (fun p hp => by rw [k1 _ _ (by omega), e1 _ _ (by omega)]; exact f2 p hp) (fun c p hc hp => ?_))⟩
  rw [k3 c p hp, e3 c p hp, andn_bit, andn_bit, f1.1 _ _ (by omega)]
  by_cases q : (ks V m K c).testBit p = true ∧ (K c).testBit p = false
  · rw [if_pos q]
    by_cases cb : c = b
    · subst cb
      rw [if_pos ⟨rfl, by rw [q.1, q.2]; rfl⟩]
    · rw [if_neg (fun z => cb z.1)]
      by_cases ca : c = a
      · subst ca
        rw [if_pos ⟨rfl, by rw [q.1, q.2]; rfl⟩]
      · rw [other c ca cb, q.2] at q
        exact absurd q.1 (by decide)
  · rw [if_neg q, if_neg, if_neg]
    · rintro ⟨rfl, z⟩
      rw [Bool.and_eq_true, Bool.not_eq_true'] at z
      exact q z
    · rintro ⟨rfl, z⟩
      rw [Bool.and_eq_true, Bool.not_eq_true'] at z
      exact q z
/-- the noted meetings of a memory -/
def LfM (M : zM) (a b : Nat) : Nat := (zg M 387 (a * 12 + b)).toNat
def NnA (M : zM) (n : Nat) (K : Nat → Nat) : Prop := ∀ a b : Nat, a < n → b < n → a ≠ b → (K a).testBit b = true → 0 ≤ zg M 387 (a * 12 + b)
theorem LbP_0 (n k : Nat) (V : zV) (ok : Nat → Bool) (Lf : Nat → Nat → Nat) : LbP n k V ok Lf 0 := by
  intro a b _ _ ne h
  rw [kup, Nat.testBit_two_pow, decide_eq_true_iff] at h
  exact absurd h ne
theorem LbP_no {n k : Nat} {V : zV} {ok : Nat → Bool} {Lf : Nat → Nat → Nat} {j : Nat} (h : LbP n k V ok Lf j) (q : ok (V 6 j).toNat = false) : LbP n k V ok Lf (j + 1) := by
  intro a b ha hb ne hh
  rw [kup, if_neg (by rw [q]; decide)] at hh
  obtain ⟨i, j1, r⟩ := h a b ha hb ne hh
  exact ⟨i, by omega, r⟩
theorem LbP_s {n k : Nat} {V : zV} (hV : Vok n k V) {ok : Nat → Bool} {Lf Lf2 : Nat → Nat → Nat} {j m : Nat} (h : LbP n k V ok Lf j) (hj : V 6 j = (m : Int)) (hm : m < k) (q : ok m = true) (e : ∀ c p : Nat, c < n → p < n → Lf2 c p = if (kup V ok (j + 1) c).testBit p = true ∧ (kup V ok j c).testBit p = false then m else Lf c p) : LbP n k V ok Lf2 (j + 1) := by
  intro a b ha hb ne hh
  have g := hV.2.2.2.1 m hm
  by_cases old : (kup V ok j a).testBit b = true
  · have e2 := e a b ha hb
    rw [if_neg (fun z => by rw [old] at z; cases z.2)] at e2
    obtain ⟨i, j1, r⟩ := h a b ha hb ne old
    rw [e2]
    exact ⟨i, by omega, r⟩
  · rw [Bool.not_eq_true] at old
    have e2 := e a b ha hb
    rw [if_pos ⟨hh, old⟩] at e2
    rw [e2]
    have hk2 := hh
    rw [kup, hj, show ((m : Int)).toNat = m by omega, if_pos q] at hk2
    unfold ks at hk2
    by_cases q1 : a = (V 3 m).toNat
    · have eo : othM V a m = (V 4 m).toNat := by unfold othM; rw [if_pos (by omega)]
      rw [if_pos q1, Nat.testBit_or, old, Bool.false_or] at hk2
      refine ⟨j, by omega, hj, hm, q, Or.inl (by omega), old, fun h1 => ?_, fun h1 => ?_⟩
      · rw [if_pos h1] at hk2; rw [eo]; exact hk2
      · rw [if_neg h1, Nat.testBit_two_pow, decide_eq_true_iff] at hk2; rw [eo]; exact hk2
    · rw [if_neg q1] at hk2
      by_cases q2 : a = (V 4 m).toNat
      · have eo : othM V a m = (V 3 m).toNat := by unfold othM; rw [if_neg (by omega)]
        rw [if_pos q2, Nat.testBit_or, old, Bool.false_or] at hk2
        refine ⟨j, by omega, hj, hm, q, Or.inr (by omega), old, fun h1 => ?_, fun h1 => ?_⟩
        · rw [if_pos h1] at hk2; rw [eo]; exact hk2
        · rw [if_neg h1, Nat.testBit_two_pow, decide_eq_true_iff] at hk2; rw [eo]; exact hk2
      · rw [if_neg q2, old] at hk2
        cases hk2
theorem c_X5_chainOf {d : Nat} {M : zM} {Q : Int → zM → Prop} (hd : 1 ≤ d) (n k : Nat) (V : zV) (hV : Vok n k V) (hC : CV 192 n k V M) (ok : Nat → Bool) (hL : LbP n k V ok (LfM M) k) (hN : NnA M n (kup V ok k)) (p b : Nat) (hp : p < n) (hb : b < n) (hk : (kup V ok k p).testBit b = true) (h : chF V (LfM M) b 16 p < 65536 → Q (chF V (LfM M) b 16 p : Int) M) : Ev d mX5_chainOf [.ref 384, zI (p : Int), zI (b : Int)] M Q := by
  obtain ⟨d, rfl, -⟩ := e_of 0 hd
  have k16 := hV.2.1
  have hn := hV.1
  have bd : ∀ (x a : Nat), a < n → (kup V ok k a).testBit b = true → chF V (LfM M) b x a < 65536 := by
    intro x
    induction x with
    | zero => intro a _ _; rw [chF]; decide
    | succ x ih =>
      intro a ha hh
      rw [chF]
      by_cases e : a = b
      · rw [if_pos e]; decide
      · rw [if_neg e]
        obtain ⟨i2, j1, j2, j3, j4, j5, j6, j7, j8⟩ := hL a b ha hb e hh
        refine Nat.or_lt_two_pow (n := 16) (Nat.pow_lt_pow_right (by omega) (by omega)) (ih _ (oth_lt hV j3) ?_)
        by_cases q2 : V 9 2 = 1
        · have := kup_mo (V := V) (ok := ok) _ b i2 (j7 q2) (k - i2)
          rw [show i2 + (k - i2) = k by omega] at this
          exact this
        · rw [j8 q2]; exact kup_self k b
  have l : ∀ (x a X i : Nat), i + x = 16 → a < n → X < 65536 → (kup V ok k a).testBit b = true → (X ||| chF V (LfM M) b x a < 65536 → Q ((X ||| chF V (LfM M) b x a : Nat) : Int) M) → wp (Ev d) 5 cX5_chainOf (some .int) Q 8 [some (.ref 384), none, some (zI (b : Int)), some (zI (X : Int)), some (zI (a : Int)), some (zI (i : Int)), none] [] M := by
    intro x
    induction x with
    | zero =>
      intro a X i e ha hX hh hq
      refine v_X5_chainOf_8 _ _ _ _ ?_
      rw [zw_n (a := i) (by omega), zw_n (a := X) (by omega)]
      refine ⟨fun z => absurd z (by omega), fun _ => ?_⟩
      rw [chF, Nat.or_zero] at hq
      exact hq hX
    | succ x ih =>
      intro a X i e ha hX hh hq
      have ei : zw ((a : Int) * 12 + (b : Int)) = ((a * 12 + b : Nat) : Int) := by rw [zw_of (by omega) (by omega)]; omega
      refine v_X5_chainOf_8 _ _ _ _ ?_
      rw [zw_n (a := i) (by omega), zw_n (a := X) (by omega), zw_n (a := a) (by omega), zw_n (a := b) (by omega), ei, show (((a * 12 + b : Nat) : Int)).toNat = a * 12 + b by omega]
      refine ⟨fun _ => ⟨fun q => ?_, fun q => ?_⟩, fun z => absurd (by omega) z⟩
      · have eb : a = b := by omega
        rw [chF, if_pos eb, Nat.or_zero] at hq
        exact hq hX
      · have ne : a ≠ b := by omega
        obtain ⟨i2, j1, j2, j3, j4, j5, j6, j7, j8⟩ := hL a b ha hb ne hh
        have nn := hN a b ha hb ne hh
        have em : zg M 387 (a * 12 + b) = (LfM M a b : Int) := by unfold LfM; omega
        have oo := oth_lt hV (a := a) j3
        have ho : (kup V ok k (othM V a (LfM M a b))).testBit b = true := by
          by_cases q2 : V 9 2 = 1
          · have := kup_mo (V := V) (ok := ok) _ b i2 (j7 q2) (k - i2)
            rw [show i2 + (k - i2) = k by omega] at this
            exact this
          · rw [j8 q2]; exact kup_self k b
        have t16 : (2 : Nat) ^ (LfM M a b) < 65536 := Nat.pow_lt_pow_right (a := 2) (n := 16) (by omega) (by omega)
        have gm := hV.2.2.2.1 (LfM M a b) j3
        obtain ⟨c1, c2, -⟩ := hC.2.2.2.2.1 (LfM M a b) j3
        rw [em, show (((LfM M a b : Nat) : Int)).toNat = LfM M a b by omega, show zg M 199 (LfM M a b) = V 3 (LfM M a b) from c1, show zg M 200 (LfM M a b) = V 4 (LfM M a b) from c2, zb_shl (by omega), zb_or (by omega) (by omega), show (i : Int) + 1 = ((i + 1 : Nat) : Int) by omega]
        rw [chF, if_neg ne, ← Nat.or_assoc] at hq
        have nx := ih (othM V a (LfM M a b)) (X ||| 2 ^ (LfM M a b)) (i + 1) (by omega) oo (Nat.or_lt_two_pow (n := 16) hX t16) ho hq
        refine ⟨by omega, by omega, by omega, by omega, fun y => ⟨by omega, by omega, ?_⟩, fun y => ⟨by omega, by omega, ?_⟩⟩
        · have eo : ((othM V a (LfM M a b) : Nat) : Int) = V 4 (LfM M a b) := by unfold othM; rw [if_pos y]; omega
          rw [eo] at nx; exact nx
        · have eo : ((othM V a (LfM M a b) : Nat) : Int) = V 3 (LfM M a b) := by unfold othM; rw [if_neg y]; omega
          rw [eo] at nx; exact nx
  refine e_X5_chainOf _ _ (v_X5_chainOf_0 _ _ (l 16 p 0 0 (by omega) hp (by omega) hk (fun _ => ?_)))
  rw [Nat.zero_or]
  exact h (bd 16 p hp hk)
