/-! never -/
def andn (a b : Nat) : Nat := a ^^^ (a &&& b)
theorem andn_bit (a b i : Nat) : (andn a b).testBit i = (a.testBit i && !b.testBit i) := by
  unfold andn
  rw [Nat.testBit_xor, Nat.testBit_and]
  cases a.testBit i <;> cases b.testBit i <;> rfl
theorem andn_lt {a b n : Nat} (h : a < 2 ^ n) : andn a b < 2 ^ n := by
  unfold andn
  exact Nat.xor_lt_two_pow h (Nat.lt_of_le_of_lt Nat.and_le_left h)
theorem zb_andn {a b : Nat} (ha : a < 2147483648) (hb : b < 2147483648) : z_and (a : Int) (z_xor (b : Int) (-1)) = ((andn a b : Nat) : Int) := by
  have e0 : Int32.ofInt (z_xor (b : Int) (-1)) = Int32.ofInt (b : Int) ^^^ Int32.ofInt (-1) := by unfold z_xor; exact Int32.ofInt_toInt _
  have e : ((Int32.ofInt (a : Int)) &&& (Int32.ofInt (b : Int) ^^^ Int32.ofInt (-1))).toBitVec.toNat = andn a b := by
    refine Nat.eq_of_testBit_eq (fun i => ?_)
    rw [andn_bit, BitVec.testBit_toNat]
    show ((Int32.ofInt (a : Int)).toBitVec &&& ((Int32.ofInt (b : Int)).toBitVec ^^^ (Int32.ofInt (-1)).toBitVec)).getLsbD i = _
    rw [BitVec.getLsbD_and, BitVec.getLsbD_xor, ← BitVec.testBit_toNat, ← BitVec.testBit_toNat, z_nat (by omega) (by omega), z_nat (by omega) (by omega), show (Int32.ofInt (-1)).toBitVec = BitVec.allOnes 32 by decide, BitVec.getLsbD_allOnes, show ((a : Int)).toNat = a by omega, show ((b : Int)).toNat = b by omega]
    by_cases h : i < 32
    · rw [decide_eq_true h]; cases a.testBit i <;> cases b.testBit i <;> rfl
    · have h1 : a.testBit i = false := Nat.testBit_lt_two_pow (Nat.lt_of_lt_of_le ha (show 2 ^ 31 ≤ 2 ^ i from Nat.pow_le_pow_right (by omega) (by omega)))
      rw [h1]; rfl
  have hl : andn a b < 2147483648 := andn_lt (n := 31) ha
  unfold z_and
  rw [e0, z_int (by rw [e]; exact hl), e]
/-- bits that come i by i, and within it r by r -/
def mix (G : Nat → Nat → Bool) (n b p : Nat) : Nat := bs (fun q => anyN (G q) (if q < p then b + 1 else b)) n
theorem mix_0 (G : Nat → Nat → Bool) (n b : Nat) : mix G n b 0 = bs (fun q => anyN (G q) b) n := bs_cg n (fun i hi => by rw [if_neg (by omega)])
theorem mix_n (G : Nat → Nat → Bool) (n b : Nat) : mix G n b n = bs (fun q => anyN (G q) (b + 1)) n := bs_cg n (fun i hi => by rw [if_pos hi])
theorem mix_keep {G : Nat → Nat → Bool} {n b p : Nat} (h : G p b = false) : mix G n b (p + 1) = mix G n b p := by
  refine bs_cg n (fun i hi => ?_)
  by_cases e : i = p
  · subst e
    rw [if_pos (by omega), if_neg (by omega), anyN, h, Bool.or_false]
  · by_cases e2 : i < p
    · rw [if_pos (by omega), if_pos e2]
    · rw [if_neg (by omega), if_neg e2]
theorem mix_set {G : Nat → Nat → Bool} {n b p : Nat} (hp : p < n) (h : G p b = true) : mix G n b (p + 1) = mix G n b p ||| 2 ^ p := by
  refine (bs_eq (fun i => ?_)).symm
  unfold mix
  rw [Nat.testBit_or, bs_bit, Nat.testBit_two_pow]
  by_cases e : i = p
  · subst e
    rw [if_pos (show i < i + 1 by omega), anyN, h]; simp [hp]
  · have e3 : ¬ p = i := fun z => e z.symm
    rw [decide_eq_false e3, Bool.or_false]
    by_cases e2 : i < p
    · rw [if_pos e2, if_pos (show i < p + 1 by omega)]
    · rw [if_neg e2, if_neg (show ¬ i < p + 1 by omega)]
def lvB (V : zV) (y : Int) (r : Nat) : Bool := decide (V 0 r ≤ y ∧ y < V 1 r)
theorem c_X4_livingIn {d : Nat} {M : zM} {Q : Int → zM → Prop} (hd : 2 ≤ d) (o n k : Nat) (V : zV) (ho : zob o 4) (hV : Vok n k V) (hC : CV o n k V M) (y : Int) (hy : zw y = y) (h : Q (bs (lvB V y) n : Int) M) : Ev d mX4_livingIn [.ref o, zI y] M Q := by
  obtain ⟨d, rfl, hdd⟩ := e_of 1 hd; replace hd := hdd
  have hn := hV.1
  obtain ⟨c1, c2, c3, c4, c5, c6⟩ := id hC
  have l : ∀ (x i : Nat), i + x = n → wp (Ev d) 4 cX4_livingIn (some .int) Q 4 [some (.ref o), some (zI y), some (zI ((bs (lvB V y) i : Nat) : Int)), some (zI (i : Int))] [] M := by
    intro x
    induction x with
    | zero =>
      intro i e
      have lt := bs_12 (P := lvB V y) (n := i) (by omega)
      refine v_X4_livingIn_4 o _ _ _ ho ?_
      rw [zw_n (a := i) (by omega), c1, zw_n (a := bs (lvB V y) i) (by omega)]
      refine ⟨fun z => absurd z (by omega), fun _ => ?_⟩
      rw [show i = n by omega]; exact h
    | succ x ih =>
      intro i e
      have lt := bs_12 (P := lvB V y) (n := i) (by omega)
      have ti := tp_12 (p := i) (by omega)
      have nx := ih (i + 1) (by omega)
      have wi : zw (i : Int) = (i : Int) := zw_n (by omega)
      refine v_X4_livingIn_4 o _ _ _ ho ?_
      rw [wi, c1, zb_shl (by omega), zb_or (by omega) (by omega), show (i : Int) + 1 = ((i + 1 : Nat) : Int) by omega]
      rw [bs] at nx
      refine ⟨fun _ => c_X4_lives hd o ho _ _ (by omega) (by omega) ?_, fun z => absurd (by omega) z⟩
      rw [wi, show ((i : Int)).toNat = i by omega, (c4 i (by omega)).1, (c4 i (by omega)).2.1, hy]
      refine bz_br (fun q => ?_) (fun q => ?_)
      · rw [if_neg (by unfold lvB; rw [decide_eq_true_iff]; exact q)] at nx; exact nx
      · rw [if_pos (by unfold lvB; rw [decide_eq_true_iff]; exact q)] at nx; exact nx
  exact e_X4_livingIn o _ (v_X4_livingIn_0 o _ ho (l n 0 (by omega)))
/-- r by the later one at place j; r by the later one q -/
def nvC (V : zV) (W : Nat → Int) (p pl r j : Nat) : Bool := (decide (pl < j) && decide (V 2 (W j).toNat = V 2 p)) && (decide (r ≠ (W j).toNat) && lvB V (V 0 (W j).toNat) r)
def nvR (V : zV) (p r q : Nat) : Bool := (decide (q ≠ p) && decide (V 2 q = V 2 p) && ahB (V 0) p q) && (decide (r ≠ p) && decide (r ≠ q) && lvB V (V 0 q) r)
theorem nv_eq {n : Nat} {V : zV} {W : Nat → Int} (hO : Ook n (V 0) W) {p pl : Nat} (hpl : pl < n) (hp : W pl = (p : Int)) (r : Nat) : (decide (r ≠ p) && anyN (nvC V W p pl r) n) = anyN (nvR V p r) n := by
  rw [Bool.eq_iff_iff, Bool.and_eq_true, decide_eq_true_iff, anyN_iff, anyN_iff]
  constructor
  · rintro ⟨h1, j, h2, h3⟩
    have b := hO.1 j h2
    obtain ⟨q, hq⟩ : ∃ q : Nat, W j = (q : Int) := ⟨(W j).toNat, by omega⟩
    have tq : ((q : Int)).toNat = q := by omega
    unfold nvC at h3
    rw [hq, tq] at h3
    simp only [Bool.and_eq_true, decide_eq_true_eq] at h3
    refine ⟨q, by omega, ?_⟩
    unfold nvR
    simp only [Bool.and_eq_true, decide_eq_true_eq]
    refine ⟨⟨⟨fun z => ?_, h3.1.2⟩, (ah_k hO hpl h2 hp hq).mpr h3.1.1⟩, ⟨h1, h3.2.1⟩, h3.2.2⟩
    subst z
    have := pos_u hO hpl h2 hp hq
    omega
  · rintro ⟨q, h2, h3⟩
    obtain ⟨j, j1, j2⟩ := hO.2.2 q h2
    unfold nvR at h3
    simp only [Bool.and_eq_true, decide_eq_true_eq] at h3
    have tq : ((q : Int)).toNat = q := by omega
    refine ⟨h3.2.1.1, j, j1, ?_⟩
    unfold nvC
    rw [j2, tq]
    simp only [Bool.and_eq_true, decide_eq_true_eq]
    exact ⟨⟨(ah_k hO hpl j1 hp j2).mp h3.1.2, h3.1.1.2⟩, h3.2.1.2, h3.2.2⟩
theorem l_X7_never {d : Nat} {M : zM} {Q : Int → zM → Prop} (hd : 2 ≤ d) (n k : Nat) (V : zV) (hV : Vok n k V) (hC : CV 192 n k V M) (W : Nat → Int) (hO : Ook n (V 0) W) (hW : ∀ j : Nat, j < n → zg M 197 j = W j) (p pl : Nat) (hpl : pl < n) (hp : W pl = (p : Int)) (h : Q (bs (fun r => anyN (nvR V p r) n) n : Int) M) : ∀ (x j : Nat), j + x = n → pl < j → wp (Ev d) 7 cX7_never (some .int) Q 41 [some (.ref 64), some (zI (p : Int)), some (zI ((bs (fun r => anyN (nvC V W p pl r) j) n : Nat) : Int)), some (zI (j : Int)), none] [] M
  | 0, j, e, hj => by
    have hn := hV.1
    have pb := hO.1 pl hpl
    have lt := bs_12 (P := fun r => anyN (nvC V W p pl r) j) hn
    have tp := tp_12 (p := p) (by omega)
    refine v_X7_never_41 _ _ _ ?_
    rw [zw_n (a := j) (by omega), hC.1, zb_shl (p := p) (by omega), zb_andn (by omega) (by omega)]
    refine ⟨fun z => absurd z (by omega), fun _ => ?_⟩
    have e2 : andn (bs (fun r => anyN (nvC V W p pl r) j) n) (2 ^ p) = bs (fun r => anyN (nvR V p r) n) n := by
      refine bs_eq (fun i => ?_)
      rw [andn_bit, bs_bit, Nat.testBit_two_pow, ← nv_eq hO hpl hp i, show j = n by omega]
      by_cases q : i = p
      · subst q; simp
      · have q2 : ¬ p = i := fun z => q z.symm
        simp [q, q2]
    rw [e2]; exact h
  | x + 1, j, e, hj => by
    have hn := hV.1
    have pb := hO.1 pl hpl
    have jb := hO.1 j (by omega)
    obtain ⟨q, hq⟩ : ∃ q : Nat, W j = (q : Int) := ⟨(W j).toNat, by omega⟩
    have tq : ((q : Int)).toNat = q := by omega
    have lt := bs_12 (P := fun r => anyN (nvC V W p pl r) j) hn
    have t2 := tp_12 (p := q) (by omega)
    obtain ⟨c1, c2, c3, c4, c5, c6⟩ := id hC
    have bq := hV.2.2.1 q (by omega)
    have nx := l_X7_never hd n k V hV hC W hO hW p pl hpl hp h x (j + 1) (by omega) (by omega)
    refine v_X7_never_41 _ _ _ ?_
    rw [zw_n (a := j) (by omega), c1, show ((j : Int)).toNat = j by omega, hW j (by omega), hq, tq, zw_n (a := p) (by omega), show ((p : Int)).toNat = p by omega, (c4 q (by omega)).2.2, (c4 p (by omega)).2.2, (c4 q (by omega)).1, zb_shl (p := q) (by omega), show (j : Int) + 1 = ((j + 1 : Nat) : Int) by omega]
    refine ⟨fun _ => ⟨by omega, by omega, by omega, by omega, by omega, by omega, fun g => ⟨by omega, by omega, ?_⟩, fun g => ?_⟩, fun z => absurd (by omega) z⟩
    · refine c_X4_livingIn hd 192 n k V ob_192 hV hC (V 0 q) (zw_of (by omega) (by omega)) ?_
      have l2 := bs_12 (P := lvB V (V 0 q)) hn
      have l3 : andn (bs (lvB V (V 0 q)) n) (2 ^ q) < 4096 := andn_lt (n := 12) l2
      rw [zb_andn (by omega) (by omega), zb_or (by omega) (by omega)]
      have e2 : bs (fun r => anyN (nvC V W p pl r) j) n ||| andn (bs (lvB V (V 0 q)) n) (2 ^ q) = bs (fun r => anyN (nvC V W p pl r) (j + 1)) n := by
        refine bs_eq (fun i => ?_)
        rw [Nat.testBit_or, andn_bit, bs_bit, bs_bit, Nat.testBit_two_pow, anyN]
        have e3 : nvC V W p pl i j = (decide (i ≠ q) && lvB V (V 0 q) i) := by
          unfold nvC; rw [hq, tq, decide_eq_true hj, decide_eq_true g]; rfl
        rw [e3]
        by_cases y1 : i = q
        · subst y1; simp
        · have y2 : ¬ q = i := fun z => y1 z.symm
          by_cases y3 : i < n
          · simp [y1, y2, y3]
          · simp [y3]
      rw [e2]; exact nx
    · have e2 : bs (fun r => anyN (nvC V W p pl r) (j + 1)) n = bs (fun r => anyN (nvC V W p pl r) j) n := bs_cg n (fun i _ => by
        rw [anyN]
        have : nvC V W p pl i j = false := by unfold nvC; rw [hq, tq, decide_eq_false g, Bool.and_false, Bool.false_and]
        rw [this, Bool.or_false])
      rw [e2] at nx; exact nx
theorem l_X8_never66 {d : Nat} {M : zM} {Q : Int → zM → Prop} (hd : 1 ≤ d) (n k : Nat) (V : zV) (hV : Vok n k V) (n1 : zg M 1280 1 = (n : Int)) (hB : ∀ p : Nat, p < n → zg M 1283 p = V 0 p ∧ zg M 1284 p = V 1 p ∧ zg M 1285 p = V 2 p) (p q : Nat) (hp : p < n) (hq : q < n) (hok : (decide (q ≠ p) && decide (V 2 q = V 2 p) && ahB (V 0) p q) = true) (h : wp (Ev d) 8 cX8_never (some .int) Q 14 [some (.ref 1280), some (zI (p : Int)), some (zI ((bs (fun r => anyN (nvR V p r) (q + 1)) n : Nat) : Int)), some (zI ((q + 1 : Nat) : Int)), none] [] M) : ∀ (x r : Nat), r + x = n → wp (Ev d) 8 cX8_never (some .int) Q 66 [some (.ref 1280), some (zI (p : Int)), some (zI ((mix (nvR V p) n q r : Nat) : Int)), some (zI (q : Int)), some (zI (r : Int))] [] M
  | 0, r, e => by
    have hn := hV.1
    refine v_X8_never_66 _ _ _ _ ?_
    rw [zw_n (a := r) (by omega), n1, show r = n by omega, mix_n, show (q : Int) + 1 = ((q + 1 : Nat) : Int) by omega]
    exact ⟨fun z => absurd z (by omega), fun _ => h⟩
  | x + 1, r, e => by
    have hn := hV.1
    have nx := l_X8_never66 hd n k V hV n1 hB p q hp hq hok h x (r + 1) (by omega)
    have lt : mix (nvR V p) n q r < 4096 := bs_12 hn
    have tr := tp_12 (p := r) (by omega)
    have wr : zw (r : Int) = (r : Int) := zw_n (by omega)
    have bq := hV.2.2.1 q hq
    have keep : nvR V p r q = false → wp (Ev d) 8 cX8_never (some .int) Q 66 [some (.ref 1280), some (zI (p : Int)), some (zI ((mix (nvR V p) n q r : Nat) : Int)), some (zI (q : Int)), some (zI ((r : Int) + 1))] [] M := by
      intro g
      rw [mix_keep g] at nx
      exact nx
    have ev : nvR V p r q = (decide (r ≠ p) && decide (r ≠ q) && lvB V (V 0 q) r) := by unfold nvR; rw [hok, Bool.true_and]
    refine v_X8_never_66 _ _ _ _ ?_
    rw [wr, n1, zw_n (a := p) (by omega), zw_n (a := q) (by omega), show ((q : Int)).toNat = q by omega, (hB q hq).1, zb_shl (by omega), zb_or (by omega) (by omega)]
    refine ⟨fun _ => ⟨fun g => keep ?_, fun g => ⟨fun g2 => keep ?_, fun g2 => ⟨by omega, by omega, c_X8_lives hd _ _ (by omega) (by omega) ?_⟩⟩⟩, fun z => absurd (by omega) z⟩
    · rw [ev, decide_eq_false (show ¬ r ≠ p by omega)]; rfl
    · rw [ev, decide_eq_false (show ¬ r ≠ q by omega), Bool.and_false]; rfl
    · rw [wr, show ((r : Int)).toNat = r by omega, (hB r (by omega)).1, (hB r (by omega)).2.1, zw_of (a := V 0 q) (by omega) (by omega)]
      refine bz_br (fun g3 => keep ?_) (fun g3 => ?_)
      · rw [ev]; unfold lvB; rw [decide_eq_false g3, Bool.and_false]
      · rw [mix_set (by omega) (by rw [ev]; unfold lvB; rw [decide_eq_true g3, decide_eq_true (show r ≠ p by omega), decide_eq_true (show r ≠ q by omega)]; rfl)] at nx
        exact nx
theorem l_X8_never {d : Nat} {M : zM} {Q : Int → zM → Prop} (hd : 1 ≤ d) (n k : Nat) (V : zV) (hV : Vok n k V) (n1 : zg M 1280 1 = (n : Int)) (hB : ∀ p : Nat, p < n → zg M 1283 p = V 0 p ∧ zg M 1284 p = V 1 p ∧ zg M 1285 p = V 2 p) (p : Nat) (hp : p < n) (h : Q (if V 2 p < 0 then 0 else (bs (fun r => anyN (nvR V p r) n) n : Int)) M) : ∀ (x q : Nat), q + x = n → wp (Ev d) 8 cX8_never (some .int) Q 14 [some (.ref 1280), some (zI (p : Int)), some (zI (if V 2 p < 0 then 0 else ((bs (fun r => anyN (nvR V p r) q) n : Nat) : Int))), some (zI (q : Int)), none] [] M
  | 0, q, e => by
    have hn := hV.1
    have lt := bs_12 (P := fun r => anyN (nvR V p r) q) hn
    refine v_X8_never_14 _ _ _ ?_
    have w : zw (if V 2 p < 0 then 0 else ((bs (fun r => anyN (nvR V p r) q) n : Nat) : Int)) = (if V 2 p < 0 then 0 else ((bs (fun r => anyN (nvR V p r) q) n : Nat) : Int)) := by
      split
      · decide
      · exact zw_n (by omega)
    rw [zw_n (a := q) (by omega), n1, w, show q = n by omega]
    exact ⟨fun z => absurd z (by omega), fun _ => h⟩
  | x + 1, q, e => by
    have hn := hV.1
    have nx := l_X8_never hd n k V hV n1 hB p hp h x (q + 1) (by omega)
    refine v_X8_never_14 _ _ _ ?_
    rw [zw_n (a := q) (by omega), n1, zw_n (a := p) (by omega), show ((q : Int)).toNat = q by omega, show ((p : Int)).toNat = p by omega, (hB p hp).2.2, (hB q (by omega)).2.2, show (q : Int) + 1 = ((q + 1 : Nat) : Int) by omega]
    by_cases g0 : V 2 p < 0
    · rw [if_pos g0] at nx ⊢
      exact ⟨fun _ => ⟨by omega, by omega, fun _ => nx, fun z => absurd g0 z⟩, fun z => absurd (by omega) z⟩
    · rw [if_neg g0] at nx ⊢
      have keep : (decide (q ≠ p) && decide (V 2 q = V 2 p) && ahB (V 0) p q) = false → wp (Ev d) 8 cX8_never (some .int) Q 14 [some (.ref 1280), some (zI (p : Int)), some (zI ((bs (fun r => anyN (nvR V p r) q) n : Nat) : Int)), some (zI ((q + 1 : Nat) : Int)), none] [] M := by
        intro g
        have e2 : bs (fun r => anyN (nvR V p r) (q + 1)) n = bs (fun r => anyN (nvR V p r) q) n := bs_cg n (fun i _ => by
          rw [anyN]
          have : nvR V p i q = false := by unfold nvR; rw [g, Bool.false_and]
          rw [this, Bool.or_false])
        rw [e2] at nx; exact nx
      refine ⟨fun _ => ⟨by omega, by omega, fun z => absurd z g0, fun _ => ⟨fun g => keep ?_, fun g => ⟨by omega, by omega, by omega, by omega, fun g2 => c_X8_isAhead hd n hn (V 0) (fun a b => (hB a b).1) p q hp (by omega) (bz_br (fun g3 => keep ?_) (fun g3 => ?_)), fun g2 => keep ?_⟩⟩⟩, fun z => absurd (by omega) z⟩
      · rw [decide_eq_false (show ¬ q ≠ p by omega)]; rfl
      · rw [Bool.not_eq_true] at g3; rw [g3, Bool.and_false]
      · rw [← mix_0]
        exact l_X8_never66 hd n k V hV n1 hB p q hp (by omega) (by rw [g3, decide_eq_true g2, decide_eq_true (show q ≠ p by omega)]; rfl) nx n 0 (by omega)
      · rw [decide_eq_false g2, Bool.and_false, Bool.false_and]
theorem bs_f0 (n : Nat) : bs (fun _ => false) n = 0 := (bs_z n).mpr (by rw [Bool.eq_false_iff]; intro z; obtain ⟨i, _, h2⟩ := (anyN_iff n).mp z; cases h2)
theorem p_never {d : Nat} {M : zM} (hd : 4 ≤ d) (v : Int) (hv : zw v = v) (hI : Inv M) : Pr d mX7_never mX8_never [zI v] M := by
  obtain ⟨n, k, n1, k1, hV, hC, LS, hL, hL2⟩ := Inv_V hI
  have hn := hV.1
  have hO := Inv_O hI n1
  obtain ⟨d, rfl, hdd⟩ := e_of 3 hd; replace hd := hdd
  obtain ⟨c1, c2, c3, c4, c5, c6⟩ := id hC
  have R : ∀ r : Int, (¬ (0 ≤ v ∧ v < (n : Int)) → r = -1) → (0 ≤ v ∧ v < (n : Int) → r = if vR M 2 v.toNat < 0 then 0 else (bs (fun x => anyN (nvR (vR M) v.toNat x) n) n : Int)) → Ev (d + 1) mX8_never [.ref 1280, zI v] M (fun r2 M2 => r = r2 ∧ Inv M2) := by
    intro r hb hg
    refine e_X8_never _ (v_X8_never_0 _ (c_X8_isPerson (by omega) v (by omega) ?_))
    rw [hv, n1]
    refine bz_br (fun q => ⟨hb q, hI⟩) (fun q => ?_)
    obtain ⟨p, rfl⟩ : ∃ p : Nat, v = (p : Int) := ⟨v.toNat, by omega⟩
    have hg := hg q
    rw [show ((p : Int)).toNat = p by omega] at hg
    have go := l_X8_never (d := d) (Q := fun r2 M2 => r = r2 ∧ Inv M2) (by omega) n k (vR M) hV n1 (fun a b => ⟨rfl, rfl, rfl⟩) p (by omega) ⟨hg, hI⟩ n 0 (by omega)
    have e0 : (if vR M 2 p < 0 then 0 else ((bs (fun r => anyN (nvR (vR M) p r) 0) n : Nat) : Int)) = 0 := by
      split
      · rfl
      · rw [show bs (fun r => anyN (nvR (vR M) p r) 0) n = 0 from bs_f0 n]; rfl
    rw [e0] at go
    exact go
  refine e_X7_never _ (v_X7_never_0 _ (c_X4_hasPerson (by omega) 192 ob_192 v ?_))
  rw [hv, c1]
  refine bz_br (fun q => R _ (fun _ => rfl) (fun z => absurd z q)) (fun q => ⟨by omega, by omega, fun q2 => ?_, fun q2 => ?_⟩)
  · refine R _ (fun z => absurd q z) (fun _ => ?_)
    rw [(c4 _ (by omega)).2.2] at q2
    rw [if_pos (by omega)]
  · obtain ⟨p, hp⟩ : ∃ p : Nat, v = (p : Int) := ⟨v.toNat, by omega⟩
    have hv3 := hV.2.2.1 p (by omega)
    rw [(c4 _ (by omega)).2.2, show v.toNat = p by omega] at q2
    obtain ⟨j, j1, j2⟩ := hO.2.2 p (by omega)
    have go := l_X7_never (d := d) (Q := fun r M1 => Ev (d + 1) mX8_never [.ref 1280, zI v] M1 (fun r2 M2 => r = r2 ∧ Inv M2)) (by omega) n k (vR M) hV hC (fun k => zg M 197 k) hO (fun _ _ => rfl) p j j1 j2 (R _ (fun z => absurd q z) (fun _ => by rw [show v.toNat = p by omega, if_neg (by omega)])) (n - (j + 1)) (j + 1) (by omega) (by omega)
    have e0 : bs (fun r => anyN (nvC (vR M) (fun k => zg M 197 k) p j r) (j + 1)) n = 0 := by
      refine (bs_z n).mpr ?_
      rw [Bool.eq_false_iff]; intro z
      obtain ⟨i, h1, h2⟩ := (anyN_iff n).mp z
      obtain ⟨i2, h3, h4⟩ := (anyN_iff (j + 1)).mp h2
      unfold nvC at h4
      simp only [Bool.and_eq_true, decide_eq_true_eq] at h4
      omega
    rw [e0] at go
    rw [hp] at go ⊢
    refine c_X4_placeOf (by omega) 192 n ob_192 hn hO c1 (fun _ _ => rfl) p j j1 j2 ?_
    exact go
