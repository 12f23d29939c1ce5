/-! the order of people -/
def Ook (n : Nat) (B W : Nat → Int) : Prop := (∀ k : Nat, k < n → 0 ≤ W k ∧ W k < (n : Int)) ∧ (∀ k j : Nat, k < j → j < n → B (W k).toNat < B (W j).toNat ∨ (B (W k).toNat = B (W j).toNat ∧ W k < W j)) ∧ (∀ p : Nat, p < n → ∃ k : Nat, k < n ∧ W k = (p : Int))
def ahB (B : Nat → Int) (o p : Nat) : Bool := decide (B o < B p ∨ (B o = B p ∧ o < p))
theorem ah_k {n : Nat} {B W : Nat → Int} (h : Ook n B W) {o p i j : Nat} (hi : i < n) (hj : j < n) (eo : W i = (o : Int)) (ep : W j = (p : Int)) : ahB B o p = true ↔ i < j := by
  unfold ahB
  rw [decide_eq_true_iff]
  have to : ((o : Int)).toNat = o := by omega
  have tp : ((p : Int)).toNat = p := by omega
  by_cases h1 : i < j
  · have := h.2.1 i j h1 hj
    rw [eo, ep, to, tp] at this
    omega
  · by_cases h2 : i = j
    · subst h2
      rw [eo] at ep
      have e : o = p := by omega
      subst e
      omega
    · have := h.2.1 j i (by omega) hi
      rw [eo, ep, to, tp] at this
      omega
theorem pos_u {n : Nat} {B W : Nat → Int} (h : Ook n B W) {p i j : Nat} (hi : i < n) (hj : j < n) (eo : W i = (p : Int)) (ep : W j = (p : Int)) : i = j := by
  have a1 := ah_k h hi hj eo ep
  have a2 := ah_k h hj hi ep eo
  have a3 := ah_k h hi hi eo eo
  have : ¬ i < i := by omega
  by_cases q : i < j
  · exact absurd (a3.mp (a1.mpr q)) this
  · by_cases q2 : j < i
    · exact absurd (a3.mp (a2.mpr q2)) this
    · omega
def cN (P : Nat → Bool) : Nat → Nat
  | 0 => 0
  | i + 1 => if P i = true then cN P i + 1 else cN P i
theorem cN_cg {P P2 : Nat → Bool} : ∀ n, (∀ i, i < n → P i = P2 i) → cN P n = cN P2 n
  | 0, _ => rfl
  | n + 1, h => by rw [cN, cN, cN_cg n (fun i hi => h i (by omega)), h n (by omega)]
theorem cN_le (P : Nat → Bool) : ∀ n, cN P n ≤ n
  | 0 => Nat.le_refl _
  | n + 1 => by
    have := cN_le P n
    rw [cN]; split <;> omega
theorem cN_one {P : Nat → Bool} {w : Nat} (hw : P w = false) : ∀ n, cN (fun o => P o || decide (o = w)) n = cN P n + (if w < n then 1 else 0)
  | 0 => by rw [cN, cN, if_neg (by omega)]
  | n + 1 => by
    rw [cN, cN, cN_one hw n]
    by_cases e : n = w
    · subst e
      rw [hw, if_pos (by simp), if_neg (by omega), if_neg (by decide), if_pos (by omega)]
    · have e2 : (P n || decide (n = w)) = P n := by simp [e]
      rw [e2]
      by_cases q : w < n
      · rw [if_pos q, if_pos (show w < n + 1 by omega)]; split <;> omega
      · rw [if_neg q, if_neg (show ¬ w < n + 1 by omega)]; split <;> omega
theorem cN_z {P : Nat → Bool} : ∀ n, (∀ i, i < n → P i = false) → cN P n = 0
  | 0, _ => rfl
  | n + 1, h => by rw [cN, h n (by omega), if_neg (by decide)]; exact cN_z n (fun i hi => h i (by omega))
/-- as many are ahead of one as its place tells -/
theorem place_n {n : Nat} {B W : Nat → Int} (h : Ook n B W) : ∀ (k p : Nat), k < n → W k = (p : Int) → cN (fun o => ahB B o p) n = k
  | 0, p, hk, e => by
    refine cN_z n (fun o ho => ?_)
    obtain ⟨j, j1, j2⟩ := h.2.2 o ho
    rw [Bool.eq_false_iff]
    intro z
    exact absurd ((ah_k h j1 hk j2 e).mp z) (by omega)
  | k + 1, p, hk, e => by
    have hb := h.1 k (by omega)
    obtain ⟨w, hw⟩ : ∃ w : Nat, W k = (w : Int) := ⟨(W k).toNat, by omega⟩
    have ih := place_n h k w (by omega) hw
    have hww : ahB B w w = false := by
      rw [Bool.eq_false_iff]; intro z
      exact absurd ((ah_k h (show k < n by omega) (show k < n by omega) hw hw).mp z) (by omega)
    have eq := cN_one (P := fun o => ahB B o w) (w := w) hww n
    rw [ih, if_pos (by omega)] at eq
    rw [← eq]
    refine cN_cg n (fun o ho => ?_)
    obtain ⟨j, j1, j2⟩ := h.2.2 o ho
    rw [Bool.eq_iff_iff, ah_k h j1 hk j2 e, Bool.or_eq_true, ah_k h j1 (show k < n by omega) j2 hw, decide_eq_true_iff]
    constructor
    · intro q
      by_cases q2 : j = k
      · subst q2; right; rw [j2] at hw; omega
      · left; omega
    · rintro (q | q)
      · omega
      · subst q; have := pos_u h j1 (show k < n by omega) j2 hw; omega
theorem c_X4_placeOf {d : Nat} {M : zM} {Q : Int → zM → Prop} (hd : 1 ≤ d) (o n : Nat) (ho : zob o 4) (hn : n ≤ 12) {B W : Nat → Int} (hO : Ook n B W) (h5 : zg M o 5 = (n : Int)) (hW : ∀ k : Nat, k < n → zg M (o + 5) k = W k) (p k0 : Nat) (hk : k0 < n) (hp : W k0 = (p : Int)) (h : Q (k0 : Int) M) : Ev d mX4_placeOf [.ref o, zI (p : Int)] M Q := by
  obtain ⟨d, rfl, -⟩ := e_of 0 hd
  have pb := hO.1 k0 hk
  have l : ∀ (x i : Nat), i + x = k0 → wp (Ev d) 4 cX4_placeOf (some .int) Q 2 [some (.ref o), some (zI (p : Int)), some (zI (i : Int))] [] M := by
    intro x
    induction x with
    | zero =>
      intro i e
      have ei : i = k0 := by omega
      subst ei
      refine v_X4_placeOf_2 o _ _ ho ?_
      rw [zw_n (a := i) (by omega), h5, show ((i : Int)).toNat = i by omega, hW i hk, hp, zw_n (a := p) (by omega)]
      exact ⟨fun _ => ⟨by omega, by omega, fun _ => h, fun z => absurd rfl z⟩, fun z => absurd (by omega) z⟩
    | succ x ih =>
      intro i e
      refine v_X4_placeOf_2 o _ _ ho ?_
      rw [zw_n (a := i) (by omega), h5, show ((i : Int)).toNat = i by omega, hW i (by omega), zw_n (a := p) (by omega), show (i : Int) + 1 = ((i + 1 : Nat) : Int) by omega]
      exact ⟨fun _ => ⟨by omega, by omega, fun z => absurd (pos_u hO (by omega) hk z hp) (by omega), fun _ => ih (i + 1) (by omega)⟩, fun z => absurd (by omega) z⟩
  exact e_X4_placeOf o _ (v_X4_placeOf_0 o _ ho (l k0 0 (by omega)))
theorem c_X8_isAhead {d : Nat} {M : zM} {Q : Int → zM → Prop} (hd : 1 ≤ d) (n : Nat) (hn : n ≤ 12) (B : Nat → Int) (hB : ∀ p : Nat, p < n → zg M 1283 p = B p) (o p : Nat) (ho : o < n) (hp : p < n) (h : Q (bz (ahB B o p = true)) M) : Ev d mX8_isAhead [.ref 1280, zI (o : Int), zI (p : Int)] M Q := by
  obtain ⟨d, rfl, -⟩ := e_of 0 hd
  refine e_X8_isAhead _ _ (v_X8_isAhead_0 _ _ ?_)
  rw [zw_n (a := o) (by omega), zw_n (a := p) (by omega), show ((o : Int)).toNat = o by omega, show ((p : Int)).toNat = p by omega, hB o ho, hB p hp]
  unfold ahB at h
  refine ⟨by omega, by omega, by omega, by omega, fun q => ?_, fun q => ⟨by omega, by omega, by omega, by omega, fun q2 => ⟨fun q3 => ?_, fun q3 => ?_⟩, fun q2 => ?_⟩⟩
  · rw [bz_t (by rw [decide_eq_true_iff]; omega)] at h; exact h
  · rw [bz_t (by rw [decide_eq_true_iff]; omega)] at h; exact h
  · rw [bz_f (by rw [decide_eq_true_iff]; omega)] at h; exact h
  · rw [bz_f (by rw [decide_eq_true_iff]; omega)] at h; exact h
theorem c_X8_placeOf {d : Nat} {M : zM} {Q : Int → zM → Prop} (hd : 2 ≤ d) (n : Nat) (hn : n ≤ 12) {B W : Nat → Int} (hO : Ook n B W) (h1 : zg M 1280 1 = (n : Int)) (hB : ∀ p : Nat, p < n → zg M 1283 p = B p) (p k0 : Nat) (hk : k0 < n) (hp : W k0 = (p : Int)) (h : Q (k0 : Int) M) : Ev d mX8_placeOf [.ref 1280, zI (p : Int)] M Q := by
  obtain ⟨d, rfl, hdd⟩ := e_of 1 hd; replace hd := hdd
  have pb := hO.1 k0 hk
  have l : ∀ (x i : Nat), i + x = n → wp (Ev d) 8 cX8_placeOf (some .int) Q 4 [some (.ref 1280), some (zI (p : Int)), some (zI ((cN (fun o => ahB B o p) i : Nat) : Int)), some (zI (i : Int))] [] M := by
    intro x
    induction x with
    | zero =>
      intro i e
      have ei : i = n := by omega
      have pn := place_n hO k0 p hk hp
      refine v_X8_placeOf_4 _ _ _ ?_
      rw [zw_n (a := i) (by omega), h1, ei, pn, zw_n (a := k0) (by omega)]
      exact ⟨fun z => absurd z (by omega), fun _ => h⟩
    | succ x ih =>
      intro i e
      have nx := ih (i + 1) (by omega)
      refine v_X8_placeOf_4 _ _ _ ?_
      rw [zw_n (a := i) (by omega), h1, show (i : Int) + 1 = ((i + 1 : Nat) : Int) by omega, show ((cN (fun o => ahB B o p) i : Nat) : Int) + 1 = ((cN (fun o => ahB B o p) i + 1 : Nat) : Int) by omega]
      rw [cN] at nx
      refine ⟨fun _ => c_X8_isAhead hd n hn B hB i p (by omega) (by omega) (bz_br (fun q => ?_) (fun q => ?_)), fun z => absurd (by omega) z⟩
      · rw [if_neg q] at nx; exact nx
      · rw [if_pos q] at nx; exact nx
  exact e_X8_placeOf _ (v_X8_placeOf_0 _ (l n 0 (by omega)))
theorem c_X8_personAt {d : Nat} {M : zM} {Q : Int → zM → Prop} (hd : 3 ≤ d) (n : Nat) (hn : n ≤ 12) {B W : Nat → Int} (hO : Ook n B W) (h1 : zg M 1280 1 = (n : Int)) (hB : ∀ p : Nat, p < n → zg M 1283 p = B p) (p k0 : Nat) (hk : k0 < n) (hp : W k0 = (p : Int)) (h : Q (p : Int) M) : Ev d mX8_personAt [.ref 1280, zI (k0 : Int)] M Q := by
  obtain ⟨d, rfl, hdd⟩ := e_of 2 hd; replace hd := hdd
  have pb := hO.1 k0 hk
  have l : ∀ (x i : Nat), i + x = p → wp (Ev d) 8 cX8_personAt (some .int) Q 2 [some (.ref 1280), some (zI (k0 : Int)), some (zI (i : Int))] [] M := by
    intro x
    induction x with
    | zero =>
      intro i e
      have ei : i = p := by omega
      subst ei
      refine v_X8_personAt_2 _ _ ?_
      rw [zw_n (a := i) (by omega), h1, zw_n (a := k0) (by omega)]
      refine ⟨fun _ => c_X8_placeOf hd n hn hO h1 hB i k0 hk hp ?_, fun z => absurd (by omega) z⟩
      rw [zw_n (a := k0) (by omega)]
      exact ⟨fun _ => h, fun z => absurd rfl z⟩
    | succ x ih =>
      intro i e
      obtain ⟨j, j1, j2⟩ := hO.2.2 i (by omega)
      refine v_X8_personAt_2 _ _ ?_
      rw [zw_n (a := i) (by omega), h1, zw_n (a := k0) (by omega), show (i : Int) + 1 = ((i + 1 : Nat) : Int) by omega]
      refine ⟨fun _ => c_X8_placeOf hd n hn hO h1 hB i j j1 j2 ?_, fun z => absurd (by omega) z⟩
      rw [zw_n (a := j) (by omega)]
      refine ⟨fun z => ?_, fun _ => ih (i + 1) (by omega)⟩
      have ej : j = k0 := by omega
      subst ej
      rw [hp] at j2; omega
  exact e_X8_personAt _ (v_X8_personAt_0 _ (l p 0 (by omega)))
theorem c_X8_aheadOf {d : Nat} {M : zM} {Q : Int → zM → Prop} (hd : 2 ≤ d) (n : Nat) (hn : n ≤ 12) (B : Nat → Int) (h1 : zg M 1280 1 = (n : Int)) (hB : ∀ p : Nat, p < n → zg M 1283 p = B p) (p : Nat) (hp : p < n) (h : Q (bs (fun o => ahB B o p) n : Int) M) : Ev d mX8_aheadOf [.ref 1280, zI (p : Int)] M Q := by
  obtain ⟨d, rfl, hdd⟩ := e_of 1 hd; replace hd := hdd
  have l : ∀ (x i : Nat), i + x = n → wp (Ev d) 8 cX8_aheadOf (some .int) Q 4 [some (.ref 1280), some (zI (p : Int)), some (zI ((bs (fun o => ahB B o p) i : Nat) : Int)), some (zI (i : Int))] [] M := by
    intro x
    induction x with
    | zero =>
      intro i e
      have lt := bs_12 (P := fun o => ahB B o p) (n := i) (by omega)
      refine v_X8_aheadOf_4 _ _ _ ?_
      rw [zw_n (a := i) (by omega), h1, zw_n (a := bs (fun o => ahB B o p) i) (by omega)]
      refine ⟨fun z => absurd z (by omega), fun _ => ?_⟩
      rw [show i = n by omega]; exact h
    | succ x ih =>
      intro i e
      have lt := bs_12 (P := fun o => ahB B o p) (n := i) (by omega)
      have ti := tp_12 (p := i) (by omega)
      have nx := ih (i + 1) (by omega)
      refine v_X8_aheadOf_4 _ _ _ ?_
      rw [zw_n (a := i) (by omega), h1, zb_shl (by omega), zb_or (by omega) (by omega), show (i : Int) + 1 = ((i + 1 : Nat) : Int) by omega]
      rw [bs] at nx
      refine ⟨fun _ => c_X8_isAhead hd n hn B hB i p (by omega) hp (bz_br (fun q => ?_) (fun q => ?_)), fun z => absurd (by omega) z⟩
      · rw [if_neg q] at nx; exact nx
      · rw [if_pos q] at nx; exact nx
  exact e_X8_aheadOf _ (v_X8_aheadOf_0 _ (l n 0 (by omega)))
theorem Inv_O {M : zM} (hI : Inv M) {n : Nat} (h1 : zg M 1280 1 = (n : Int)) : Ook n (vR M 0) (fun k => zg M 197 k) := by
  obtain ⟨n2, p1, p2, p3, p4, p5, p6, p7⟩ := hI.1
  have e : n2 = n := by omega
  subst e
  exact ⟨p5, p6, p7⟩
/-! bearers -/
theorem c_X4_bearersOf {d : Nat} {M : zM} {Q : Int → zM → Prop} (hd : 1 ≤ d) (o n : Nat) (ho : zob o 4) (hn : n ≤ 12) (h5 : zg M o 5 = (n : Int)) (N : Nat → Int) (hN : ∀ p : Nat, p < n → zg M (o + 4) p = N p) (a : Int) (ha : zw a = a) (h : Q (bs (fun p => decide (N p = a)) n : Int) M) : Ev d mX4_bearersOf [.ref o, zI a] M Q := by
  obtain ⟨d, rfl, -⟩ := e_of 0 hd
  have l : ∀ (x i : Nat), i + x = n → wp (Ev d) 4 cX4_bearersOf (some .int) Q 4 [some (.ref o), some (zI a), some (zI ((bs (fun p => decide (N p = a)) i : Nat) : Int)), some (zI (i : Int))] [] M := by
    intro x
    induction x with
    | zero =>
      intro i e
      have lt := bs_12 (P := fun p => decide (N p = a)) (n := i) (by omega)
      refine v_X4_bearersOf_4 o _ _ _ ho ?_
      rw [zw_n (a := i) (by omega), h5, zw_n (a := bs (fun p => decide (N p = a)) i) (by omega)]
      refine ⟨fun z => absurd z (by omega), fun _ => ?_⟩
      rw [show i = n by omega]; exact h
    | succ x ih =>
      intro i e
      have lt := bs_12 (P := fun p => decide (N p = a)) (n := i) (by omega)
      have ti := tp_12 (p := i) (by omega)
      have nx := ih (i + 1) (by omega)
      refine v_X4_bearersOf_4 o _ _ _ ho ?_
      rw [zw_n (a := i) (by omega), h5, show ((i : Int)).toNat = i by omega, hN i (by omega), ha, zb_shl (by omega), zb_or (by omega) (by omega), show (i : Int) + 1 = ((i + 1 : Nat) : Int) by omega]
      rw [bs] at nx
      refine ⟨fun _ => ⟨by omega, by omega, fun q => ?_, fun q => ?_⟩, fun z => absurd (by omega) z⟩
      · rw [if_pos (decide_eq_true q)] at nx; exact nx
      · rw [if_neg (by simp [q])] at nx; exact nx
  exact e_X4_bearersOf o _ (v_X4_bearersOf_0 o _ ho (l n 0 (by omega)))
theorem c_X8_bearersOf {d : Nat} {M : zM} {Q : Int → zM → Prop} (hd : 1 ≤ d) (n : Nat) (hn : n ≤ 12) (h5 : zg M 1280 1 = (n : Int)) (a : Int) (ha : zw a = a) (h : Q (bs (fun p => decide (zg M 1285 p = a)) n : Int) M) : Ev d mX8_bearersOf [.ref 1280, zI a] M Q := by
  obtain ⟨d, rfl, -⟩ := e_of 0 hd
  have l : ∀ (x i : Nat), i + x = n → wp (Ev d) 8 cX8_bearersOf (some .int) Q 4 [some (.ref 1280), some (zI a), some (zI ((bs (fun p => decide (zg M 1285 p = a)) i : Nat) : Int)), some (zI (i : Int))] [] M := by
    intro x
    induction x with
    | zero =>
      intro i e
      have lt := bs_12 (P := fun p => decide (zg M 1285 p = a)) (n := i) (by omega)
      refine v_X8_bearersOf_4 _ _ _ ?_
      rw [zw_n (a := i) (by omega), h5, zw_n (a := bs (fun p => decide (zg M 1285 p = a)) i) (by omega)]
      refine ⟨fun z => absurd z (by omega), fun _ => ?_⟩
      rw [show i = n by omega]; exact h
    | succ x ih =>
      intro i e
      have lt := bs_12 (P := fun p => decide (zg M 1285 p = a)) (n := i) (by omega)
      have ti := tp_12 (p := i) (by omega)
      have nx := ih (i + 1) (by omega)
      refine v_X8_bearersOf_4 _ _ _ ?_
      rw [zw_n (a := i) (by omega), h5, show ((i : Int)).toNat = i by omega, ha, zb_shl (by omega), zb_or (by omega) (by omega), show (i : Int) + 1 = ((i + 1 : Nat) : Int) by omega]
      rw [bs] at nx
      refine ⟨fun _ => ⟨by omega, by omega, fun q => ?_, fun q => ?_⟩, fun z => absurd (by omega) z⟩
      · rw [if_pos (decide_eq_true q)] at nx; exact nx
      · rw [if_neg (by simp [q])] at nx; exact nx
  exact e_X8_bearersOf _ (v_X8_bearersOf_0 _ (l n 0 (by omega)))
theorem cnt_N (V : zV) (m : Nat) : cnt (vN V) m ↔ cnt V m := by
  have h : ∀ r j, r ≠ 2 → vN V r j = V r j := fun r j q => (vN_ne V r j q).symm
  simp only [cnt, h 0 _ (by omega), h 1 _ (by omega), h 3 _ (by omega), h 4 _ (by omega), h 5 _ (by omega)]
theorem of_R {d : Nat} {M : zM} (hd : 5 ≤ d) (v w : Int) (hv : zw v = v) (hw : zw w = w) (hI : Inv M) (n k : Nat) (n1 : zg M 1280 1 = (n : Int)) (k1 : zg M 1280 5 = (k : Int)) (hV : Vok n k (vR M)) (hC : CV 192 n k (vR M) M) : ∀ r : Int, (¬ ((0 ≤ w ∧ w ≤ 3) ∧ 0 ≤ v ∧ v < (n : Int)) → ¬ ((10 ≤ w ∧ w ≤ 12) ∧ 0 ≤ v ∧ v < 12) → ¬ ((20 ≤ w ∧ w ≤ 22) ∧ 0 ≤ v ∧ v < (k : Int)) → r = -2000000000) → (0 ≤ v ∧ v < (n : Int) → (w = 0 → r = zg M 1283 v.toNat) ∧ (w = 1 → r = zg M 1284 v.toNat) ∧ (w = 2 → r = zg M 1285 v.toNat) ∧ (w = 3 → ∀ j : Nat, j < n → zg M 197 j = v → r = (j : Int))) → (0 ≤ v ∧ v < 12 → (w = 10 → r = zg M 1291 v.toNat) ∧ (w = 11 → r = zg M 1292 v.toNat) ∧ (w = 12 → r = (bs (fun p => decide (zg M 1285 p = v)) n : Int))) → (0 ≤ v ∧ v < (k : Int) → (w = 20 → r = zw (100 * zg M 1287 v.toNat + zg M 1288 v.toNat)) ∧ (w = 21 → r = zg M 1289 v.toNat) ∧ (w = 22 → r = bz (cnt (vR M) v.toNat))) → Ev (d + 1) mX8_of [.ref 1280, zI v, zI w] M (fun r2 M2 => r = r2 ∧ Inv M2) := by
  have hn := hV.1
  have hk := hV.2.1
  have hO := Inv_O hI n1
  obtain ⟨c1, c2, c3, c4, c5, c6⟩ := id hC
  intro r g0 g1 g2 g3
  refine e_X8_of _ _ (v_X8_of_0 _ _ (c_X8_in (by omega) _ _ _ ?_))
  rw [hw, zq_0, zq_3, hv]
  refine bz_br (fun q => c_X8_in (by omega) _ _ _ ?_) (fun q => c_X8_isPerson (by omega) v (by omega) ?_)
  · rw [hw, zq_10, zq_12]
    refine bz_br (fun q2 => c_X8_in (by omega) _ _ _ ?_) (fun q2 => c_X8_isName (by omega) v ?_)
    · rw [hw, zq_20, show zw 22 = 22 by decide]
      refine bz_br (fun q3 => ⟨g0 (by omega) (by omega) (by omega), hI⟩) (fun q3 => c_X8_in (by omega) _ _ _ ?_)
      rw [hv, zq_0, k1, zw_of (a := (k : Int) - 1) (by omega) (by omega)]
      refine bz_br (fun q4 => ⟨g0 (by omega) (by omega) (by omega), hI⟩) (fun q4 => ?_)
      have g4 := g3 (by omega)
      refine ⟨fun q5 => ⟨by omega, by omega, by omega, by omega, g4.1 q5, hI⟩, fun q5 => ⟨fun q6 => ⟨by omega, by omega, g4.2.1 q6, hI⟩, fun q6 => ?_⟩⟩
      obtain ⟨m, hm⟩ : ∃ m : Nat, v = (m : Int) := ⟨v.toNat, by omega⟩
      have e : v.toNat = m := by omega
      rw [hm]
      refine c_X8_counts (by omega) n k 0 (vN (vR M)) (Vok_N hV) (RV_0 n1 k1 (FrB_rf M)) m (by omega) (bz_br (fun q7 => ⟨?_, hI⟩) (fun q7 => ⟨?_, hI⟩))
      · rw [g4.2.2 (by omega), e, bz_f (fun z => q7 ((cnt_N _ _).mpr z))]
      · rw [g4.2.2 (by omega), e, bz_t ((cnt_N _ _).mp q7)]
    · rw [hv]
      refine bz_br (fun q3 => ⟨g0 (by omega) (by omega) (by omega), hI⟩) (fun q3 => ?_)
      have g4 := g2 q3
      refine ⟨fun q5 => ⟨by omega, by omega, g4.1 q5, hI⟩, fun q5 => ⟨fun q6 => ⟨by omega, by omega, g4.2.1 q6, hI⟩, fun q6 => c_X8_bearersOf (by omega) n hn n1 v hv ?_⟩⟩
      have lt := bs_12 (P := fun p => decide (zg M 1285 p = v)) hn
      rw [zw_n (by omega)]
      exact ⟨g4.2.2 (by omega), hI⟩
  · rw [hv, n1]
    refine bz_br (fun q3 => ⟨g0 (by omega) (by omega) (by omega), hI⟩) (fun q3 => ?_)
    have g4 := g1 q3
    refine ⟨fun q5 => ⟨by omega, by omega, g4.1 q5, hI⟩, fun q5 => ⟨fun q6 => ⟨by omega, by omega, g4.2.1 q6, hI⟩, fun q6 => ⟨fun q7 => ⟨by omega, by omega, g4.2.2.1 q7, hI⟩, fun q7 => ?_⟩⟩⟩
    obtain ⟨p, hp⟩ : ∃ p : Nat, v = (p : Int) := ⟨v.toNat, by omega⟩
    obtain ⟨j, j1, j2⟩ := hO.2.2 p (by omega)
    rw [hp]
    refine c_X8_placeOf (by omega) n hn hO n1 (fun _ _ => rfl) p j j1 j2 ?_
    rw [zw_n (by omega)]
    exact ⟨g4.2.2.2 (by omega) j j1 (by rw [hp]; exact j2), hI⟩
theorem of_P {d : Nat} {M : zM} (hd : 5 ≤ d) (v w : Int) (hv : zw v = v) (hw : zw w = w) (hI : Inv M) (n k : Nat) (n1 : zg M 1280 1 = (n : Int)) (k1 : zg M 1280 5 = (k : Int)) (hV : Vok n k (vR M)) (hC : CV 192 n k (vR M) M) (q : w < 10) : Ev d mX4_hasPerson [.ref 192, zI v] M (fun r9 M10 => (zw r9 = 0 → (Ev (d + 1) mX8_of [.ref 1280, zI v, zI w] M10 (fun r2 M2 => -2000000000 = r2 ∧ Inv M2))) ∧ (¬ zw r9 = 0 → (Ev d mX7_ofPerson [.ref 64, zI v, zI w] M10 (fun r11 M12 => Ev (d + 1) mX8_of [.ref 1280, zI v, zI w] M12 (fun r2 M2 => zw r11 = r2 ∧ Inv M2))))) := by
  have hn := hV.1
  have hk := hV.2.1
  have hO := Inv_O hI n1
  obtain ⟨c1, c2, c3, c4, c5, c6⟩ := id hC
  have R := of_R hd v w hv hw hI n k n1 k1 hV hC
  refine c_X4_hasPerson (by omega) 192 ob_192 v ?_
  rw [hv, c1]
  refine bz_br (fun q3 => R _ (fun _ _ _ => rfl) (fun z => absurd z q3) (fun _ => ⟨fun z => absurd z (by omega), fun z => absurd z (by omega), fun z => absurd z (by omega)⟩) (fun _ => ⟨fun z => absurd z (by omega), fun z => absurd z (by omega), fun z => absurd z (by omega)⟩)) (fun q3 => ?_)
  obtain ⟨d2, rfl, -⟩ := e_of 4 hd
  refine e_X7_ofPerson _ _ (v_X7_ofPerson_0 _ _ ?_)
  rw [hw, hv]
  refine ⟨fun q4 => ⟨by omega, by omega, ?_⟩, fun q4 => ⟨by omega, by omega, ?_⟩, fun q4 => ⟨by omega, by omega, ?_⟩, fun q4 => ?_, fun q4 q5 q6 q7 => ?_⟩
  · rw [zw_zg]
    exact R _ (fun z => absurd (by omega) z) (fun _ => ⟨fun _ => (c4 _ (by omega)).1, fun z => absurd z (by omega), fun z => absurd z (by omega), fun z => absurd z (by omega)⟩) (fun _ => ⟨fun z => absurd z (by omega), fun z => absurd z (by omega), fun z => absurd z (by omega)⟩) (fun _ => ⟨fun z => absurd z (by omega), fun z => absurd z (by omega), fun z => absurd z (by omega)⟩)
  · rw [zw_zg]
    exact R _ (fun z => absurd (by omega) z) (fun _ => ⟨fun z => absurd z (by omega), fun _ => (c4 _ (by omega)).2.1, fun z => absurd z (by omega), fun z => absurd z (by omega)⟩) (fun _ => ⟨fun z => absurd z (by omega), fun z => absurd z (by omega), fun z => absurd z (by omega)⟩) (fun _ => ⟨fun z => absurd z (by omega), fun z => absurd z (by omega), fun z => absurd z (by omega)⟩)
  · rw [zw_zg]
    exact R _ (fun z => absurd (by omega) z) (fun _ => ⟨fun z => absurd z (by omega), fun z => absurd z (by omega), fun _ => (c4 _ (by omega)).2.2, fun z => absurd z (by omega)⟩) (fun _ => ⟨fun z => absurd z (by omega), fun z => absurd z (by omega), fun z => absurd z (by omega)⟩) (fun _ => ⟨fun z => absurd z (by omega), fun z => absurd z (by omega), fun z => absurd z (by omega)⟩)
  · obtain ⟨p, hp⟩ : ∃ p : Nat, v = (p : Int) := ⟨v.toNat, by omega⟩
    obtain ⟨j, j1, j2⟩ := hO.2.2 p (by omega)
    rw [hp]
    refine c_X4_placeOf (by omega) 192 n ob_192 hn hO c1 (fun _ _ => rfl) p j j1 j2 ?_
    rw [zw_n (by omega), zw_n (by omega), ← hp]
    exact R _ (fun z => absurd (by omega) z) (fun _ => ⟨fun z => absurd z (by omega), fun z => absurd z (by omega), fun z => absurd z (by omega), fun _ i i1 i2 => by rw [pos_u hO j1 i1 j2 (by rw [← hp]; exact i2)]⟩) (fun _ => ⟨fun z => absurd z (by omega), fun z => absurd z (by omega), fun z => absurd z (by omega)⟩) (fun _ => ⟨fun z => absurd z (by omega), fun z => absurd z (by omega), fun z => absurd z (by omega)⟩)
  · rw [zq_m2000000000]
    exact R _ (fun _ _ _ => rfl) (fun _ => ⟨fun z => absurd z (by omega), fun z => absurd z (by omega), fun z => absurd z (by omega), fun z => absurd z (by omega)⟩) (fun _ => ⟨fun z => absurd z (by omega), fun z => absurd z (by omega), fun z => absurd z (by omega)⟩) (fun _ => ⟨fun z => absurd z (by omega), fun z => absurd z (by omega), fun z => absurd z (by omega)⟩)
theorem of_N {d : Nat} {M : zM} (hd : 5 ≤ d) (v w : Int) (hv : zw v = v) (hw : zw w = w) (hI : Inv M) (n k : Nat) (n1 : zg M 1280 1 = (n : Int)) (k1 : zg M 1280 5 = (k : Int)) (hV : Vok n k (vR M)) (hC : CV 192 n k (vR M) M) (q : ¬ w < 10) (q2 : w < 20) : Ev d mX7_isName [zI v] M (fun r9 M10 => (zw r9 = 0 → (Ev (d + 1) mX8_of [.ref 1280, zI v, zI w] M10 (fun r2 M2 => -2000000000 = r2 ∧ Inv M2))) ∧ (¬ zw r9 = 0 → (Ev d mX7_ofName [.ref 64, zI v, zI w] M10 (fun r11 M12 => Ev (d + 1) mX8_of [.ref 1280, zI v, zI w] M12 (fun r2 M2 => zw r11 = r2 ∧ Inv M2))))) := by
  have hn := hV.1
  have hk := hV.2.1
  have hO := Inv_O hI n1
  obtain ⟨c1, c2, c3, c4, c5, c6⟩ := id hC
  have R := of_R hd v w hv hw hI n k n1 k1 hV hC
  refine c_X7_isName (by omega) v ?_
  rw [hv]
  refine bz_br (fun q3 => R _ (fun _ _ _ => rfl) (fun _ => ⟨fun z => absurd z (by omega), fun z => absurd z (by omega), fun z => absurd z (by omega), fun z => absurd z (by omega)⟩) (fun z => absurd z q3) (fun _ => ⟨fun z => absurd z (by omega), fun z => absurd z (by omega), fun z => absurd z (by omega)⟩)) (fun q3 => ?_)
  obtain ⟨d2, rfl, -⟩ := e_of 4 hd
  refine e_X7_ofName _ _ (v_X7_ofName_0 _ _ ?_)
  rw [hw, hv]
  refine ⟨fun q4 => ⟨by omega, by omega, ?_⟩, fun q4 => ⟨by omega, by omega, ?_⟩, fun q4 => ?_, fun q4 q5 q6 => ?_⟩
  · rw [zw_zg]
    exact R _ (fun _ z => absurd (by omega) z) (fun _ => ⟨fun z => absurd z (by omega), fun z => absurd z (by omega), fun z => absurd z (by omega), fun z => absurd z (by omega)⟩) (fun _ => ⟨fun _ => (c6 _ (by omega)).2, fun z => absurd z (by omega), fun z => absurd z (by omega)⟩) (fun _ => ⟨fun z => absurd z (by omega), fun z => absurd z (by omega), fun z => absurd z (by omega)⟩)
  · rw [zw_zg]
    exact R _ (fun _ z => absurd (by omega) z) (fun _ => ⟨fun z => absurd z (by omega), fun z => absurd z (by omega), fun z => absurd z (by omega), fun z => absurd z (by omega)⟩) (fun _ => ⟨fun z => absurd z (by omega), fun _ => (c6 _ (by omega)).1, fun z => absurd z (by omega)⟩) (fun _ => ⟨fun z => absurd z (by omega), fun z => absurd z (by omega), fun z => absurd z (by omega)⟩)
  · refine c_X4_bearersOf (by omega) 192 n ob_192 hn c1 (fun p => zg M 1285 p) (fun p hp => (c4 p hp).2.2) v hv ?_
    have lt := bs_12 (P := fun p => decide (zg M 1285 p = v)) hn
    rw [zw_n (by omega), zw_n (by omega)]
    exact R _ (fun _ z => absurd (by omega) z) (fun _ => ⟨fun z => absurd z (by omega), fun z => absurd z (by omega), fun z => absurd z (by omega), fun z => absurd z (by omega)⟩) (fun _ => ⟨fun z => absurd z (by omega), fun z => absurd z (by omega), fun _ => rfl⟩) (fun _ => ⟨fun z => absurd z (by omega), fun z => absurd z (by omega), fun z => absurd z (by omega)⟩)
  · rw [zq_m2000000000]
    exact R _ (fun _ _ _ => rfl) (fun _ => ⟨fun z => absurd z (by omega), fun z => absurd z (by omega), fun z => absurd z (by omega), fun z => absurd z (by omega)⟩) (fun _ => ⟨fun z => absurd z (by omega), fun z => absurd z (by omega), fun z => absurd z (by omega)⟩) (fun _ => ⟨fun z => absurd z (by omega), fun z => absurd z (by omega), fun z => absurd z (by omega)⟩)
theorem of_M {d : Nat} {M : zM} (hd : 5 ≤ d) (v w : Int) (hv : zw v = v) (hw : zw w = w) (hI : Inv M) (n k : Nat) (n1 : zg M 1280 1 = (n : Int)) (k1 : zg M 1280 5 = (k : Int)) (hV : Vok n k (vR M)) (hC : CV 192 n k (vR M) M) (q : ¬ w < 10) (q2 : ¬ w < 20) : Ev d mX4_hasMeeting [.ref 192, zI v] M (fun r9 M10 => (zw r9 = 0 → (Ev (d + 1) mX8_of [.ref 1280, zI v, zI w] M10 (fun r2 M2 => -2000000000 = r2 ∧ Inv M2))) ∧ (¬ zw r9 = 0 → (Ev d mX7_ofMeeting [.ref 64, zI v, zI w] M10 (fun r11 M12 => Ev (d + 1) mX8_of [.ref 1280, zI v, zI w] M12 (fun r2 M2 => zw r11 = r2 ∧ Inv M2))))) := by
  have hn := hV.1
  have hk := hV.2.1
  have hO := Inv_O hI n1
  obtain ⟨c1, c2, c3, c4, c5, c6⟩ := id hC
  have R := of_R hd v w hv hw hI n k n1 k1 hV hC
  refine c_X4_hasMeeting (by omega) 192 ob_192 v ?_
  rw [hv, c2]
  refine bz_br (fun q3 => R _ (fun _ _ _ => rfl) (fun _ => ⟨fun z => absurd z (by omega), fun z => absurd z (by omega), fun z => absurd z (by omega), fun z => absurd z (by omega)⟩) (fun _ => ⟨fun z => absurd z (by omega), fun z => absurd z (by omega), fun z => absurd z (by omega)⟩) (fun z => absurd z q3)) (fun q3 => ?_)
  obtain ⟨d2, rfl, -⟩ := e_of 4 hd
  refine e_X7_ofMeeting _ _ (v_X7_ofMeeting_0 _ _ ?_)
  rw [hw, hv]
  obtain ⟨m1, m2, m3, -⟩ := c5 v.toNat (by omega)
  refine ⟨fun q4 => ⟨by omega, by omega, by omega, by omega, ?_⟩, fun q4 => ⟨by omega, by omega, ?_⟩, fun q4 => ?_, fun q4 q5 q6 => ?_⟩
  · rw [zw_zw, m1, m2]
    exact R _ (fun _ _ z => absurd (by omega) z) (fun _ => ⟨fun z => absurd z (by omega), fun z => absurd z (by omega), fun z => absurd z (by omega), fun z => absurd z (by omega)⟩) (fun _ => ⟨fun z => absurd z (by omega), fun z => absurd z (by omega), fun z => absurd z (by omega)⟩) (fun _ => ⟨fun _ => rfl, fun z => absurd z (by omega), fun z => absurd z (by omega)⟩)
  · rw [zw_zg]
    exact R _ (fun _ _ z => absurd (by omega) z) (fun _ => ⟨fun z => absurd z (by omega), fun z => absurd z (by omega), fun z => absurd z (by omega), fun z => absurd z (by omega)⟩) (fun _ => ⟨fun z => absurd z (by omega), fun z => absurd z (by omega), fun z => absurd z (by omega)⟩) (fun _ => ⟨fun z => absurd z (by omega), fun _ => m3, fun z => absurd z (by omega)⟩)
  · obtain ⟨m, hm⟩ : ∃ m : Nat, v = (m : Int) := ⟨v.toNat, by omega⟩
    have e : v.toNat = m := by omega
    have T : ∀ r : Int, r = bz (cnt (vR M) m) → Ev (d2 + 1 + 1) mX8_of [.ref 1280, zI v, zI w] M (fun r2 M2 => r = r2 ∧ Inv M2) := fun r hr => R _ (fun _ _ z => absurd (by omega) z) (fun _ => ⟨fun z => absurd z (by omega), fun z => absurd z (by omega), fun z => absurd z (by omega), fun z => absurd z (by omega)⟩) (fun _ => ⟨fun z => absurd z (by omega), fun z => absurd z (by omega), fun z => absurd z (by omega)⟩) (fun _ => ⟨fun z => absurd z (by omega), fun z => absurd z (by omega), fun _ => by rw [e]; exact hr⟩)
    rw [hm] at T ⊢
    refine c_X4_counts (by omega) 192 n k (vR M) ob_192 hV hC m (by omega) (bz_br (fun q7 => ?_) (fun q7 => ?_))
    · rw [zq_0]; exact T 0 (by rw [bz_f q7])
    · rw [zq_1]; exact T 1 (by rw [bz_t q7])
  · rw [zq_m2000000000]
    exact R _ (fun _ _ _ => rfl) (fun _ => ⟨fun z => absurd z (by omega), fun z => absurd z (by omega), fun z => absurd z (by omega), fun z => absurd z (by omega)⟩) (fun _ => ⟨fun z => absurd z (by omega), fun z => absurd z (by omega), fun z => absurd z (by omega)⟩) (fun _ => ⟨fun z => absurd z (by omega), fun z => absurd z (by omega), fun z => absurd z (by omega)⟩)
theorem p_of {d : Nat} {M : zM} (hd : 6 ≤ d) (v w : Int) (hv : zw v = v) (hw : zw w = w) (hI : Inv M) : Pr d mX7_of mX8_of [zI v, zI w] M := by
  obtain ⟨n, k, n1, k1, hV, hC, LS, hL, hL2⟩ := Inv_V hI
  obtain ⟨d, rfl, hdd⟩ := e_of 5 hd; replace hd := hdd
  refine e_X7_of _ _ (v_X7_of_0 _ _ ?_)
  rw [hw]
  exact ⟨fun q => of_P hd v w hv hw hI n k n1 k1 hV hC q, fun q => ⟨fun q2 => of_N hd v w hv hw hI n k n1 k1 hV hC q q2, fun q2 => of_M hd v w hv hw hI n k n1 k1 hV hC q q2⟩⟩
