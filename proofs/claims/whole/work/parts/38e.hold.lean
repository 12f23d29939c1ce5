/-- the class's holders, b by b and within it p by p -/
def hSt (V : zV) (LS : Option (List lwL)) (K : Nat → Nat) (n a : Nat) (y : Int) (b p : Nat) : Nat := bs (fun q => anyN (hB V LS K a y q) (if q < p then b + 1 else b)) n
theorem hSt_0 (V : zV) (LS : Option (List lwL)) (K : Nat → Nat) (n a : Nat) (y : Int) (b : Nat) : hSt V LS K n a y b 0 = bs (fun q => anyN (hB V LS K a y q) b) n := by
  unfold hSt
  exact bs_cg n (fun i hi => by rw [if_neg (by omega)])
theorem hSt_n (V : zV) (LS : Option (List lwL)) (K : Nat → Nat) (n a : Nat) (y : Int) (b : Nat) : hSt V LS K n a y b n = bs (fun q => anyN (hB V LS K a y q) (b + 1)) n := by
  unfold hSt
  exact bs_cg n (fun i hi => by rw [if_pos hi])
theorem hSt_keep {V : zV} {LS : Option (List lwL)} {K : Nat → Nat} {n a : Nat} {y : Int} {b p : Nat} (h : anyN (hB V LS K a y p) b = true ∨ hB V LS K a y p b = false) : hSt V LS K n a y b (p + 1) = hSt V LS K n a y b p := by
  unfold hSt
  refine bs_cg n (fun i hi => ?_)
  by_cases e : i = p
  · subst e
    rw [if_pos (by omega), if_neg (by omega), anyN]
    rcases h with h | h
    · rw [h]; rfl
    · rw [h, Bool.or_false]
  · by_cases e2 : i < p
    · rw [if_pos (by omega), if_pos e2]
    · rw [if_neg (by omega), if_neg e2]
theorem hSt_set {V : zV} {LS : Option (List lwL)} {K : Nat → Nat} {n a : Nat} {y : Int} {b p : Nat} (hp : p < n) (h : hB V LS K a y p b = true) : hSt V LS K n a y b (p + 1) = hSt V LS K n a y b p ||| 2 ^ p := by
  refine (bs_eq (fun i => ?_)).symm
  unfold hSt
  rw [Nat.testBit_or, bs_bit, Nat.testBit_two_pow]
  by_cases e : i = p
  · subst e
    rw [if_pos (show i < i + 1 by omega), anyN, h]; simp [hp]
  · have e3 : ¬ p = i := fun z => e z.symm
    rw [decide_eq_false e3, Bool.or_false]
    by_cases e2 : i < p
    · rw [if_pos e2, if_pos (show i < p + 1 by omega)]
    · rw [if_neg e2, if_neg (show ¬ i < p + 1 by omega)]
theorem hSt_bit {V : zV} {LS : Option (List lwL)} {K : Nat → Nat} {n a : Nat} {y : Int} {b p : Nat} (hp : p < n) : (hSt V LS K n a y b p).testBit p = anyN (hB V LS K a y p) b := by
  unfold hSt
  rw [bs_bit, if_neg (by omega)]; simp [hp]
theorem l_X4_hold36 {d : Nat} {M0 : zM} {Q : Int → zM → Prop} (hd : 4 ≤ d) (o n k : Nat) (V : zV) (ho : zob o 4) (ho2 : o = 192 ∨ o = 256) (hV : Vok n k V) (hC : CV o n k V M0) (LS : Option (List lwL)) (hL : LC M0 LS) (K : Nat → Nat) (hK : KnA M0 (o + 15) n K) (hb4 : ∀ p, p < n → K p < 4096) (a : Nat) (y : Int) (hy0 : 0 ≤ y) (hy1 : y < 100) (b : Nat) (hb : b < n) (hbr : brB V a y b = true) (h : ∀ M2 : zM, FrL M0 M2 → wp (Ev d) 4 cX4_holdersOf (some .int) Q 10 [some (.ref o), some (zI (a : Int)), some (zI y), some (zI ((bs (fun q => anyN (hB V LS K a y q) (b + 1)) n : Nat) : Int)), some (zI ((b + 1 : Nat) : Int)), none] [] M2) : ∀ (x i : Nat) (M : zM), i + x = n → FrL M0 M → wp (Ev d) 4 cX4_holdersOf (some .int) Q 36 [some (.ref o), some (zI (a : Int)), some (zI y), some (zI ((hSt V LS K n a y b i : Nat) : Int)), some (zI (b : Int)), some (zI (i : Int))] [] M
  | 0, i, M, e, f => by
    have hn := hV.1
    have hC2 := CV_C ho2 (FrL_C f) hC
    refine v_X4_holdersOf_36 o _ _ _ _ _ ho ?_
    rw [zw_n (a := i) (by omega), hC2.1]
    refine ⟨fun z => absurd z (by omega), fun _ => ?_⟩
    have ei : i = n := by omega
    rw [ei, hSt_n, show (b : Int) + 1 = ((b + 1 : Nat) : Int) by omega]
    exact h M f
  | x + 1, i, M, e, f => by
    have hn := hV.1
    have wy : zw y = y := zw_of (by omega) (by omega)
    have hC2 := CV_C ho2 (FrL_C f) hC
    have lt : hSt V LS K n a y b i < 4096 := bs_12 hn
    have ti := tp_12 (p := i) (by omega)
    have qn : V 2 b = (a : Int) := by unfold brB at hbr; rw [decide_eq_true_iff] at hbr; exact hbr.1
    have nx : ∀ M2 : zM, FrL M0 M2 → (anyN (hB V LS K a y i) b = true ∨ hB V LS K a y i b = false) → wp (Ev d) 4 cX4_holdersOf (some .int) Q 36 [some (.ref o), some (zI (a : Int)), some (zI y), some (zI ((hSt V LS K n a y b i : Nat) : Int)), some (zI (b : Int)), some (zI ((i : Int) + 1))] [] M2 := by
      intro M2 f2 q
      rw [show (i : Int) + 1 = ((i + 1 : Nat) : Int) by omega, ← hSt_keep q]
      exact l_X4_hold36 hd o n k V ho ho2 hV hC LS hL K hK hb4 a y hy0 hy1 b hb hbr h x (i + 1) M2 (by omega) f2
    refine v_X4_holdersOf_36 o _ _ _ _ _ ho ?_
    rw [zw_n (a := i) (by omega), hC2.1, zb_bit (by omega) (by omega), bz_0, zb_shl (by omega), zb_or (by omega) (by omega), hSt_bit (by omega)]
    refine ⟨fun _ => ⟨fun q => ?_, fun q => nx M f (Or.inl (Classical.not_not.mp q))⟩, fun z => absurd (by omega) z⟩
    refine c_X4_livesKnowing (by omega) o n k V ho hV hC2 K (KnA_fr (fun j => f.1 _ _ (by omega) (by omega) (by omega)) hK) hb4 i b (by omega) hb y wy (bz_br (fun q2 => nx M f (Or.inr ?_)) (fun q2 => ?_))
    · rw [Bool.not_eq_true] at q2
      unfold hB; rw [q2, Bool.false_and, Bool.and_false]
    · refine c_X4_wouldHold hd o n k V ho ho2 hV hC2 LS (LC_C (FrL_C f) hL) i b (by omega) hb y hy0 hy1 (by omega) (fun M2 f2 => bz_br (fun q3 => nx M2 (FrL_tr f f2) (Or.inr ?_)) (fun q3 => ?_))
      · rw [Bool.not_eq_true] at q3
        unfold hB; rw [q3, Bool.and_false, Bool.and_false]
      · have ht : hB V LS K a y i b = true := by unfold hB; rw [hbr, q2, q3]; rfl
        rw [show (i : Int) + 1 = ((i + 1 : Nat) : Int) by omega, ← hSt_set (n := n) (by omega) ht]
        exact l_X4_hold36 hd o n k V ho ho2 hV hC LS hL K hK hb4 a y hy0 hy1 b hb hbr h x (i + 1) M2 (by omega) (FrL_tr f f2)
theorem l_X4_hold10 {d : Nat} {M0 : zM} {Q : Int → zM → Prop} (hd : 4 ≤ d) (o n k : Nat) (V : zV) (ho : zob o 4) (ho2 : o = 192 ∨ o = 256) (hV : Vok n k V) (hC : CV o n k V M0) (LS : Option (List lwL)) (hL : LC M0 LS) (K : Nat → Nat) (hK : KnA M0 (o + 15) n K) (hb4 : ∀ p, p < n → K p < 4096) (a : Nat) (ha : a < 12) (y : Int) (hy0 : 0 ≤ y) (hy1 : y < 100) (h : ∀ M2 : zM, FrL M0 M2 → Q (hdS V LS K n a y : Int) M2) : ∀ (x b : Nat) (M : zM), b + x = n → FrL M0 M → wp (Ev d) 4 cX4_holdersOf (some .int) Q 10 [some (.ref o), some (zI (a : Int)), some (zI y), some (zI ((bs (fun q => anyN (hB V LS K a y q) b) n : Nat) : Int)), some (zI (b : Int)), none] [] M
  | 0, b, M, e, f => by
    have hn := hV.1
    have hC2 := CV_C ho2 (FrL_C f) hC
    have lt := bs_12 (P := fun q => anyN (hB V LS K a y q) b) hn
    refine v_X4_holdersOf_10 o _ _ _ _ ho ?_
    rw [zw_n (a := b) (by omega), hC2.1, zw_n (a := bs (fun q => anyN (hB V LS K a y q) b) n) (by omega)]
    refine ⟨fun z => absurd z (by omega), fun _ => ?_⟩
    have ei : b = n := by omega
    rw [ei]
    exact h M f
  | x + 1, b, M, e, f => by
    have hn := hV.1
    have wy : zw y = y := zw_of (by omega) (by omega)
    have hC2 := CV_C ho2 (FrL_C f) hC
    refine v_X4_holdersOf_10 o _ _ _ _ ho ?_
    rw [zw_n (a := b) (by omega), hC2.1]
    refine ⟨fun _ => c_X4_isBearer (by omega) o n k V ho hV hC2 b a (by omega) ha y wy (bz_br (fun q => ?_) (fun q => ?_)), fun z => absurd (by omega) z⟩
    · rw [Bool.not_eq_true] at q
      have e2 : bs (fun q => anyN (hB V LS K a y q) b) n = bs (fun q => anyN (hB V LS K a y q) (b + 1)) n := bs_cg n (fun i hi => by rw [anyN]; unfold hB; rw [q, Bool.false_and, Bool.or_false])
      rw [e2, show (b : Int) + 1 = ((b + 1 : Nat) : Int) by omega]
      exact l_X4_hold10 hd o n k V ho ho2 hV hC LS hL K hK hb4 a ha y hy0 hy1 h x (b + 1) M (by omega) f
    · rw [← hSt_0]
      exact l_X4_hold36 hd o n k V ho ho2 hV hC2 LS (LC_C (FrL_C f) hL) K (KnA_fr (fun j => f.1 _ _ (by omega) (by omega) (by omega)) hK) hb4 a y hy0 hy1 b (by omega) q (fun M2 f2 => l_X4_hold10 hd o n k V ho ho2 hV hC LS hL K hK hb4 a ha y hy0 hy1 h x (b + 1) M2 (by omega) (FrL_tr f f2)) n 0 M (by omega) (FrL_rf M)
/-- who knows whom by a year -/
def kAll (V : zV) (k : Nat) (y : Int) : Nat → Nat := kup V (okB V y 0) k
theorem c_X4_holdersOf {d : Nat} {M : zM} {Q : Int → zM → Prop} (hd : 5 ≤ d) (o n k : Nat) (V : zV) (ho : zob o 4) (ho2 : o = 192 ∨ o = 256) (hV : Vok n k V) (hC : CV o n k V M) (LS : Option (List lwL)) (hL : LC M LS) (a : Nat) (ha : a < 12) (y : Int) (hy0 : 0 ≤ y) (hy1 : y < 100) (h : ∀ M2 : zM, FrC M M2 → Q (hdS V LS (kAll V k y) n a y : Int) M2) : Ev d mX4_holdersOf [.ref o, zI (a : Int), zI y] M Q := by
  obtain ⟨d, rfl, hdd⟩ := e_of 4 hd; replace hd := hdd
  have wy : zw y = y := zw_of (by omega) (by omega)
  refine e_X4_holdersOf o _ _ (v_X4_holdersOf_0 o _ _ ho (c_X4_learnUpTo hd o n k V ho ho2 hV hC y wy (fun M2 f1 f2 => ?_)))
  have f3 := FrK_C ho2 f1
  have := l_X4_hold10 (Q := Q) hd o n k V ho ho2 hV (CV_C ho2 f3 hC) LS (LC_C f3 hL) (kAll V k y) f2 (kup_lt hV k (by omega)) a ha y hy0 hy1 (fun M3 g => h M3 (FrC_tr f3 (FrL_C g))) n 0 M2 (by omega) (FrL_rf M2)
  rw [show bs (fun q => anyN (hB V LS (kAll V k y) a y q) 0) n = 0 from (bs_z n).mpr (by rw [Bool.eq_false_iff]; intro z; obtain ⟨i, h1, h2⟩ := (anyN_iff n).mp z; exact absurd h2 (by simp [anyN]))] at this
  exact this
/-- b's name is held in a year, as the class sees it -/
def hG (V : zV) (LS : Option (List lwL)) (K : Nat → Nat) (n : Nat) (y : Int) (a b : Nat) : Bool := brB V a y b && (decide (V 7 a = 1) || anyN (fun p => lkB V K y p b && hlB V LS y p b) n)
theorem hG_hdA (V : zV) (LS : Option (List lwL)) (K : Nat → Nat) (n : Nat) (y : Int) (a : Nat) : anyN (hG V LS K n y a) n = hdA V LS K n y a := by
  rw [Bool.eq_iff_iff]
  unfold hdA fmB
  rw [anyN_iff, Bool.or_eq_true, Bool.and_eq_true, anyN_iff, anyN_iff, decide_eq_true_iff]
  constructor
  · rintro ⟨b, h1, h2⟩
    unfold hG at h2
    rw [Bool.and_eq_true, Bool.or_eq_true, decide_eq_true_iff, anyN_iff] at h2
    obtain ⟨h3, h4 | ⟨p, h5, h6⟩⟩ := h2
    · exact Or.inl ⟨h4, b, h1, h3⟩
    · exact Or.inr ⟨p, h5, (anyN_iff n).mpr ⟨b, h1, by unfold hB; rw [h3, h6]; rfl⟩⟩
  · rintro (⟨h4, b, h1, h3⟩ | ⟨p, h5, h6⟩)
    · exact ⟨b, h1, by unfold hG; rw [h3, decide_eq_true h4]; rfl⟩
    · obtain ⟨b, h7, h8⟩ := (anyN_iff n).mp h6
      unfold hB at h8
      rw [Bool.and_eq_true] at h8
      exact ⟨b, h7, by unfold hG; rw [h8.1, (anyN_iff n).mpr ⟨p, h5, h8.2⟩, Bool.or_true]; rfl⟩
def hdBits (V : zV) (LS : Option (List lwL)) (K : Nat → Nat) (n : Nat) (y : Int) : Nat := bs (hdA V LS K n y) 12
theorem l_X4_held74 {d : Nat} {M0 : zM} {Q : Int → zM → Prop} (hd : 4 ≤ d) (o n k : Nat) (V : zV) (ho : zob o 4) (ho2 : o = 192 ∨ o = 256) (hV : Vok n k V) (hC : CV o n k V M0) (LS : Option (List lwL)) (hL : LC M0 LS) (K : Nat → Nat) (hK : KnA M0 (o + 15) n K) (hb4 : ∀ p, p < n → K p < 4096) (y : Int) (hy0 : 0 ≤ y) (hy1 : y < 100) (b : Nat) (hb : b < n) (hn2 : 0 ≤ V 2 b) (v2 v4 : Int) (h : ∀ (M2 : zM) (v5 : Int), FrL M0 M2 → v5 = bz (anyN (fun p => lkB V K y p b && hlB V LS y p b) n = true) → wp (Ev d) 4 cX4_heldIn (some .int) Q 123 [some (.ref o), some (zI y), some (zI v2), some (zI (b : Int)), some (zI v4), some (zI v5), none] [] M2) : ∀ (x i : Nat) (M : zM), i + x = n → FrL M0 M → anyN (fun p => lkB V K y p b && hlB V LS y p b) i = false → wp (Ev d) 4 cX4_heldIn (some .int) Q 74 [some (.ref o), some (zI y), some (zI v2), some (zI (b : Int)), some (zI v4), some (zI 0), some (zI (i : Int))] [] M
  | 0, i, M, e, f, g => by
    have hn := hV.1
    have hC2 := CV_C ho2 (FrL_C f) hC
    refine v_X4_heldIn_74 o _ _ _ _ _ _ ho ?_
    rw [zw_n (a := i) (by omega), hC2.1]
    refine ⟨fun z => absurd z (by omega), fun _ => h M 0 f ?_⟩
    have ei : i = n := by omega
    rw [← ei, bz_f (by rw [g]; decide)]
  | x + 1, i, M, e, f, g => by
    have hn := hV.1
    have wy : zw y = y := zw_of (by omega) (by omega)
    have hC2 := CV_C ho2 (FrL_C f) hC
    have nx : ∀ M2 : zM, FrL M0 M2 → (lkB V K y i b && hlB V LS y i b) = false → wp (Ev d) 4 cX4_heldIn (some .int) Q 74 [some (.ref o), some (zI y), some (zI v2), some (zI (b : Int)), some (zI v4), some (zI 0), some (zI ((i : Int) + 1))] [] M2 := by
      intro M2 f2 q
      rw [show (i : Int) + 1 = ((i + 1 : Nat) : Int) by omega]
      exact l_X4_held74 hd o n k V ho ho2 hV hC LS hL K hK hb4 y hy0 hy1 b hb hn2 v2 v4 h x (i + 1) M2 (by omega) f2 (by rw [anyN, g, q]; rfl)
    refine v_X4_heldIn_74 o _ _ _ _ _ _ ho ?_
    rw [zw_n (a := i) (by omega), hC2.1, zq_0]
    refine ⟨fun _ => ⟨fun _ => ?_, fun z => absurd rfl z⟩, fun z => absurd (by omega) z⟩
    refine c_X4_livesKnowing (by omega) o n k V ho hV hC2 K (KnA_fr (fun j => f.1 _ _ (by omega) (by omega) (by omega)) hK) hb4 i b (by omega) hb y wy (bz_br (fun q2 => nx M f ?_) (fun q2 => ?_))
    · rw [Bool.not_eq_true] at q2
      rw [q2, Bool.false_and]
    · refine c_X4_wouldHold hd o n k V ho ho2 hV hC2 LS (LC_C (FrL_C f) hL) i b (by omega) hb y hy0 hy1 hn2 (fun M2 f2 => bz_br (fun q3 => nx M2 (FrL_tr f f2) ?_) (fun q3 => ?_))
      · rw [Bool.not_eq_true] at q3
        rw [q3, Bool.and_false]
      · have ht : anyN (fun p => lkB V K y p b && hlB V LS y p b) n = true := (anyN_iff n).mpr ⟨i, by omega, by show (lkB V K y i b && hlB V LS y i b) = true; rw [q2, q3]; rfl⟩
        have f3 := FrL_tr f f2
        refine v_X4_heldIn_74 o _ _ _ _ _ _ ho ?_
        rw [zq_1]
        refine ⟨fun _ => ⟨fun z => absurd z (by omega), fun _ => h M2 1 f3 (by rw [bz_t ht])⟩, fun _ => h M2 1 f3 (by rw [bz_t ht])⟩
theorem l_X4_held9 {d : Nat} {M0 : zM} {Q : Int → zM → Prop} (hd : 4 ≤ d) (o n k : Nat) (V : zV) (ho : zob o 4) (ho2 : o = 192 ∨ o = 256) (hV : Vok n k V) (hC : CV o n k V M0) (LS : Option (List lwL)) (hL : LC M0 LS) (K : Nat → Nat) (hK : KnA M0 (o + 15) n K) (hb4 : ∀ p, p < n → K p < 4096) (y : Int) (hy0 : 0 ≤ y) (hy1 : y < 100) (h : ∀ M2 : zM, FrL M0 M2 → Q (hdBits V LS K n y : Int) M2) : ∀ (x b : Nat) (M : zM), b + x = n → FrL M0 M → wp (Ev d) 4 cX4_heldIn (some .int) Q 9 [some (.ref o), some (zI y), some (zI ((bs (fun a => anyN (hG V LS K n y a) b) 12 : Nat) : Int)), some (zI (b : Int)), none, none, none] [] M
  | 0, b, M, e, f => by
    have hn := hV.1
    have hC2 := CV_C ho2 (FrL_C f) hC
    have lt := bs_12 (P := fun a => anyN (hG V LS K n y a) b) (n := 12) (by omega)
    refine v_X4_heldIn_9 o _ _ _ ho ?_
    rw [zw_n (a := b) (by omega), hC2.1, zw_n (a := bs (fun a => anyN (hG V LS K n y a) b) 12) (by omega)]
    refine ⟨fun z => absurd z (by omega), fun _ => ?_⟩
    have ei : b = n := by omega
    have e3 : bs (fun a => anyN (hG V LS K n y a) b) 12 = hdBits V LS K n y := by
      unfold hdBits
      exact bs_cg 12 (fun a _ => by rw [ei]; exact hG_hdA V LS K n y a)
    rw [e3]
    exact h M f
  | x + 1, b, M, e, f => by
    have hn := hV.1
    have wy : zw y = y := zw_of (by omega) (by omega)
    have hC2 := CV_C ho2 (FrL_C f) hC
    have hv := hV.2.2.1 b (by omega)
    have lt := bs_12 (P := fun a => anyN (hG V LS K n y a) b) (n := 12) (by omega)
    have nx : ∀ (M2 : zM) (v : Int), FrL M0 M2 → v = ((bs (fun a => anyN (hG V LS K n y a) (b + 1)) 12 : Nat) : Int) → wp (Ev d) 4 cX4_heldIn (some .int) Q 9 [some (.ref o), some (zI y), some (zI v), some (zI ((b : Int) + 1)), none, none, none] [] M2 := by
      rintro M2 _ f2 rfl
      rw [show (b : Int) + 1 = ((b + 1 : Nat) : Int) by omega]
      exact l_X4_held9 hd o n k V ho ho2 hV hC LS hL K hK hb4 y hy0 hy1 h x (b + 1) M2 (by omega) f2
    have same : (∀ a, a < 12 → anyN (hG V LS K n y a) b = true ∨ hG V LS K n y a b = false) → ((bs (fun a => anyN (hG V LS K n y a) b) 12 : Nat) : Int) = ((bs (fun a => anyN (hG V LS K n y a) (b + 1)) 12 : Nat) : Int) := by
      intro q
      congr 1
      refine bs_cg 12 (fun a ha => ?_)
      rw [anyN]
      rcases q a ha with q | q
      · rw [q]; rfl
      · rw [q, Bool.or_false]
    refine v_X4_heldIn_9 o _ _ _ ho ?_
    rw [zw_n (a := b) (by omega), hC2.1, show ((b : Int)).toNat = b by omega, (hC2.2.2.2.1 b (by omega)).2.2, (hC2.2.2.2.1 b (by omega)).1, wy]
    refine ⟨fun _ => ⟨by omega, by omega, fun q => nx M _ f (same (fun a _ => Or.inr ?_)), fun q => ⟨by omega, by omega, fun q2 => nx M _ f (same (fun a _ => Or.inr ?_)), fun q2 => ?_⟩⟩, fun z => absurd (by omega) z⟩
    · unfold hG brB; rw [decide_eq_false (by omega)]; rfl
    · unfold hG brB; rw [decide_eq_false (by omega)]; rfl
    · obtain ⟨c, hc⟩ : ∃ c : Nat, V 2 b = (c : Int) := ⟨(V 2 b).toNat, by omega⟩
      have c12 : c < 12 := by omega
      have oth : ∀ a, a < 12 → a ≠ c → hG V LS K n y a b = false := by
        intro a _ ne
        unfold hG brB; rw [decide_eq_false (by omega)]; rfl
      have own : hG V LS K n y c b = (decide (V 7 c = 1) || anyN (fun p => lkB V K y p b && hlB V LS y p b) n) := by
        unfold hG brB; rw [decide_eq_true (show V 2 b = (c : Int) ∧ V 0 b ≤ y by omega), Bool.true_and]
      have bit : (bs (fun a => anyN (hG V LS K n y a) b) 12).testBit c = anyN (hG V LS K n y c) b := by rw [bs_bit]; simp [c12]
      have tc := tp_12 (p := c) c12
      have fin : ∀ (M2 : zM) (v5 : Int), FrL M0 M2 → v5 = bz (hG V LS K n y c b = true) → wp (Ev d) 4 cX4_heldIn (some .int) Q 123 [some (.ref o), some (zI y), some (zI ((bs (fun a => anyN (hG V LS K n y a) b) 12 : Nat) : Int)), some (zI (b : Int)), some (zI (c : Int)), some (zI v5), none] [] M2 := by
        rintro M2 _ f2 rfl
        refine v_X4_heldIn_123 o _ _ _ _ _ ho ?_
        refine bz_br (fun q3 => nx M2 _ f2 ?_) (fun q3 => nx M2 _ f2 ?_)
        · have z0 := zb_or (a := bs (fun a => anyN (hG V LS K n y a) b) 12) (b := 0) (by omega) (by omega)
          rw [show ((0 : Nat) : Int) = 0 by rfl, Nat.or_zero] at z0
          rw [z0]
          refine same (fun a ha => Or.inr ?_)
          by_cases e4 : a = c
          · rw [e4, Bool.eq_false_iff]; exact q3
          · exact oth a ha e4
        · rw [zb_shl (by omega), zb_or (by omega) (by omega)]
          congr 1
          refine bs_eq (fun i => ?_)
          rw [Nat.testBit_or, bs_bit, Nat.testBit_two_pow, anyN]
          by_cases e4 : i = c
          · rw [e4, q3, Bool.or_true]; simp [c12]
          · rw [decide_eq_false (show ¬ c = i from fun z => e4 z.symm), Bool.or_false]
            by_cases e5 : i < 12
            · rw [oth i e5 e4, Bool.or_false]
            · simp [e5]
      rw [hc, show ((c : Int)).toNat = c by omega, zb_bit (by omega) (by omega), bz_1, bit, (hC2.2.2.2.2.2 c c12).1]
      refine ⟨fun q3 => nx M _ f (same (fun a ha => ?_)), fun q3 => ⟨by omega, by omega, fun q4 => ?_, fun q4 => ?_⟩⟩
      · by_cases e4 : a = c
        · rw [e4]; exact Or.inl q3
        · exact Or.inr (oth a ha e4)
      · have q5 : hG V LS K n y c b = true := by rw [own, decide_eq_true q4]; rfl
        have goal := fin M 1 f (by rw [bz_t q5])
        refine v_X4_heldIn_74 o _ _ _ _ _ _ ho ?_
        rw [zq_1]
        exact ⟨fun _ => ⟨fun z => absurd z (by omega), fun _ => goal⟩, fun _ => goal⟩
      · have q5 : hG V LS K n y c b = anyN (fun p => lkB V K y p b && hlB V LS y p b) n := by rw [own, decide_eq_false q4]; rfl
        exact l_X4_held74 hd o n k V ho ho2 hV hC2 LS (LC_C (FrL_C f) hL) K (KnA_fr (fun j => f.1 _ _ (by omega) (by omega) (by omega)) hK) hb4 y hy0 hy1 b (by omega) (by omega) _ _ (fun M2 v5 f2 e5 => fin M2 v5 (FrL_tr f f2) (by rw [e5, q5])) n 0 M (by omega) (FrL_rf M) rfl
theorem c_X4_heldIn {d : Nat} {M : zM} {Q : Int → zM → Prop} (hd : 5 ≤ d) (o n k : Nat) (V : zV) (ho : zob o 4) (ho2 : o = 192 ∨ o = 256) (hV : Vok n k V) (hC : CV o n k V M) (LS : Option (List lwL)) (hL : LC M LS) (y : Int) (hy0 : 0 ≤ y) (hy1 : y < 100) (h : ∀ M2 : zM, FrC M M2 → Q (hdBits V LS (kAll V k y) n y : Int) M2) : Ev d mX4_heldIn [.ref o, zI y] M Q := by
  obtain ⟨d, rfl, hdd⟩ := e_of 4 hd; replace hd := hdd
  have wy : zw y = y := zw_of (by omega) (by omega)
  refine e_X4_heldIn o _ (v_X4_heldIn_0 o _ ho (c_X4_learnUpTo hd o n k V ho ho2 hV hC y wy (fun M2 f1 f2 => ?_)))
  have f3 := FrK_C ho2 f1
  have := l_X4_held9 (Q := Q) hd o n k V ho ho2 hV (CV_C ho2 f3 hC) LS (LC_C f3 hL) (kAll V k y) f2 (kup_lt hV k (by omega)) y hy0 hy1 (fun M3 g => h M3 (FrC_tr f3 (FrL_C g))) n 0 M2 (by omega) (FrL_rf M2)
  rw [show bs (fun a => anyN (hG V LS (kAll V k y) n y a) 0) 12 = 0 from rfl] at this
  exact this
