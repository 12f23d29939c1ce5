/-! used, needs -/
theorem ushr8 (a : Int) : 0 ≤ z_ushr a 8 ∧ z_ushr a 8 < 16777216 := by
  unfold z_ushr
  have e : (Int32.ofInt 8).toUInt32 &&& Int32.toUInt32 31 = 8 := by decide
  rw [e]
  generalize (Int32.ofInt a).toUInt32 = u
  have h1 : (u >>> 8).toNat < 16777216 := by
    rw [UInt32.toNat_shiftRight]
    have : u.toNat < 4294967296 := u.toNat_lt
    rw [show (8 : UInt32).toNat % 32 = 8 by decide, Nat.shiftRight_eq_div_pow]
    omega
  have h2 : ((u >>> 8).toInt32).toBitVec.toNat = (u >>> 8).toNat := rfl
  rw [z_int (by rw [h2]; omega), h2]
  omega
theorem rem_bd {a b : Int} (ha0 : 0 ≤ zw a) (ha1 : zw a < 16777216) (hb0 : 0 < zw b) (hb1 : zw b ≤ 100) : 0 ≤ z_rem a b ∧ z_rem a b < zw b := by
  have e1 : (Int32.ofInt a).toInt = zw a := rfl
  have e2 : (Int32.ofInt b).toInt = zw b := rfl
  unfold z_rem
  generalize zw a = A at *
  generalize zw b = B at *
  have q0 : 0 ≤ A.tdiv B := Int.tdiv_nonneg ha0 (by omega)
  have q1 : A.tdiv B ≤ A := by rw [Int.tdiv_eq_ediv_of_nonneg ha0]; exact Int.ediv_le_self B ha0
  have dm : A % B = A - A.tdiv B * B := by rw [Int.tdiv_eq_ediv_of_nonneg ha0, Int.emod_def, Int.mul_comm]
  have m0 := Int.emod_nonneg A (show B ≠ 0 by omega)
  have m1 := Int.emod_lt_of_pos A hb0
  have p0 : 0 ≤ A.tdiv B * B := Int.mul_nonneg q0 (by omega)
  have bm : ∀ x : Int, 0 ≤ x → x < 2147483648 → x.bmod (2 ^ 32) = x := fun x h0 h1 => by
    apply Int.bmod_eq_of_le
    · show -((4294967296 : Nat) : Int) / 2 ≤ x; omega
    · show x < (((4294967296 : Nat) : Int) + 1) / 2; omega
  rw [Int32.toInt_sub, Int32.toInt_mul, Int32.toInt_div, e1, e2, bm (A.tdiv B) q0 (by omega), bm (A.tdiv B * B) p0 (by omega), bm _ (by omega) (by omega)]
  omega
/-- the names' bits -/
def um (N : Nat → Int) : Nat → Nat
  | 0 => 0
  | p + 1 => if N p < 0 then um N p else um N p ||| 2 ^ (N p).toNat
theorem um_lt {N : Nat → Int} (h : ∀ p, N p < 12) : ∀ n, um N n < 4096
  | 0 => by rw [um]; decide
  | p + 1 => by
    have := h p
    rw [um]
    split
    · exact um_lt h p
    · exact or_12 (um_lt h p) (tp_12 (by omega))
theorem pcv_lt {v : Nat} (h : v < 4096) : pcv v < 4096 := by
  have := pcN_le v v
  unfold pcv; omega
theorem c_X3_namesThatCame {d : Nat} {M : zM} {Q : Int → zM → Prop} (hd : 2 ≤ d) (n : Nat) (hn : n ≤ 12) (N : Nat → Int) (hN : ∀ p, -1 ≤ N p ∧ N p < 12) (h5 : zg M 256 5 = (n : Int)) (h4 : ∀ p, p < n → zg M 260 p = N p) (h : Q (pcv (um N n) : Int) M) : Ev d mX3_namesThatCame [.ref 320] M Q := by
  obtain ⟨d, rfl, hdd⟩ := e_of 1 hd; replace hd := hdd
  have l : ∀ (x i : Nat), i + x = n → wp (Ev d) 3 cX3_namesThatCame (some .int) Q 4 [some (.ref 320), some (zI ((um N i : Nat) : Int)), some (zI (i : Int))] [] M := by
    intro x
    induction x with
    | zero =>
      intro i e
      have lt := um_lt (fun p => (hN p).2) i
      have l2 := pcv_lt lt
      refine v_X3_namesThatCame_4 _ _ ?_
      rw [zw_n (a := i) (by omega), h5]
      refine ⟨fun z => absurd z (by omega), fun _ => c_J6_bitCount hd _ lt ?_⟩
      rw [zw_n (by omega), show i = n by omega]; exact h
    | succ x ih =>
      intro i e
      have lt := um_lt (fun p => (hN p).2) i
      have b := hN i
      have nx := ih (i + 1) (by omega)
      rw [um] at nx
      refine v_X3_namesThatCame_4 _ _ ?_
      rw [zw_n (a := i) (by omega), h5, show ((i : Int)).toNat = i by omega, h4 i (by omega), show (i : Int) + 1 = ((i + 1 : Nat) : Int) by omega]
      refine ⟨fun _ => ⟨by omega, by omega, fun q => ?_, fun q => ⟨by omega, by omega, ?_⟩⟩, fun z => absurd (by omega) z⟩
      · rw [if_pos q] at nx; exact nx
      · obtain ⟨a, ha⟩ : ∃ a : Nat, N i = (a : Int) := ⟨(N i).toNat, by omega⟩
        have ta := tp_12 (p := a) (by omega)
        rw [if_neg q, ha, show ((a : Int)).toNat = a by omega] at nx
        rw [ha, zb_shl (by omega), zb_or (by omega) (by omega)]
        exact nx
  exact e_X3_namesThatCame (v_X3_namesThatCame_0 (l n 0 (by omega)))
theorem c_X8_unlikeNames {d : Nat} {M : zM} {Q : Int → zM → Prop} (hd : 2 ≤ d) (n : Nat) (hn : n ≤ 12) (N : Nat → Int) (hN : ∀ p, -1 ≤ N p ∧ N p < 12) (h5 : zg M 1280 1 = (n : Int)) (h4 : ∀ p, p < n → zg M 1315 p = N p) (h : Q (pcv (um N n) : Int) M) : Ev d mX8_unlikeNames [.ref 1280] M Q := by
  obtain ⟨d, rfl, hdd⟩ := e_of 1 hd; replace hd := hdd
  have l : ∀ (x i : Nat), i + x = n → wp (Ev d) 8 cX8_unlikeNames (some .int) Q 4 [some (.ref 1280), some (zI ((um N i : Nat) : Int)), some (zI (i : Int))] [] M := by
    intro x
    induction x with
    | zero =>
      intro i e
      have lt := um_lt (fun p => (hN p).2) i
      have l2 := pcv_lt lt
      refine v_X8_unlikeNames_4 _ _ ?_
      rw [zw_n (a := i) (by omega), h5]
      refine ⟨fun z => absurd z (by omega), fun _ => c_X8_bitsOf hd _ (by omega) ?_⟩
      rw [zw_n (by omega), show i = n by omega]; exact h
    | succ x ih =>
      intro i e
      have lt := um_lt (fun p => (hN p).2) i
      have b := hN i
      have nx := ih (i + 1) (by omega)
      rw [um] at nx
      refine v_X8_unlikeNames_4 _ _ ?_
      rw [zw_n (a := i) (by omega), h5, show ((i : Int)).toNat = i by omega, h4 i (by omega), show (i : Int) + 1 = ((i + 1 : Nat) : Int) by omega]
      refine ⟨fun _ => ⟨by omega, by omega, fun q => ?_, fun q => ⟨by omega, by omega, ?_⟩⟩, fun z => absurd (by omega) z⟩
      · rw [if_pos q] at nx; exact nx
      · obtain ⟨a, ha⟩ : ∃ a : Nat, N i = (a : Int) := ⟨(N i).toNat, by omega⟩
        have ta := tp_12 (p := a) (by omega)
        rw [if_neg q, ha, show ((a : Int)).toNat = a by omega] at nx
        rw [ha, zb_shl (by omega), zb_or (by omega) (by omega)]
        exact nx
  exact e_X8_unlikeNames (v_X8_unlikeNames_0 (l n 0 (by omega)))
/-- the sum of worths -/
def swt (V : zV) (N : Nat → Int) : Nat → Int
  | 0 => 0
  | p + 1 => if N p < 0 then swt V N p else swt V N p + V 8 (N p).toNat
theorem swt_bd {V : zV} {N : Nat → Int} (h : ∀ p, -1 ≤ N p ∧ N p < 12) (hw : ∀ a : Nat, a < 12 → 0 ≤ V 8 a ∧ V 8 a ≤ 9) : ∀ n : Nat, 0 ≤ swt V N n ∧ swt V N n ≤ 9 * (n : Int)
  | 0 => by rw [swt]; decide
  | p + 1 => by
    have a := h p
    have ih := swt_bd h hw p
    rw [swt]
    split
    · omega
    · have := hw (N p).toNat (by omega); omega
def cng (N : Nat → Int) : Nat → Nat
  | 0 => 0
  | p + 1 => if N p < 0 then cng N p + 1 else cng N p
theorem cng_nmd (N : Nat → Int) : ∀ n, nmd N n + cng N n = n
  | 0 => rfl
  | p + 1 => by
    have := cng_nmd N p
    rw [cng, nmd]
    split <;> omega
theorem c_X3_sumOfWorths {d : Nat} {M : zM} {Q : Int → zM → Prop} (hd : 1 ≤ d) (n : Nat) (hn : n ≤ 12) (V : zV) (N : Nat → Int) (hN : ∀ p, -1 ≤ N p ∧ N p < 12) (hw : ∀ a : Nat, a < 12 → 0 ≤ V 8 a ∧ V 8 a ≤ 9) (h5 : zg M 256 5 = (n : Int)) (h4 : ∀ p, p < n → zg M 260 p = N p) (h8 : ∀ a : Nat, a < 12 → zg M 269 a = V 8 a) (h : Q (swt V N n) M) : Ev d mX3_sumOfWorths [.ref 320] M Q := by
  obtain ⟨d, rfl, -⟩ := e_of 0 hd
  have l : ∀ (x i : Nat), i + x = n → wp (Ev d) 3 cX3_sumOfWorths (some .int) Q 4 [some (.ref 320), some (zI (swt V N i)), some (zI (i : Int))] [] M := by
    intro x
    induction x with
    | zero =>
      intro i e
      have bd := swt_bd hN hw i
      refine v_X3_sumOfWorths_4 _ _ ?_
      rw [zw_n (a := i) (by omega), h5, zw_of (a := swt V N i) (by omega) (by omega)]
      refine ⟨fun z => absurd z (by omega), fun _ => ?_⟩
      rw [show i = n by omega]; exact h
    | succ x ih =>
      intro i e
      have b := hN i
      have nx := ih (i + 1) (by omega)
      rw [swt] at nx
      refine v_X3_sumOfWorths_4 _ _ ?_
      rw [zw_n (a := i) (by omega), h5, show ((i : Int)).toNat = i by omega, h4 i (by omega), show (i : Int) + 1 = ((i + 1 : Nat) : Int) by omega]
      refine ⟨fun _ => ⟨by omega, by omega, fun q => ?_, fun q => ⟨by omega, by omega, by omega, by omega, ?_⟩⟩, fun z => absurd (by omega) z⟩
      · rw [if_pos q] at nx; exact nx
      · rw [if_neg q] at nx; rw [h8 _ (by omega)]; exact nx
  exact e_X3_sumOfWorths (v_X3_sumOfWorths_0 (l n 0 (by omega)))
theorem l_X8_used {E : zE} {M : zM} {Q : Int → zM → Prop} (n : Nat) (hn : n ≤ 12) (V : zV) (N : Nat → Int) (hN : ∀ p, -1 ≤ N p ∧ N p < 12) (hw : ∀ a : Nat, a < 12 → 0 ≤ V 8 a ∧ V 8 a ≤ 9) (h5 : zg M 1280 1 = (n : Int)) (h4 : ∀ p, p < n → zg M 1315 p = N p) (h8 : ∀ a : Nat, a < 12 → zg M 1291 a = V 8 a) (w : Int) (hww : w = 1 ∨ w = 2) (h : Q (if w = 1 then swt V N n else (cng N n : Int)) M) : ∀ (x i : Nat), i + x = n → wp E 8 cX8_used (some .int) Q 39 [some (.ref 1280), none, some (zI w), some (zI (if w = 1 then swt V N i else (cng N i : Int))), some (zI (i : Int))] [] M
  | 0, i, e => by
    have bd := swt_bd hN hw i
    have bc := cng_nmd N i
    refine v_X8_used_39 _ _ _ ?_
    have w1 : zw (if w = 1 then swt V N i else (cng N i : Int)) = (if w = 1 then swt V N i else (cng N i : Int)) := by
      split
      · exact zw_of (by omega) (by omega)
      · exact zw_n (by omega)
    rw [zw_n (a := i) (by omega), h5, w1]
    refine ⟨fun z => absurd z (by omega), fun _ => ?_⟩
    rw [show i = n by omega]; exact h
  | x + 1, i, e => by
    have b := hN i
    have nx := l_X8_used (E := E) n hn V N hN hw h5 h4 h8 w hww h x (i + 1) (by omega)
    have ww : zw w = w := zw_of (by omega) (by omega)
    have i1 : zw (i : Int) = (i : Int) := zw_n (by omega)
    have e1 : (i : Int) + 1 = ((i + 1 : Nat) : Int) := by omega
    refine v_X8_used_39 _ _ _ ?_
    rw [i1, h5, ww, show ((i : Int)).toNat = i by omega, h4 i (by omega)]
    refine ⟨fun _ => ⟨fun q => ⟨by omega, by omega, fun q2 => v_X8_used_78 _ _ _ ?_, fun q2 => ⟨by omega, by omega, by omega, by omega, v_X8_used_78 _ _ _ ?_⟩⟩, fun q => v_X8_used_78 _ _ _ ?_⟩, fun z => absurd (by omega) z⟩
    · rw [ww, i1, e1]
      rw [if_pos q, swt, if_pos q2] at nx
      rw [if_pos q]
      exact ⟨fun z => absurd z (by omega), fun _ => nx⟩
    · rw [ww, i1, e1]
      rw [if_pos q, swt, if_neg q2, ← h8 _ (by omega)] at nx
      rw [if_pos q]
      exact ⟨fun z => absurd z (by omega), fun _ => nx⟩
    · rw [ww, i1, e1, show ((i : Int)).toNat = i by omega, h4 i (by omega)]
      rw [if_neg q, cng] at nx
      rw [if_neg q]
      refine ⟨fun _ => ⟨by omega, by omega, fun q2 => ?_, fun q2 => ?_⟩, fun z => absurd (by omega) z⟩
      · rw [if_pos q2] at nx
        rw [show (cng N i : Int) + 1 = ((cng N i + 1 : Nat) : Int) by omega]; exact nx
      · rw [if_neg q2] at nx; exact nx
theorem p_used {d : Nat} {M : zM} (hd : 11 ≤ d) (w v : Int) (hw : zw w = w) (hv : zw v = v) (hI : Inv M) : Pr d mX7_used mX8_used [zI w, zI v] M := by
  obtain ⟨n, k, n1, k1, hV, hC, LS, hL, hL2⟩ := Inv_V hI
  have hn := hV.1
  have hO := Inv_O hI n1
  have h8 : ∀ a : Nat, a < 12 → 0 ≤ vR M 8 a ∧ vR M 8 a ≤ 9 := fun a ha => (hV.2.2.2.2.2.2.2 a ha).2.2
  obtain ⟨d, rfl, hdd⟩ := e_of 10 hd; replace hd := hdd
  have R : ∀ (r : Int) (M1 : zM), FrW M M1 → (¬ ((0 ≤ w ∧ w < 3) ∧ 0 ≤ v ∧ v ≤ 2) → r = -1) → ((0 ≤ w ∧ w < 3) ∧ 0 ≤ v ∧ v ≤ 2 → r = if v = 0 then (pcv (um (nmU (vR M) LS n k (fun j => zg M 197 j) w n) n) : Int) else if v = 1 then swt (vR M) (nmU (vR M) LS n k (fun j => zg M 197 j) w n) n else (cng (nmU (vR M) LS n k (fun j => zg M 197 j) w n) n : Int)) → Ev (d + 1) mX8_used [.ref 1280, zI w, zI v] M1 (fun r2 M2 => r = r2 ∧ Inv M2) := by
    intro r M1 fw hb hg
    refine e_X8_used _ _ (v_X8_used_0 _ _ (c_X8_in (by omega) _ _ _ ?_))
    rw [hw, zq_0, zq_2]
    refine bz_br (fun q => ⟨hb (by omega), Inv_W fw hI⟩) (fun q => c_X8_in (by omega) _ _ _ ?_)
    rw [hv, zq_0, zq_2]
    refine bz_br (fun q2 => ⟨hb (by omega), Inv_W fw hI⟩) (fun q2 => ?_)
    have g := hg ⟨by omega, q2⟩
    refine c_X8_runBy hd n k (vR M) LS (fun j => zg M 197 j) hV hO w (by omega) (RV_W0 n1 k1 fw) (LR_W fw hL2) (fun M2 f1 f2 => ?_)
    have fw2 := FrW_tr fw (FrB_W f1)
    have iv := Inv_W fw2 hI
    have x1 : zg M2 1280 1 = (n : Int) := by rw [W1 fw2]; exact n1
    have nb := fun p => nmU_bd (vR M) LS n k (fun j => zg M 197 j) w n p
    refine ⟨fun q3 => c_X8_unlikeNames (by omega) n hn _ nb x1 f2 ?_, fun q3 => ?_⟩
    · have l2 := pcv_lt (um_lt (fun p => (nb p).2) n)
      rw [if_pos q3] at g
      rw [zw_n (by omega)]
      exact ⟨g, iv⟩
    · rw [if_neg q3] at g
      have go := l_X8_used (E := Ev d) (Q := fun r2 M2 => r = r2 ∧ Inv M2) (M := M2) n hn (vR M) _ nb h8 x1 f2 (fun a ha => by rw [fw2.1 _ _ (by omega) (by omega) (by omega) (by omega) (by omega) (by omega) (by omega) (by omega) (by omega) (by omega) (by omega)]; rfl) v (by omega) ⟨g, iv⟩ n 0 (by omega)
      rw [show (if v = 1 then swt (vR M) (nmU (vR M) LS n k (fun j => zg M 197 j) w n) 0 else (cng (nmU (vR M) LS n k (fun j => zg M 197 j) w n) 0 : Int)) = 0 by split <;> rfl] at go
      exact go
  refine e_X7_used _ _ (v_X7_used_0 _ _ (c_X7_isWay (by omega) w ?_))
  rw [hw, hv]
  refine bz_br (fun q => R _ _ (FrW_rf M) (fun _ => rfl) (fun z => absurd z.1 q)) (fun q => ⟨fun q2 => R _ _ (FrW_rf M) (fun _ => rfl) (fun z => absurd z.2 (by omega)), fun q2 => ⟨fun q3 => R _ _ (FrW_rf M) (fun _ => rfl) (fun z => absurd z.2 (by omega)), fun q3 => c_X3_begin (by omega) n k (vR M) hV hC (fun M2 f1 f2 f3 f4 f5 => ?_)⟩⟩)
  refine c_X3_nameAll (by omega) n k (vR M) LS (fun j => zg M 197 j) hV hO w (by omega) (LC_T f1 hL) _ f2 f3 (fun M3 g1 g2 g3 => ?_)
  have fw := FrT_W (FrT_tr f1 g1)
  have nb := fun p => nmU_bd (vR M) LS n k (fun j => zg M 197 j) w n p
  have c : ∀ p, p < n → zg M3 260 p = nmU (vR M) LS n k (fun j => zg M 197 j) w n p := fun p hp => by
    have := (g2.2.2.2.1 p hp).2.2
    rw [vNm_2] at this; exact this
  refine ⟨fun y => c_X3_namesThatCame (by omega) n hn _ nb g2.1 c ?_, fun y => ⟨fun y2 => c_X3_sumOfWorths (by omega) n hn (vR M) _ nb h8 g2.1 c (fun a ha => ?_) ?_, fun y2 => ?_⟩⟩
  · have l2 := pcv_lt (um_lt (fun p => (nb p).2) n)
    rw [zw_n (by omega)]
    exact R _ _ fw (fun z => absurd (by omega) z) (fun _ => by rw [if_pos y])
  · have := (g2.2.2.2.2.2 a ha).2
    rw [vNm_ne _ _ (by omega)] at this; exact this
  · have bd := swt_bd nb h8 n
    rw [zw_of (a := swt (vR M) (nmU (vR M) LS n k (fun j => zg M 197 j) w n) n) (by omega) (by omega)]
    exact R _ _ fw (fun z => absurd (by omega) z) (fun _ => by rw [if_neg y, if_pos y2])
  · obtain ⟨d2, rfl, -⟩ := e_of 9 hd
    refine e_X3_peopleWithout (v_X3_peopleWithout_0 (c_X4_namedPeople (by omega) 256 ob_256 n hn g2.1 (fun i hi => by rw [show zg M3 (256 + 4) i = _ from c i hi]; exact (nb i).1) ?_))
    have e1 : nmd (fun i => zg M3 (256 + 4) i) n = nmd (nmU (vR M) LS n k (fun j => zg M 197 j) w n) n := nmd_cg (fun i hi => c i hi)
    have e2 := cng_nmd (nmU (vR M) LS n k (fun j => zg M 197 j) w n) n
    rw [e1, g2.1, show (n : Int) - ((nmd (nmU (vR M) LS n k (fun j => zg M 197 j) w n) n : Nat) : Int) = ((cng (nmU (vR M) LS n k (fun j => zg M 197 j) w n) n : Nat) : Int) by omega, zw_n (by omega), zw_n (by omega)]
    exact R _ _ fw (fun z => absurd (by omega) z) (fun _ => by rw [if_neg y, if_neg y2])
