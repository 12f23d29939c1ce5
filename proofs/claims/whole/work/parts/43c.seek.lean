/-! the class seeks the fewest -/
def frN (n k : Nat) (V : zV) (y : Int) (H : Nat → Nat) (s : Nat) : Prop := ∀ p b : Nat, p < n → b < n → (kup V (okB V y s) k p).testBit b = true → (H p).testBit b = false
theorem l_X5_chain66 {d : Nat} {M : zM} {Q : Int → zM → Prop} (n k : Nat) (V : zV) (hV : Vok n k V) (hC : CV 192 n k V M) (K H : Nat → Nat) (hK : KnA M 207 n K) (hKb : ∀ p, p < n → K p < 4096) (hH : ∀ p, p < n → zg M 386 p = (H p : Int) ∧ H p < 4096) (h0 : (∀ p b : Nat, p < n → b < n → (K p).testBit b = true → (H p).testBit b = false) → Q 0 M) (h1 : ∀ p b : Nat, p < n → b < n → (K p).testBit b = true → (H p).testBit b = true → Ev d mX5_chainOf [.ref 384, zI (p : Int), zI (b : Int)] M (fun r1 M2 => Q (zw r1) M2)) : ∀ (x p : Nat), p + x = n → (∀ p2 b : Nat, p2 < p → b < n → (K p2).testBit b = true → (H p2).testBit b = false) → wp (Ev d) 5 cX5_chainWithout (some .int) Q 66 [some (.ref 384), none, some (zI (p : Int)), none, none] [] M := by
  intro x
  induction x with
  | zero =>
    intro p e g
    have hn := hV.1
    refine v_X5_chainWithout_66 _ ?_
    rw [zw_n (a := p) (by omega), hC.1]
    refine ⟨fun z => absurd z (by omega), fun _ => h0 (fun p2 b a1 a2 => g p2 b (by omega) a2)⟩
  | succ x ih =>
    intro p e g
    have hn := hV.1
    have kb := hKb p (by omega)
    have hb := hH p (by omega)
    have al : K p &&& H p < 4096 := Nat.lt_of_le_of_lt Nat.and_le_left kb
    refine v_X5_chainWithout_66 _ ?_
    rw [zw_n (a := p) (by omega), hC.1, show ((p : Int)).toNat = p by omega, hK p (by omega), hb.1, zb_and (by omega) (by omega)]
    refine ⟨fun _ => ⟨by omega, by omega, by omega, by omega, ?_⟩, fun z => absurd (by omega) z⟩
    have nx : (∀ b : Nat, b < n → (K p &&& H p).testBit b = false) → wp (Ev d) 5 cX5_chainWithout (some .int) Q 66 [some (.ref 384), none, some (zI ((p : Int) + 1)), none, none] [] M := by
      intro q
      rw [show (p : Int) + 1 = ((p + 1 : Nat) : Int) by omega]
      refine ih (p + 1) (by omega) (fun p2 b a1 a2 a3 => ?_)
      by_cases y : p2 = p
      · subst y
        have := q b a2
        rw [Nat.testBit_and, a3, Bool.true_and] at this
        exact this
      · exact g p2 b (by omega) a2 a3
    have l2 : ∀ (x2 b : Nat), b + x2 = n → (∀ b2 : Nat, b2 < b → (K p &&& H p).testBit b2 = false) → wp (Ev d) 5 cX5_chainWithout (some .int) Q 97 [some (.ref 384), none, some (zI (p : Int)), some (zI ((K p &&& H p : Nat) : Int)), some (zI (b : Int))] [] M := by
      intro x2
      induction x2 with
      | zero =>
        intro b e2 g2
        refine v_X5_chainWithout_97 _ _ _ ?_
        rw [zw_n (a := b) (by omega), hC.1]
        exact ⟨fun z => absurd z (by omega), fun _ => nx (fun b2 a => g2 b2 (by omega))⟩
      | succ x2 ih2 =>
        intro b e2 g2
        refine v_X5_chainWithout_97 _ _ _ ?_
        rw [zw_n (a := b) (by omega), hC.1, zw_n (a := K p &&& H p) (by omega), zb_bit (by omega) (by omega), bz_1, show (b : Int) + 1 = ((b + 1 : Nat) : Int) by omega]
        refine ⟨fun _ => ⟨fun q => nx (fun b2 a => ?_), fun q => ⟨fun q2 => ?_, fun q2 => ih2 (b + 1) (by omega) (fun b2 a => ?_)⟩⟩, fun z => absurd (by omega) z⟩
        · rw [show K p &&& H p = 0 by omega, Nat.zero_testBit]
        · rw [Nat.testBit_and, Bool.and_eq_true] at q2
          exact h1 p b (by omega) (by omega) q2.1 q2.2
        · by_cases y : b2 = b
          · subst y; rw [Bool.not_eq_true] at q2; exact q2
          · exact g2 b2 (by omega)
    exact l2 n 0 (by omega) (fun b2 a => absurd a (by omega))
theorem c_X5_chainWithout {d : Nat} {M0 : zM} {Q : Int → zM → Prop} (hd : 4 ≤ d) (n k : Nat) (V : zV) (hV : Vok n k V) (hC : CV 192 n k V M0) (y : Int) (hy : zw y = y) (h3 : zg M0 384 3 = y) (w : Nat) (hw : w < 65536) (H : Nat → Nat) (hH : ∀ p, p < n → zg M0 386 p = (H p : Int) ∧ H p < 4096) (hs : ∀ p, p < n → (H p).testBit p = false) (hf : frN n k V y H w → ∀ M2 : zM, FrJ M0 M2 → Q 0 M2) (hn : ∀ c : Nat, c < 65536 → c ≠ 0 → (∀ m, c.testBit m = true → m < k ∧ okB V y w m = true) → (∀ s, frN n k V y H s → ∃ m, c.testBit m = true ∧ s.testBit m = true) → ¬ frN n k V y H w → ∀ M2 : zM, FrJ M0 M2 → Q (c : Int) M2) : Ev d mX5_chainWithout [.ref 384, zI (w : Int)] M0 Q := by
  obtain ⟨d, rfl, hdd⟩ := e_of 3 hd; replace hd := hdd
  have hn2 := hV.1
  have hk2 := hV.2.1
  have l : ∀ (x j : Nat) (M : zM), j + x = k → FrJ M0 M → KnA M 207 n (kup V (okB V y w) j) → LbP n k V (okB V y w) (LfM M) j → NnA M n (kup V (okB V y w) j) → wp (Ev d) 5 cX5_chainWithout (some .int) Q 9 [some (.ref 384), some (zI (w : Int)), some (zI (j : Int)), none, none] [] M := by
    intro x
    induction x with
    | zero =>
      intro j M e f hK hL hN
      have ej : j = k := by omega
      subst ej
      have hC2 := CV_J f hC
      refine v_X5_chainWithout_9 _ _ ?_
      rw [zw_n (a := j) (by omega), hC2.2.1]
      refine ⟨fun z => absurd z (by omega), fun _ => ?_⟩
      refine l_X5_chain66 n j V hV hC2 _ H hK (kup_lt hV j (by omega)) (fun p hp => by rw [f.1 _ _ (by omega) (by omega)]; exact hH p hp) (fun g => hf g M f) (fun p b a1 a2 a3 a4 => ?_) n 0 (by omega) (fun p2 b z => absurd z (by omega))
      refine c_X5_chainOf (by omega) n j V hV hC2 _ hL hN p b a1 a2 a3 (fun lt => ?_)
      rw [zw_n (by omega)]
      have ne : p ≠ b := fun z => by subst z; rw [hs p a1] at a4; cases a4
      refine hn _ lt (fun z => ?_) (fun m hm => ch_in hV hL a2 16 p a1 a3 m hm) (fun s fs => ?_) (fun z => ?_) M f
      · have := ch_ne (V := V) (Lf := LfM M) (x := 15) ne
        rw [z, Nat.zero_testBit] at this
        cases this
      · refine Classical.byContradiction (fun nx => ?_)
        have dj : ∀ m, (chF V (LfM M) b 16 p).testBit m = true → s.testBit m = false := by
          intro m hm
          rw [Bool.eq_false_iff]
          exact fun z => nx ⟨m, hm, z⟩
        have := fs p b a1 a2 (ch_ok hV hL a2 16 p j a1 (by omega) (Nat.le_refl _) a3 s dj)
        rw [a4] at this
        cases this
      · have := z p b a1 a2 a3
        rw [a4] at this
        cases this
    | succ x ih =>
      intro j M e f hK hL hN
      have hC2 := CV_J f hC
      have g6 := hV.2.2.2.2.1 j (by omega)
      obtain ⟨m, hm⟩ : ∃ m : Nat, V 6 j = (m : Int) := ⟨(V 6 j).toNat, by omega⟩
      have tm : ((m : Int)).toNat = m := by omega
      have nk : okB V y w m = false → kup V (okB V y w) (j + 1) = kup V (okB V y w) j := fun q => by
        funext p; rw [kup, hm, tm, if_neg (by rw [q]; decide)]
      have skip : ∀ M2 : zM, FrJ M0 M2 → KnA M2 207 n (kup V (okB V y w) j) → LbP n k V (okB V y w) (LfM M2) j → NnA M2 n (kup V (okB V y w) j) → okB V y w m = false → wp (Ev d) 5 cX5_chainWithout (some .int) Q 9 [some (.ref 384), some (zI (w : Int)), some (zI ((j : Int) + 1)), none, none] [] M2 := by
        intro M2 a1 a2 a3 a4 q
        rw [show (j : Int) + 1 = ((j + 1 : Nat) : Int) by omega]
        refine ih (j + 1) M2 (by omega) a1 (by rw [nk q]; exact a2) (LbP_no a3 (by rw [hm, tm]; exact q)) (by rw [nk q]; exact a4)
      refine v_X5_chainWithout_9 _ _ ?_
      rw [zw_n (a := j) (by omega), hC2.2.1, show ((j : Int)).toNat = j by omega, show zg M 202 j = V 6 j from (hC2.2.2.2.2.1 j (by omega)).2.2.2, hm, zb_bit (by omega) (by omega), bz_0, f.1 384 3 (by omega) (by omega), h3]
      refine ⟨fun _ => ⟨by omega, by omega, fun q => c_X4_countsBy hd 192 n k V ob_192 hV hC2 m (by omega) y hy (bz_br (fun q2 => skip M f hK hL hN ?_) (fun q2 => ?_)), fun q => skip M f hK hL hN ?_⟩, fun z => absurd (by omega) z⟩
      · unfold okB; rw [decide_eq_false q2, Bool.false_and]
      · rw [Bool.not_eq_true] at q
        have okm : okB V y w m = true := by unfold okB; rw [decide_eq_true q2, q]; rfl
        have ke : ∀ c, kup V (okB V y w) (j + 1) c = ks V m (kup V (okB V y w) j) c := fun c => by rw [kup, hm, tm, if_pos okm]
        refine c_X5_greetAndNote (by omega) n k V hV hC2 m (by omega) _ hK (kup_lt hV j (by omega)) (fun M2 f2 k2 e2 => ?_)
        rw [show (j : Int) + 1 = ((j + 1 : Nat) : Int) by omega]
        refine ih (j + 1) M2 (by omega) (FrJ_tr f f2) (fun p hp => by rw [ke]; exact k2 p hp) (LbP_s hV hL hm (by omega) okm (fun c p hc hp => ?_)) (fun a b ha hb ne hh => ?_)
        · unfold LfM
          rw [e2 c p hc (by omega), ke]
          by_cases y2 : (ks V m (kup V (okB V y w) j) c).testBit p = true ∧ (kup V (okB V y w) j c).testBit p = false
          · rw [if_pos y2, if_pos y2]; omega
          · rw [if_neg y2, if_neg y2]
        · rw [e2 a b ha (by omega)]
          by_cases y2 : (ks V m (kup V (okB V y w) j) a).testBit b = true ∧ (kup V (okB V y w) j a).testBit b = false
          · rw [if_pos y2]; omega
          · rw [if_neg y2]
            rw [ke] at hh
            refine hN a b ha hb ne ?_
            cases z : (kup V (okB V y w) j a).testBit b with
            | true => rfl
            | false => exact absurd ⟨hh, z⟩ y2
      · unfold okB
        rw [Classical.not_not.mp q]; simp
  refine e_X5_chainWithout _ (v_X5_chainWithout_0 _ (c_X4_knowOneself (by omega) 192 ob_192 n hn2 hC.1 (fun M2 f1 f2 => ?_)))
  refine l k 0 M2 (by omega) ⟨fun i j a _ => f1.1 i j a, f1.2⟩ f2 (LbP_0 _ _ _ _ _) (fun a b _ _ ne hh => ?_)
  rw [kup, Nat.testBit_two_pow, decide_eq_true_iff] at hh
  exact absurd hh ne
/-- all meetings that count by a year -/
def AL (k : Nat) (V : zV) (y : Int) : Nat := bs (okB V y 0) k
theorem AL_lt {k : Nat} (V : zV) (y : Int) (hk : k ≤ 16) : AL k V y < 65536 := Nat.lt_of_lt_of_le (bs_lt _ k) (show 2 ^ k ≤ 2 ^ 16 from Nat.pow_le_pow_right (by omega) hk)
theorem AL_in {k : Nat} {V : zV} {y : Int} {w m : Nat} (hm : m < k) (h : okB V y w m = true) : (AL k V y).testBit m = true := by
  unfold AL
  rw [bs_bit, decide_eq_true hm, ok_sub h (Nat.zero_testBit m)]; rfl
def FrI5 (M M2 : zM) : Prop := (∀ i j, i ≠ 207 → i ≠ 387 → ¬ (i = 384 ∧ (j = 4 ∨ j = 5)) → zg M2 i j = zg M i j) ∧ (∀ i j, zh M2 i j = zh M i j)
theorem FrI5_rf (M : zM) : FrI5 M M := ⟨fun _ _ _ _ _ => rfl, fun _ _ => rfl⟩
theorem FrI5_tr {M M2 M3 : zM} (h : FrI5 M M2) (g : FrI5 M2 M3) : FrI5 M M3 := ⟨fun i j a b c => by rw [g.1 i j a b c, h.1 i j a b c], fun i j => by rw [g.2, h.2]⟩
theorem FrJ_I {M M2 : zM} (h : FrJ M M2) : FrI5 M M2 := ⟨fun i j a b _ => h.1 i j a b, h.2⟩
theorem CV_I5 {n k : Nat} {V : zV} {M M2 : zM} (h : FrI5 M M2) (g : CV 192 n k V M) : CV 192 n k V M2 := by
  have e : ∀ a j, a < 15 → zg M2 (192 + a) j = zg M (192 + a) j := fun a j ha => h.1 _ _ (by omega) (by omega) (by omega)
  have e0 : ∀ j, zg M2 192 j = zg M 192 j := fun j => e 0 j (by omega)
  unfold CV
  simp only [e0, e 2 _ (by omega), e 3 _ (by omega), e 4 _ (by omega), e 7 _ (by omega), e 8 _ (by omega), e 9 _ (by omega), e 10 _ (by omega), e 13 _ (by omega), e 14 _ (by omega)]
  exact g
def SB (n k : Nat) (V : zV) (y : Int) (H : Nat → Nat) (M : zM) (b c : Nat) : Prop := zg M 384 4 = (b : Int) ∧ zg M 384 5 = (c : Int) ∧ b < 65536 ∧ c ≤ 17 ∧ ((c = 17 ∧ b = 0) ∨ (c = pcv b ∧ sub b (AL k V y) ∧ frN n k V y H b))
def SkP (n k : Nat) (V : zV) (y : Int) (H : Nat → Nat) (x : Nat) : Prop := ∀ (d w kp sz b c : Nat) (M : zM) (Q : Int → zM → Prop), x + 4 ≤ d → sz + x = 17 → w < 65536 → kp < 65536 → sub w (AL k V y) → sz = pcv w → sz ≤ c → CV 192 n k V M → zg M 384 3 = y → (∀ p, p < n → zg M 386 p = (H p : Int) ∧ H p < 4096) → SB n k V y H M b c → (∀ (b2 c2 : Nat) (M2 : zM), FrI5 M M2 → SB n k V y H M2 b2 c2 → leS c2 b2 c b → (∀ s : Nat, s < 65536 → sub s (AL k V y) → frN n k V y H s → sub w s → (∀ m, kp.testBit m = true → s.testBit m = false) → leS c2 b2 (pcv s) s) → Q 0 M2) → Ev d mX5_seek [.ref 384, zI (w : Int), zI (kp : Int), zI (sz : Int)] M Q
theorem or_16 {a b : Nat} (ha : a < 65536) (hb : b < 65536) : a ||| b < 65536 := Nat.or_lt_two_pow (n := 16) ha hb
theorem tp_16 {p : Nat} (h : p < 16) : 2 ^ p < 65536 := Nat.pow_lt_pow_right (a := 2) (n := 16) (by omega) h
theorem bit_16 {c i : Nat} (hc : c < 65536) (h : c.testBit i = true) : i < 16 := by
  by_cases q : i < 16
  · exact q
  · have : c.testBit i = false := Nat.testBit_lt_two_pow (Nat.lt_of_lt_of_le hc (show 2 ^ 16 ≤ 2 ^ i from Nat.pow_le_pow_right (by omega) (by omega)))
    rw [this] at h; cases h
theorem sk_ok {n k : Nat} {V : zV} (hV : Vok n k V) {y : Int} (hy : zw y = y) {H : Nat → Nat} (hs : ∀ p, p < n → (H p).testBit p = false) : ∀ x, SkP n k V y H x := by
  intro x
  induction x with
  | zero =>
    intro d w kp sz b c M Q _ e hw _ _ es _ _ _ _ _ _
    have := pcv_16 hw
    omega
  | succ x ih =>
    intro d w kp sz b c M Q hd e hw hkp hsub es hle hC h3 hH hB K
    have k16 := hV.2.1
    obtain ⟨d, rfl, hdd⟩ := e_of (x + 4) (show x + 4 + 1 ≤ d by omega)
    have p16 := pcv_16 hw
    obtain ⟨B1, B2, B3, B4, B5⟩ := id hB
    refine e_X5_seek _ _ _ (v_X5_seek_0 _ _ _ (c_X5_chainWithout (by omega) n k V hV hC y hy h3 w hw H hH hs (fun fw M2 f => ?_) (fun ch c1 c2 c3 c4 c5 M2 f => ?_)))
    · have e4 : zg M2 384 4 = (b : Int) := by rw [f.1 _ _ (by omega) (by omega)]; exact B1
      have e5 : zg M2 384 5 = (c : Int) := by rw [f.1 _ _ (by omega) (by omega)]; exact B2
      rw [zq_0, zw_n (a := sz) (by omega), zw_n (a := w) (by omega), e4, e5]
      have cov : ∀ s : Nat, s < 65536 → sub s (AL k V y) → frN n k V y H s → sub w s → (∀ m, kp.testBit m = true → s.testBit m = false) → leS sz w (pcv s) s := by
        intro s s1 _ _ s4 _
        have a := pcv_mo hw s1 s4
        by_cases q : pcv w = pcv s
        · have := pcv_eq hw s1 s4 q
          subst this
          exact Or.inr ⟨es, Nat.le_refl _⟩
        · exact Or.inl (by omega)
      have set : leS sz w c b → ∀ M3 : zM, M3 = zs M2 384 4 (w : Int) → ∀ M4 : zM, M4 = zs M3 384 5 (sz : Int) → Q 0 M4 := by
        rintro hl _ rfl _ rfl
        refine K w sz _ (FrI5_tr (FrJ_I f) ⟨fun i j _ _ q => by rw [zg_zs, if_neg (by omega), zg_zs, if_neg (by omega)], fun _ _ => rfl⟩) ⟨by rw [zg_zsj _ _ _ _ (by omega), zg_zs1, zw_n (by omega)], by rw [zg_zs1, zw_n (by omega)], hw, by omega, Or.inr ⟨es, hsub, fw⟩⟩ hl cov
      refine ⟨fun _ => ⟨fun q => set (Or.inl (by omega)), fun q => ⟨fun q2 => set (Or.inr ⟨by omega, by omega⟩), fun q2 => ?_⟩⟩, fun z => absurd rfl z⟩
      refine K b c M2 (FrJ_I f) ⟨e4, e5, B3, B4, B5⟩ (leS_rf _ _) (fun s s1 s2 s3 s4 s5 => leS_tr (Or.inr ⟨by omega, by omega⟩) (cov s s1 s2 s3 s4 s5))
    · rw [zw_n (a := ch) (by omega)]
      refine ⟨fun z => absurd z (by omega), fun _ => ?_⟩
      have big : ∀ s : Nat, s < 65536 → frN n k V y H s → sub w s → sz < pcv s := by
        intro s s1 s3 s4
        have a := pcv_mo hw s1 s4
        by_cases q : pcv w = pcv s
        · have := pcv_eq hw s1 s4 q
          subst this
          exact absurd s3 c5
        · omega
      have l : ∀ (x2 m st b2 c2' : Nat) (M3 : zM), m + x2 = 16 → st < 65536 → (∀ i, st.testBit i = (kp.testBit i || (ch.testBit i && decide (i < m)))) → FrI5 M M3 → SB n k V y H M3 b2 c2' → leS c2' b2 c b → (∀ s : Nat, s < 65536 → sub s (AL k V y) → frN n k V y H s → sub w s → (∀ i, kp.testBit i = true → s.testBit i = false) → (∃ i, i < m ∧ ch.testBit i = true ∧ s.testBit i = true) → leS c2' b2 (pcv s) s) → wp (Ev d) 5 cX5_seek none Q 45 [some (.ref 384), some (zI (w : Int)), none, some (zI (sz : Int)), some (zI (ch : Int)), some (zI (st : Int)), some (zI (m : Int))] [] M3 := by
        intro x2
        induction x2 with
        | zero =>
          intro m st b2 c2' M3 em hst est f3 hB3 hl cov
          refine v_X5_seek_45 _ _ _ _ _ ?_
          rw [zw_n (a := m) (by omega)]
          refine ⟨fun z => absurd z (by omega), fun _ => K b2 c2' M3 f3 hB3 hl (fun s s1 s2 s3 s4 s5 => ?_)⟩
          obtain ⟨i, i1, i2⟩ := c4 s s3
          exact cov s s1 s2 s3 s4 s5 ⟨i, by have := bit_16 c1 i1; omega, i1, i2⟩
        | succ x2 ih2 =>
          intro m st b2 c2' M3 em hst est f3 hB3 hl cov
          obtain ⟨D1, D2, D3, D4, D5⟩ := id hB3
          have al : andn ch st < 65536 := andn_lt (n := 16) c1
          have ab : ∀ i, (andn ch st).testBit i = (ch.testBit i && !st.testBit i) := andn_bit ch st
          have tm := tp_16 (p := m) (by omega)
          refine v_X5_seek_45 _ _ _ _ _ ?_
          rw [zw_n (a := m) (by omega), zw_n (a := sz) (by omega), D2, zb_andn (by omega) (by omega), zb_bit (by omega) (by omega), bz_1, zb_shr (by omega) (by omega), zb_shl (by omega), zb_or (a := w) (by omega) (by omega), zb_or (a := st) (by omega) (by omega), show (m : Int) + 1 = ((m + 1 : Nat) : Int) by omega, show (sz : Int) + 1 = ((sz + 1 : Nat) : Int) by omega]
          refine ⟨fun _ => ⟨fun q => ⟨fun q2 => ⟨fun q3 => ?_, fun q3 => ⟨fun q4 => ?_, fun q4 => ?_⟩⟩, fun q2 => ?_⟩, fun q => ?_⟩, fun z => absurd (by omega) z⟩
          · refine K b2 c2' M3 f3 hB3 hl (fun s s1 s2 s3 s4 s5 => ?_)
            obtain ⟨i, i1, i2⟩ := c4 s s3
            by_cases im : i < m
            · exact cov s s1 s2 s3 s4 s5 ⟨i, im, i1, i2⟩
            · have z := shr_z.mp (show andn ch st >>> m = 0 by omega) i (by omega)
              rw [ab, i1, Bool.true_and, est i, i1, decide_eq_false im, Bool.and_false, Bool.or_false] at z
              have : kp.testBit i = true := by
                cases zz : kp.testBit i with
                | true => rfl
                | false => rw [zz] at z; cases z
              rw [s5 i this] at i2
              cases i2
          · rw [ab, Bool.and_eq_true, Bool.not_eq_true'] at q4
            obtain ⟨m1, m2⟩ := c3 m q4.1
            have wm : w.testBit m = false := by
              unfold okB at m2
              rw [Bool.and_eq_true, Bool.not_eq_true'] at m2
              exact m2.2
            refine ih d (w ||| 2 ^ m) st (sz + 1) b2 c2' M3 _ (by omega) (by omega) (or_16 hw tm) hst (fun i hi => ?_) ?_ (by omega) (CV_I5 f3 hC) (by rw [f3.1 _ _ (by omega) (by omega) (by omega)]; exact h3) (fun p hp => by rw [f3.1 _ _ (by omega) (by omega) (by omega)]; exact hH p hp) hB3 (fun b3 c3' M4 f4 hB4 hl4 cov4 => ?_)
            · rw [Nat.testBit_or, Nat.testBit_two_pow, Bool.or_eq_true, decide_eq_true_iff] at hi
              rcases hi with hi | hi
              · exact hsub i hi
              · subst hi; exact AL_in m1 m2
            · rw [pcv_set hw (by omega) wm]; omega
            · refine ih2 (m + 1) (st ||| 2 ^ m) b3 c3' M4 (by omega) (or_16 hst tm) (fun i => ?_) (FrI5_tr f3 f4) hB4 (leS_tr hl4 hl) (fun s s1 s2 s3 s4 s5 s6 => ?_)
              · rw [Nat.testBit_or, est i, Nat.testBit_two_pow]
                by_cases im : i = m
                · subst im
                  rw [q4.1]; simp
                · have im2 : ¬ m = i := fun z => im z.symm
                  have im3 : (i < m + 1) ↔ (i < m) := by omega
                  simp [im2, im3]
              · by_cases z : ∃ i, i < m ∧ ch.testBit i = true ∧ s.testBit i = true
                · exact leS_tr hl4 (cov s s1 s2 s3 s4 s5 z)
                · obtain ⟨i, i1, i2, i3⟩ := s6
                  have im : i = m := by
                    by_cases y2 : i = m
                    · exact y2
                    · exact absurd ⟨i, by omega, i2, i3⟩ z
                  subst im
                  refine cov4 s s1 s2 s3 (fun i5 hi => ?_) (fun i5 hi => ?_)
                  · rw [Nat.testBit_or, Nat.testBit_two_pow, Bool.or_eq_true, decide_eq_true_iff] at hi
                    rcases hi with hi | hi
                    · exact s4 i5 hi
                    · subst hi; exact i3
                  · rw [est i5, Bool.or_eq_true, Bool.and_eq_true, decide_eq_true_iff] at hi
                    rcases hi with hi | hi
                    · exact s5 i5 hi
                    · rw [Bool.eq_false_iff]
                      exact fun y2 => z ⟨i5, hi.2, hi.1, y2⟩
          · refine ih2 (m + 1) st b2 c2' M3 (by omega) hst (fun i => ?_) f3 hB3 hl (fun s s1 s2 s3 s4 s5 s6 => ?_)
            · rw [est i]
              by_cases im : i = m
              · subst im
                rw [ab] at q4
                have e1 := est i
                rw [decide_eq_false (show ¬ i < i by omega), Bool.and_false, Bool.or_false] at e1
                rw [e1] at q4
                rw [decide_eq_false (show ¬ i < i by omega), Bool.and_false, Bool.or_false]
                cases z1 : ch.testBit i with
                | false => simp
                | true =>
                  cases z2 : kp.testBit i with
                  | true => rfl
                  | false => rw [z1, z2] at q4; exact absurd rfl q4
              · have im3 : (i < m + 1) ↔ (i < m) := by omega
                simp [im3]
            · obtain ⟨i, i1, i2, i3⟩ := s6
              by_cases im : i = m
              · subst im
                rw [ab, i2, Bool.true_and] at q4
                have e1 := est i
                rw [decide_eq_false (show ¬ i < i by omega), Bool.and_false, Bool.or_false] at e1
                rw [e1] at q4
                have : kp.testBit i = true := by
                  cases z2 : kp.testBit i with
                  | true => rfl
                  | false => rw [z2] at q4; exact absurd rfl q4
                rw [s5 i this] at i3
                cases i3
              · exact cov s s1 s2 s3 s4 s5 ⟨i, by omega, i2, i3⟩
          · refine K b2 c2' M3 f3 hB3 hl (fun s s1 s2 s3 s4 s5 => ?_)
            have := big s s1 s3 s4
            have := pcv_16 s1
            omega
          · refine K b2 c2' M3 f3 hB3 hl (fun s s1 s2 s3 s4 s5 => ?_)
            have := big s s1 s3 s4
            exact Or.inl (by omega)
      refine l 16 0 kp b c M2 (by omega) hkp (fun i => by simp) (FrJ_I f) ⟨by rw [f.1 _ _ (by omega) (by omega)]; exact B1, by rw [f.1 _ _ (by omega) (by omega)]; exact B2, B3, B4, B5⟩ (leS_rf _ _) (fun s _ _ _ _ _ z => ?_)
      obtain ⟨i, i1, _⟩ := z
      omega
