/-! shelves: keep, row, put, element, shift, taken -/
theorem zw_sub (a b : Int) : zw (a - b) = zw (zw a - zw b) := by
  show (Int32.ofInt (a - b)).toInt = (Int32.ofInt (zw a - zw b)).toInt
  rw [Int32.ofInt_sub, Int32.ofInt_sub, ofi_zw, ofi_zw]
theorem zh_lo (M : zM) (i j : Nat) : -9223372036854775808 ≤ zh M i j := by
  have := Int64.le_toInt (M.2 i j)
  unfold zh; simpa using this
theorem Inv_IS {M M2 : zM} (hF : ∀ i j, ¬ (640 ≤ i ∧ i < 1024) → i ≠ 1324 → i ≠ 1325 → zg M2 i j = zg M i j) (hS : IS M2) (hI : Inv M) : Inv M2 := by
  obtain ⟨h1, h2, h3, h4, h5, h6, h7, h8, h9, h10, h11, h12, h13, h14⟩ := hI
  refine ⟨IP_fr (fun i j h => hF i j ?_ ?_ ?_) h1, ID_fr (fun i j h => hF i j ?_ ?_ ?_) h2, IN_fr (fun i j h => hF i j ?_ ?_ ?_) h3, IM_fr (fun i j h => hF i j ?_ ?_ ?_) h4, IH_fr (fun i j h => hF i j ?_ ?_ ?_) h5, IW_fr (fun i j h => hF i j ?_ ?_ ?_) h6, IF_fr (fun i j h => hF i j ?_ ?_ ?_) h7, IC_fr (fun i j h => hF i j ?_ ?_ ?_) h8, II_fr (fun i j h => hF i j ?_ ?_ ?_) h9, IT_fr (fun i j h => hF i j ?_ ?_ ?_) h10, IL_fr (fun i j h => hF i j ?_ ?_ ?_) h11, IG_fr (fun i j h => hF i j ?_ ?_ ?_) h12, IR_fr (fun i j h => hF i j ?_ ?_ ?_) h13, hS⟩ <;>
  · simp [cIP, cID, cIN, cIM, cIH, cIW, cIF, cIC, cII, cIT, cIL, cIG, cIR] at h; omega
theorem c_X6_isEmpty {d : Nat} {M : zM} {Q : Int → zM → Prop} (hd : 1 ≤ d) (o : Nat) (ho : zob o 6) (h : Q (bz (zg M o 2 = -1 ∧ zg M o 1 = -1)) M) : Ev d mX6_isEmpty [.ref o] M Q := by
  obtain ⟨d, rfl, -⟩ := e_of 0 hd
  exact e_X6_isEmpty o (v_X6_isEmpty_0 o ho ⟨fun q => ⟨fun q2 => by rw [bz_t ⟨q, q2⟩] at h; exact h, fun q2 => by rw [bz_f (by omega)] at h; exact h⟩, fun q => by rw [bz_f (by omega)] at h; exact h⟩)
theorem c_X6_isRow {d : Nat} {M : zM} {Q : Int → zM → Prop} (hd : 1 ≤ d) (o : Nat) (ho : zob o 6) (h : Q (bz (¬ zg M o 2 = -1)) M) : Ev d mX6_isRow [.ref o] M Q := by
  obtain ⟨d, rfl, -⟩ := e_of 0 hd
  exact e_X6_isRow o (v_X6_isRow_0 o ho ⟨fun q => by rw [bz_f (by omega)] at h; exact h, fun q => by rw [bz_t q] at h; exact h⟩)
theorem c_X6_hasPlaces {d : Nat} {M : zM} {Q : Int → zM → Prop} (hd : 1 ≤ d) (o : Nat) (ho : zob o 6) (v w : Int) (h0 : 0 ≤ zg M o 3) (h : Q (bz (0 ≤ zw v ∧ 0 ≤ zw w ∧ zw v + zw w ≤ zg M o 3)) M) : Ev d mX6_hasPlaces [.ref o, zI v, zI w] M Q := by
  obtain ⟨d, rfl, -⟩ := e_of 0 hd
  have hh := zg_hi M o 3
  refine e_X6_hasPlaces o v w (v_X6_hasPlaces_0 o v w ho ⟨fun q => by rw [bz_f (by omega)] at h; exact h, fun q => ⟨fun q2 => by rw [bz_f (by omega)] at h; exact h, fun q2 => ⟨fun q3 => by rw [bz_f (by omega)] at h; exact h, fun q3 => ?_⟩⟩⟩)
  have e : zw (zg M o 3 - v) = zg M o 3 - zw v := by rw [zw_sub, zw_zg]; exact zw_of (by omega) (by omega)
  rw [e]
  exact ⟨fun q4 => by rw [bz_f (by omega)] at h; exact h, fun q4 => by rw [bz_t (by omega)] at h; exact h⟩
theorem ISj_em {M : zM} {j : Nat} (h : ISj M j) : (zg M (640 + 64 * j) 2 = -1 ∧ zg M (640 + 64 * j) 1 = -1) ↔ zg M 1324 j = -1 := by
  unfold ISj at h; omega
theorem ISj_rw {M : zM} {j : Nat} (h : ISj M j) : (¬ zg M (640 + 64 * j) 2 = -1) ↔ zg M 1324 j < -1 := by
  unfold ISj at h; omega
/-- all shelves but one as they were -/
theorem IS_upd {M M2 : zM} (s : Nat) (h39 : zg M2 1280 39 = zg M 1280 39) (hg : ∀ j k : Nat, j < 6 → j ≠ s → zg M2 (640 + 64 * j) k = zg M (640 + 64 * j) k ∧ zh M2 (640 + 64 * j + 1) k = zh M (640 + 64 * j + 1) k) (h4 : ∀ j : Nat, j < 6 → j ≠ s → zg M2 1324 j = zg M 1324 j ∧ zg M2 1325 j = zg M 1325 j ∧ ∀ i : Nat, i < 60 → zh M2 1326 (60 * j + i) = zh M 1326 (60 * j + i)) (hS : ISj M2 s) (hI : IS M) : IS M2 := by
  intro j hj
  by_cases e : j = s
  · subst e; exact hS
  · have h0 := hI j hj
    unfold ISj at h0 ⊢
    have a1 := h4 j hj e
    rw [(hg j 1 hj e).1, (hg j 2 hj e).1, (hg j 3 hj e).1, h39, a1.1, a1.2.1]
    rcases h0 with h0 | ⟨b1, b2, b3, b4, b5, b6, b7, b8⟩
    · exact Or.inl h0
    · exact Or.inr ⟨b1, b2, b3, b4, b5, b6, b7, fun i hi => by rw [(hg j i hj e).2, a1.2.2 i hi]; exact b8 i hi⟩
theorem p_keep {d : Nat} {M : zM} (hd : 4 ≤ d) (s b : Int) (hs : zw s = s) (hb : zw b = b) (hI : Inv M) : Pr d mX7_keep mX8_keep [zI s, zI b] M := by
  obtain ⟨nb, n1, n2, n3, n4⟩ := hI.2.2.2.2.2.2.2.2.2.2.2.1
  have h14 := hI.2.2.2.2.2.2.2.2.2.2.2.2.2
  obtain ⟨d, rfl, -⟩ := e_of 3 hd
  obtain ⟨d2, rfl, -⟩ := e_of 2 (show 2 + 1 ≤ d by omega)
  have bad : ¬ ((0 ≤ s ∧ s < 6) ∧ (b = -1 ∨ (0 ≤ b ∧ b < (nb : Int)))) → Ev (d2 + 1 + 1) mX8_keep [.ref 1280, zI s, zI b] M (fun r2 M2 => -1 = r2 ∧ Inv M2) := by
    intro q
    refine e_X8_keep s b (v_X8_keep_0 s b (c_X8_isShelf (by omega) s ?_))
    rw [hs, hb]
    refine bz_br (fun _ => ⟨rfl, hI⟩) (fun q1 => ⟨fun q2 => absurd (by omega) q, fun q2 => c_X8_isBody (by omega) b (by omega) ?_⟩)
    rw [hb, n3]
    exact bz_br (fun _ => ⟨rfl, hI⟩) (fun q1 => absurd (by omega) q)
  have good : ((0 ≤ s ∧ s < 6) ∧ (b = -1 ∨ (0 ≤ b ∧ b < (nb : Int)))) → wp (Ev (d2 + 1)) 7 cX7_keep (some .int) (fun r M1 => Ev (d2 + 1 + 1) mX8_keep [.ref 1280, zI s, zI b] M1 (fun r2 M2 => r = r2 ∧ Inv M2)) 25 [some (.ref 64), some (zI s), some (zI b)] [] M := by
    intro q
    refine v_X7_keep_25 s b ?_
    rw [hs]
    refine ⟨by omega, by omega, e_X6_holdBody _ b (v_X6_holdBody_0 _ b (ob_sh (by omega)) ?_)⟩
    rintro _ rfl _ rfl _ rfl
    have last : ∀ M5 : zM, M5 = zs (zs (zs (zs M (640 + 64 * s.toNat) 1 b) (640 + 64 * s.toNat) 2 (-1)) (640 + 64 * s.toNat) 3 0) 1324 s.toNat b → (1 : Int) = 1 ∧ Inv M5 := by
      rintro _ rfl
      refine ⟨rfl, Inv_IS (M := M) (fun i j e1 e2 e3 => ?_) (IS_upd (M := M) s.toNat ?_ (fun j k hj e => ⟨?_, rfl⟩) (fun j hj e => ⟨?_, ?_, fun _ _ => rfl⟩) ?_ h14) hI⟩
      · simp only [zg_zs]; (repeat (first | rw [if_pos (by omega)] | rw [if_neg (by omega)]))
      · simp only [zg_zs]; (repeat (first | rw [if_pos (by omega)] | rw [if_neg (by omega)]))
      · simp only [zg_zs]; (repeat (first | rw [if_pos (by omega)] | rw [if_neg (by omega)]))
      · simp only [zg_zs]; (repeat (first | rw [if_pos (by omega)] | rw [if_neg (by omega)]))
      · simp only [zg_zs]; (repeat (first | rw [if_pos (by omega)] | rw [if_neg (by omega)]))
      · left
        simp only [zg_zs, true_and, and_true, if_true]
        (repeat (first | rw [if_pos (by omega)] | rw [if_neg (by omega)]))
        rw [hb, zq_m1, n3]
        omega
    have e39 : ∀ j, zg (zs (zs (zs M (640 + 64 * s.toNat) 1 b) (640 + 64 * s.toNat) 2 (-1)) (640 + 64 * s.toNat) 3 0) 1280 j = zg M 1280 j := by
      intro j
      simp only [zg_zs]; (repeat (first | rw [if_pos (by omega)] | rw [if_neg (by omega)]))
    refine e_X8_keep s b (v_X8_keep_0 s b (c_X8_isShelf (by omega) s ?_))
    rw [hs, hb]
    refine bz_br (fun z => absurd q.1 z) (fun q1 => ⟨fun q2 => ⟨by omega, by omega, last⟩, fun q2 => c_X8_isBody (by omega) b (by rw [e39]; omega) ?_⟩)
    rw [hb, e39, n3]
    exact bz_br (fun z => absurd (by omega) z) (fun q1 => ⟨by omega, by omega, last⟩)
  refine e_X7_keep s b (v_X7_keep_0 s b (c_X7_isShelf (by omega) s ?_))
  rw [hs, hb]
  refine bz_br (fun q => bad (by omega)) (fun q => ⟨fun q2 => good (by omega), fun q2 => c_X1_has (by omega) b ?_⟩)
  rw [hb, n2]
  exact bz_br (fun q3 => bad (by omega)) (fun q3 => good (by omega))
theorem l_fillL {E : zE} {M : zM} {Q : Int → zM → Prop} (q n : Nat) (v : Int) (hq : zar q .long n) (hn : n ≤ 100) (h : ∀ M2 : zM, (∀ i j, zg M2 i j = zg M i j) → (∀ i j, zh M2 i j = if i = q ∧ j < n then zv v else zh M i j) → Q 0 M2) : ∀ (j k : Nat) (M1 : zM), k + j = n → (∀ i j, zg M1 i j = zg M i j) → (∀ i j, zh M1 i j = if i = q ∧ j < k then zv v else zh M i j) → wp E 11 cJ7_fill_d0a16 none Q 6 [some (.ref q), some (zJ v), none, some (zI (k : Int)), some (zI (n : Int))] [] M1 := by
  intro j
  induction j with
  | zero =>
    intro k M1 hk h1 h2
    obtain rfl : k = n := by omega
    refine v_J7_fill_d0a16_6 q k v _ _ hq ?_
    exact ⟨fun z => absurd z (Int.lt_irrefl _), fun _ => h M1 h1 h2⟩
  | succ j ih =>
    intro k M1 hk h1 h2
    have wk : zw (k : Int) = (k : Int) := zw_of (by omega) (by omega)
    have wn : zw (n : Int) = (n : Int) := zw_of (by omega) (by omega)
    refine v_J7_fill_d0a16_6 q n v _ _ hq ?_
    rw [wk, wn]
    refine ⟨fun _ => ⟨by omega, by omega, ?_⟩, fun z => absurd (by omega) z⟩
    rintro _ rfl
    refine ih (k + 1) _ (by omega) (fun i j => by rw [zg_zt]; exact h1 i j) (fun i j => ?_)
    rw [zh_zt, h2]
    by_cases e : i = q
    · subst e
      by_cases e2 : j = k
      · rw [if_pos (by omega), if_pos (by omega)]
      · rw [if_neg (by omega)]
        by_cases e3 : j < k
        · rw [if_pos (by omega), if_pos (by omega)]
        · rw [if_neg (by omega), if_neg (by omega)]
    · rw [if_neg (by omega), if_neg (by omega), if_neg (by omega)]
theorem c_fillL {d : Nat} {M : zM} {Q : Int → zM → Prop} (hd : 1 ≤ d) (q n : Nat) (v : Int) (hq : zar q .long n) (hn : n ≤ 100) (h : ∀ M2 : zM, (∀ i j, zg M2 i j = zg M i j) → (∀ i j, zh M2 i j = if i = q ∧ j < n then zv v else zh M i j) → Q 0 M2) : Ev d mJ7_fill_d0a16 [.ref q, zJ v] M Q := by
  obtain ⟨d, rfl, -⟩ := e_of 0 hd
  exact e_J7_fill_d0a16 q v (v_J7_fill_d0a16_0 q n v hq (l_fillL q n v hq hn h n 0 M (by omega) (fun _ _ => rfl) (fun i j => by rw [if_neg (by omega)])))
theorem l_X8_row {E : zE} {M : zM} {Q : Int → zM → Prop} (s : Nat) (hs : s < 6) (h : ∀ M2 : zM, (∀ i j, zg M2 i j = zg M i j) → (∀ i j, zh M2 i j = if i = 1326 ∧ 60 * s ≤ j ∧ j < 60 * s + 60 then 0 else zh M i j) → Q 1 M2) : ∀ (j k : Nat) (M1 : zM), k + j = 60 → (∀ i j, zg M1 i j = zg M i j) → (∀ i j, zh M1 i j = if i = 1326 ∧ 60 * s ≤ j ∧ j < 60 * s + k then 0 else zh M i j) → wp E 8 cX8_row (some .int) Q 54 [some (.ref 1280), some (zI (s : Int)), none, none, some (zI ((60 * s + k : Nat) : Int))] [] M1 := by
  intro j
  have we : zw (60 * (s : Int) + 60) = 60 * (s : Int) + 60 := zw_of (by omega) (by omega)
  induction j with
  | zero =>
    intro k M1 hk h1 h2
    obtain rfl : k = 60 := by omega
    refine v_X8_row_54 _ _ ?_
    rw [we, zw_of (by omega) (by omega)]
    exact ⟨fun z => absurd z (by omega), fun _ => h M1 h1 h2⟩
  | succ j ih =>
    intro k M1 hk h1 h2
    refine v_X8_row_54 _ _ ?_
    rw [we, zw_of (by omega) (by omega)]
    refine ⟨fun _ => ⟨by omega, by omega, ?_⟩, fun z => absurd (by omega) z⟩
    rintro _ rfl
    have ih := ih (k + 1) (zt M1 1326 (((60 * s + k : Nat) : Int)).toNat 0) (by omega) (fun i j => by rw [zg_zt]; exact h1 i j) (fun i j => ?_)
    · rw [show ((60 * s + k : Nat) : Int) + 1 = ((60 * s + (k + 1) : Nat) : Int) by omega]
      exact ih
    · rw [zh_zt, h2, show (((60 * s + k : Nat) : Int)).toNat = 60 * s + k by omega]
      by_cases e : i = 1326
      · by_cases e2 : j = 60 * s + k
        · rw [if_pos (by omega), if_pos (by omega)]; rfl
        · rw [if_neg (by omega)]
          by_cases e3 : 60 * s ≤ j ∧ j < 60 * s + k
          · rw [if_pos (by omega), if_pos (by omega)]
          · rw [if_neg (by omega), if_neg (by omega)]
      · rw [if_neg (by omega), if_neg (by omega), if_neg (by omega)]
theorem p_row {d : Nat} {M : zM} (hd : 5 ≤ d) (s t n : Int) (hs : zw s = s) (ht : zw t = t) (hn : zw n = n) (hI : Inv M) : Pr d mX7_row mX8_row [zI s, zI t, zI n] M := by
  have h14 := hI.2.2.2.2.2.2.2.2.2.2.2.2.2
  obtain ⟨d, rfl, -⟩ := e_of 4 hd
  obtain ⟨d2, rfl, -⟩ := e_of 3 (show 3 + 1 ≤ d by omega)
  have R : ∀ (r : Int) (M1 : zM), (r = if 0 ≤ s ∧ s < 6 ∧ 0 ≤ t ∧ t ≤ 4 ∧ n ≤ 60 then (if n < 0 then -14 else 1) else -1) → (¬ r = 1 → Inv M1) → (r = 1 → ∀ M2 : zM, (∀ i j, zg M2 i j = if i = 1325 ∧ j = s.toNat then n else if i = 1324 ∧ j = s.toNat then -2 - t else zg M1 i j) → (∀ i j, zh M2 i j = if i = 1326 ∧ 60 * s.toNat ≤ j ∧ j < 60 * s.toNat + 60 then 0 else zh M1 i j) → Inv M2) → Ev (d2 + 1 + 1) mX8_row [.ref 1280, zI s, zI t, zI n] M1 (fun r2 M2 => r = r2 ∧ Inv M2) := by
    intro r M1 hr hb hg
    refine e_X8_row s t n (v_X8_row_0 s t n (c_X8_isShelf (by omega) s ?_))
    simp only [hs, ht, hn]
    refine bz_br (fun q => ?_) (fun q => c_X8_in (by omega) _ _ _ ?_)
    · rw [if_neg (by omega)] at hr; exact ⟨hr, hb (by omega)⟩
    · rw [ht, zq_0, zq_4]
      refine bz_br (fun q2 => ?_) (fun q2 => ⟨fun q3 => ?_, fun q3 => ⟨fun q4 => ?_, fun q4 => ⟨by omega, by omega, ?_⟩⟩⟩)
      · rw [if_neg (by omega)] at hr; exact ⟨hr, hb (by omega)⟩
      · rw [if_neg (by omega)] at hr; exact ⟨hr, hb (by omega)⟩
      · rw [if_pos (by omega), if_pos (by omega)] at hr; exact ⟨hr, hb (by omega)⟩
      · rw [if_pos (by omega), if_neg (by omega)] at hr
        rintro _ rfl
        refine ⟨by omega, by omega, ?_⟩
        rintro _ rfl
        have es : s = ((s.toNat : Nat) : Int) := by omega
        have l := l_X8_row (E := Ev (d2 + 1)) (M := zs (zs M1 1324 s.toNat (-2 - t)) 1325 s.toNat n) (Q := fun r2 M2 => r = r2 ∧ Inv M2) s.toNat (by omega) (fun M2 g1 g2 => ⟨hr, hg hr M2 (fun i j => ?_) (fun i j => ?_)⟩) 60 0 _ (by omega) (fun _ _ => rfl) (fun i j => by rw [if_neg (by omega)])
        · rw [← es, show ((60 * s.toNat + 0 : Nat) : Int) = 60 * s by omega] at l
          exact l
        · rw [g1, zg_zs, zg_zs, hn, zw_of (a := -2 - t) (by omega) (by omega)]
        · rw [g2]; rfl
  refine e_X7_row s t n (v_X7_row_0 s t n (c_X7_isShelf (by omega) s ?_))
  rw [hs, ht, hn]
  refine bz_br (fun q => R _ _ (by rw [if_neg (by omega)]) (fun _ => hI) (fun z => absurd z (by omega))) (fun q => ⟨fun q2 => R _ _ (by rw [if_neg (by omega)]) (fun _ => hI) (fun z => absurd z (by omega)), fun q2 => ⟨fun q3 => R _ _ (by rw [if_neg (by omega)]) (fun _ => hI) (fun z => absurd z (by omega)), fun q3 => ⟨fun q4 => R _ _ (by rw [if_neg (by omega)]) (fun _ => hI) (fun z => absurd z (by omega)), fun q4 => ⟨fun q5 => R _ _ (by rw [if_pos (by omega), if_pos (by omega)]) (fun _ => hI) (fun z => absurd z (by omega)), fun q5 => ⟨by omega, by omega, e_X6_holdRow _ t n (v_X6_holdRow_0 _ t n (ob_sh (by omega)) ?_)⟩⟩⟩⟩⟩)
  rintro _ rfl _ rfl _ rfl
  refine c_fillL (by omega) _ 60 0 (a6_0 (ob_sh (by omega))) (by omega) (fun M2 g1 g2 => R _ _ (by rw [if_pos (by omega), if_neg (by omega)]) (fun z => absurd rfl z) (fun _ M3 f1 f2 => ?_))
  have k1 : ∀ i j, zg M3 i j = if i = 1325 ∧ j = s.toNat then n else if i = 1324 ∧ j = s.toNat then -2 - t else if i = 640 + 64 * s.toNat ∧ j = 3 then n else if i = 640 + 64 * s.toNat ∧ j = 2 then t else if i = 640 + 64 * s.toNat ∧ j = 1 then -1 else zg M i j := by
    intro i j
    rw [f1, g1, zg_zs, zg_zs, zg_zs, hn, ht, zq_m1]
  have k2 : ∀ i j, zh M3 i j = if i = 1326 ∧ 60 * s.toNat ≤ j ∧ j < 60 * s.toNat + 60 then 0 else if i = 640 + 64 * s.toNat + 1 ∧ j < 60 then 0 else zh M i j := by
    intro i j
    rw [f2, g2]; rfl
  refine Inv_IS (M := M) (fun i j e1 e2 e3 => ?_) (IS_upd (M := M) s.toNat ?_ (fun j k hj e => ⟨?_, ?_⟩) (fun j hj e => ⟨?_, ?_, fun i hi => ?_⟩) ?_ h14) hI
  · rw [k1]; (repeat (first | rw [if_pos (by omega)] | rw [if_neg (by omega)]))
  · rw [k1]; (repeat (first | rw [if_pos (by omega)] | rw [if_neg (by omega)]))
  · rw [k1]; (repeat (first | rw [if_pos (by omega)] | rw [if_neg (by omega)]))
  · rw [k2]; (repeat (first | rw [if_pos (by omega)] | rw [if_neg (by omega)]))
  · rw [k1]; (repeat (first | rw [if_pos (by omega)] | rw [if_neg (by omega)]))
  · rw [k1]; (repeat (first | rw [if_pos (by omega)] | rw [if_neg (by omega)]))
  · rw [k2]; (repeat (first | rw [if_pos (by omega)] | rw [if_neg (by omega)]))
  · right
    rw [k1, k1, k1, k1, k1]
    (repeat (first | rw [if_pos (by omega)] | rw [if_neg (by omega)]))
    refine ⟨by omega, by omega, rfl, rfl, rfl, by omega, by omega, fun i hi => ?_⟩
    rw [k2, k2]
    (repeat (first | rw [if_pos (by omega)] | rw [if_neg (by omega)]))
