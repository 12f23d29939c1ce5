/-! naming: the views and what is chosen -/
def vNm (V : zV) (N : Nat → Int) : zV := fun r j => if r = 2 then N j else V r j
theorem vNm_ne (V : zV) (N : Nat → Int) {r : Nat} (h : r ≠ 2) (j : Nat) : vNm V N r j = V r j := if_neg h
theorem vNm_2 (V : zV) (N : Nat → Int) (j : Nat) : vNm V N 2 j = N j := if_pos rfl
theorem vNm_vNm (V : zV) (N N2 : Nat → Int) (r j : Nat) : vNm (vNm V N) N2 r j = vNm V N2 r j := by
  by_cases h : r = 2
  · subst h; rw [vNm_2, vNm_2]
  · rw [vNm_ne _ _ h, vNm_ne _ _ h, vNm_ne _ _ h]
theorem Vok_Nm {n k : Nat} {V : zV} {N : Nat → Int} (h : Vok n k V) (hN : ∀ p, p < n → -1 ≤ N p ∧ N p < 12) : Vok n k (vNm V N) := by
  have e : ∀ r j, r ≠ 2 → vNm V N r j = V r j := fun r j q => vNm_ne V N q j
  unfold Vok at h ⊢
  simp only [e 0 _ (by omega), e 1 _ (by omega), e 3 _ (by omega), e 4 _ (by omega), e 5 _ (by omega), e 6 _ (by omega), e 7 _ (by omega), e 8 _ (by omega), vNm_2]
  obtain ⟨v1, v2, v3, v4, v5, v6, v7, v8⟩ := h
  exact ⟨v1, v2, fun p hp => ⟨(v3 p hp).1, (v3 p hp).2.1, (v3 p hp).2.2.1, (v3 p hp).2.2.2.1, (hN p hp).1, (hN p hp).2⟩, v4, v5, v6, v7, v8⟩
/-- views that tell the same of a year -/
theorem hdA_cg {V V2 : zV} {LS : Option (List lwL)} {K : Nat → Nat} {n : Nat} {y : Int} (h : ∀ r j, r ≠ 2 → V r j = V2 r j) (h2 : ∀ b, b < n → V 0 b ≤ y → V 2 b = V2 2 b) (a : Nat) : hdA V LS K n y a = hdA V2 LS K n y a := by
  have eb : ∀ b, b < n → brB V a y b = brB V2 a y b := by
    intro b hb
    unfold brB
    rw [h 0 b (by omega)]
    by_cases q : V2 0 b ≤ y
    · rw [h2 b hb (by rw [h 0 b (by omega)]; exact q)]
    · rw [decide_eq_false (fun z => q z.2), decide_eq_false (fun z => q z.2)]
  have eh : ∀ p b, b < n → hB V LS K a y p b = hB V2 LS K a y p b := by
    intro p b hb
    unfold hB
    rw [eb b hb]
    by_cases q : brB V2 a y b = true
    · have q2 := q
      unfold brB at q2
      rw [decide_eq_true_iff] at q2
      have e2 := h2 b hb (by rw [h 0 b (by omega)]; exact q2.2)
      have ef : fx V p b y = fx V2 p b y := by
        funext j
        unfold fx
        rw [e2, h 0 p (by omega), h 1 b (by omega), h 7 _ (by omega), h 8 _ (by omega)]
      unfold lkB hlB
      rw [ef, h 0 p (by omega), h 1 p (by omega)]
    · rw [Bool.not_eq_true] at q
      rw [q, Bool.false_and, Bool.false_and]
  unfold hdA fmB
  rw [h 7 a (by omega), anyN_cg n eb]
  congr 1
  exact anyN_cg n (fun p _ => anyN_cg n (fun b hb => eh p b hb))
theorem kAll_cg {V V2 : zV} (h : ∀ r j, r ≠ 2 → V r j = V2 r j) (k : Nat) (y : Int) : kAll V k y = kAll V2 k y := kup_cg h y 0 k
/-- held in a year with names N -/
def hN (V : zV) (LS : Option (List lwL)) (n k : Nat) (N : Nat → Int) (t a : Nat) : Bool := hdA (vNm V N) LS (kAll (vNm V N) k (t : Int)) n (t : Int) a
theorem hN_cg {V : zV} {LS : Option (List lwL)} {n k : Nat} {N N2 : Nat → Int} {t : Nat} (h : ∀ b, b < n → V 0 b ≤ (t : Int) → N b = N2 b) (a : Nat) : hN V LS n k N t a = hN V LS n k N2 t a := by
  unfold hN
  have e : ∀ r j, r ≠ 2 → vNm V N r j = vNm V N2 r j := fun r j q => by rw [vNm_ne _ _ q, vNm_ne _ _ q]
  rw [kAll_cg e k]
  refine hdA_cg e (fun b hb q => ?_) a
  rw [vNm_2, vNm_2]
  exact h b hb (by rw [vNm_ne _ _ (by omega)] at q; exact q)
/-- the latest year ahead of t in which a was held; -1: never -/
def lat (V : zV) (LS : Option (List lwL)) (n k : Nat) (N : Nat → Int) (a : Nat) : Nat → Int
  | 0 => -1
  | t + 1 => if hN V LS n k N t a = true then (t : Int) else lat V LS n k N a t
theorem lat_cg {V : zV} {LS : Option (List lwL)} {n k : Nat} {N N2 : Nat → Int} (a : Nat) : ∀ t : Nat, (∀ b, b < n → V 0 b < (t : Int) → N b = N2 b) → lat V LS n k N a t = lat V LS n k N2 a t
  | 0, _ => rfl
  | t + 1, h => by
    rw [lat, lat, lat_cg a t (fun b hb q => h b hb (by omega)), hN_cg (fun b hb q => h b hb (by omega))]
theorem lat_bd (V : zV) (LS : Option (List lwL)) (n k : Nat) (N : Nat → Int) (a : Nat) : ∀ t : Nat, -1 ≤ lat V LS n k N a t ∧ lat V LS n k N a t < ((t + 1 : Nat) : Int)
  | 0 => by rw [lat]; decide
  | t + 1 => by
    have := lat_bd V LS n k N a t
    rw [lat]; split <;> omega
/-- the best of those free -/
def bst (fr : Nat → Bool) (sc : Nat → Int) : Nat → Int
  | 0 => -2
  | i + 1 => if fr i = true ∧ (bst fr sc i = -2 ∨ sc (bst fr sc i).toNat < sc i) then (i : Int) else bst fr sc i
theorem bst_bd (fr : Nat → Bool) (sc : Nat → Int) : ∀ i, bst fr sc i = -2 ∨ (0 ≤ bst fr sc i ∧ bst fr sc i < (i : Int))
  | 0 => Or.inl rfl
  | i + 1 => by
    have := bst_bd fr sc i
    rw [bst]; split <;> omega
theorem bst_cg {fr fr2 : Nat → Bool} {sc sc2 : Nat → Int} : ∀ i, (∀ a, a < i → fr a = fr2 a) → (∀ a, a < i → sc a = sc2 a) → bst fr sc i = bst fr2 sc2 i
  | 0, _, _ => rfl
  | i + 1, h1, h2 => by
    have ih := bst_cg i (fun a ha => h1 a (by omega)) (fun a ha => h2 a (by omega))
    have bd := bst_bd fr2 sc2 i
    rw [bst, bst, ih, h1 i (by omega), h2 i (by omega)]
    rcases bd with bd | bd
    · rw [bd]; simp
    · rw [h2 (bst fr2 sc2 i).toNat (by omega)]
def scr (V : zV) (LS : Option (List lwL)) (n k : Nat) (N : Nat → Int) (way : Int) (t : Nat) (a : Nat) : Int := if way = 0 then 0 else if way = 1 then lat V LS n k N a t else V 8 a
/-- what is chosen for p -/
def chs (V : zV) (LS : Option (List lwL)) (n k : Nat) (N : Nat → Int) (way : Int) (p : Nat) : Int := bst (fun a => !(hN V LS n k N (V 0 p).toNat a)) (scr V LS n k N way (V 0 p).toNat) 12
theorem chs_bd (V : zV) (LS : Option (List lwL)) (n k : Nat) (N : Nat → Int) (way : Int) (p : Nat) : chs V LS n k N way p = -2 ∨ (0 ≤ chs V LS n k N way p ∧ chs V LS n k N way p < 12) := bst_bd _ _ 12
/-- what Naming leaves changed -/
def FrT (M M2 : zM) : Prop := (∀ i j, i ≠ 137 → i ≠ 138 → i ≠ 207 → ¬ (i = 128 ∧ j = 10) → ¬ (256 ≤ i ∧ i < 384) → zg M2 i j = zg M i j) ∧ (∀ i j, zh M2 i j = zh M i j)
theorem FrT_rf (M : zM) : FrT M M := ⟨fun _ _ _ _ _ _ _ => rfl, fun _ _ => rfl⟩
theorem FrT_tr {M M2 M3 : zM} (h : FrT M M2) (g : FrT M2 M3) : FrT M M3 := ⟨fun i j a b c e f => by rw [g.1 i j a b c e f, h.1 i j a b c e f], fun i j => by rw [g.2, h.2]⟩
theorem FrC_T {M M2 : zM} (h : FrC M M2) : FrT M M2 := ⟨fun i j a b c e f => h.1 i j a b c (by omega) e, h.2⟩
theorem LC_T {LS : Option (List lwL)} {M M2 : zM} (h : FrT M M2) (g : LC M LS) : LC M2 LS := by
  have e1 : zg M2 128 7 = zg M 128 7 := h.1 _ _ (by omega) (by omega) (by omega) (by omega) (by omega)
  match LS with
  | none => show zg M2 128 7 = 0; rw [e1]; exact g
  | some ls =>
    obtain ⟨g1, g2, g3, g4⟩ := g
    exact ⟨g1, by rw [e1]; exact g2, g3, CdA_fr _ _ (fun j _ _ => h.1 _ _ (by omega) (by omega) (by omega) (by omega) (by omega)) g4⟩
/-- what noting leaves changed -/
def FrH (M M2 : zM) : Prop := (∀ i j, i ≠ 137 → i ≠ 138 → i ≠ 207 → i ≠ 271 → ¬ (i = 128 ∧ j = 10) → i ≠ 323 → ¬ (i = 320 ∧ j = 3) → zg M2 i j = zg M i j) ∧ (∀ i j, zh M2 i j = zh M i j)
theorem FrH_rf (M : zM) : FrH M M := ⟨fun _ _ _ _ _ _ _ _ _ => rfl, fun _ _ => rfl⟩
theorem FrH_tr {M M2 M3 : zM} (h : FrH M M2) (g : FrH M2 M3) : FrH M M3 := ⟨fun i j a b c e f l m => by rw [g.1 i j a b c e f l m, h.1 i j a b c e f l m], fun i j => by rw [g.2, h.2]⟩
theorem FrC_H {M M2 : zM} (h : FrC M M2) : FrH M M2 := ⟨fun i j a b c e f _ _ => h.1 i j a b c e f, h.2⟩
theorem FrH_T {M M2 : zM} (h : FrH M M2) : FrT M M2 := ⟨fun i j a b c e f => h.1 i j a b c (by omega) e (by omega) (by omega), h.2⟩
theorem CV_H {n k : Nat} {V : zV} {M M2 : zM} (h : FrH M M2) (g : CV 256 n k V M) : CV 256 n k V M2 := by
  obtain ⟨g1, g2, g3, g4, g5, g6⟩ := g
  have e : ∀ a j, a < 15 → zg M2 (256 + a) j = zg M (256 + a) j := fun a j ha => h.1 _ _ (by omega) (by omega) (by omega) (by omega) (by omega) (by omega) (by omega)
  have e0 : ∀ j, zg M2 256 j = zg M 256 j := fun j => e 0 j (by omega)
  unfold CV
  simp only [e0, e 2 _ (by omega), e 3 _ (by omega), e 4 _ (by omega), e 7 _ (by omega), e 8 _ (by omega), e 9 _ (by omega), e 10 _ (by omega), e 13 _ (by omega), e 14 _ (by omega)]
  exact ⟨g1, g2, g3, g4, g5, g6⟩
theorem LC_H {LS : Option (List lwL)} {M M2 : zM} (h : FrH M M2) (g : LC M LS) : LC M2 LS := LC_T (FrH_T h) g
/-! filling a row -/
theorem c_fillI {d : Nat} {M : zM} {Q : Int → zM → Prop} (hd : 1 ≤ d) (q n : Nat) (v : Int) (hq : zar q .int n) (hn : n ≤ 100) (h : ∀ M2 : zM, (∀ i j, zg M2 i j = if i = q ∧ j < n then zw v else zg M i j) → (∀ i j, zh M2 i j = zh M i j) → Q 0 M2) : Ev d mJ7_fill_53178 [.ref q, zI v] M Q := by
  obtain ⟨d, rfl, -⟩ := e_of 0 hd
  have l : ∀ (x i : Nat) (M1 : zM), i + x = n → (∀ a b, zg M1 a b = if a = q ∧ b < i then zw v else zg M a b) → (∀ a b, zh M1 a b = zh M a b) → wp (Ev d) 11 cJ7_fill_53178 none Q 5 [some (.ref q), some (zI v), some (zI (i : Int)), some (zI (n : Int))] [] M1 := by
    intro x
    induction x with
    | zero =>
      intro i M1 e h1 h2
      have ei : i = n := by omega
      subst ei
      refine v_J7_fill_53178_5 q i v _ _ hq ?_
      exact ⟨fun z => absurd z (Int.lt_irrefl _), fun _ => h M1 h1 h2⟩
    | succ x ih =>
      intro i M1 e h1 h2
      refine v_J7_fill_53178_5 q n v _ _ hq ?_
      rw [zw_n (a := i) (by omega), zw_n (a := n) (by omega), show ((i : Int)).toNat = i by omega, show (i : Int) + 1 = ((i + 1 : Nat) : Int) by omega]
      refine ⟨fun _ => ⟨by omega, by omega, ?_⟩, fun z => absurd (by omega) z⟩
      rintro _ rfl
      refine ih (i + 1) _ (by omega) (fun a b => ?_) (fun a b => by rw [zh_zs]; exact h2 a b)
      rw [zg_zs, h1]
      by_cases e1 : a = q
      · by_cases e2 : b = i
        · rw [if_pos ⟨e1, e2⟩, if_pos ⟨e1, by omega⟩]
        · rw [if_neg (fun z => e2 z.2)]
          by_cases e3 : b < i
          · rw [if_pos ⟨e1, e3⟩, if_pos ⟨e1, by omega⟩]
          · rw [if_neg (fun z => e3 z.2), if_neg (fun z => absurd z.2 (by omega))]
      · rw [if_neg (fun z => e1 z.1), if_neg (fun z => e1 z.1), if_neg (fun z => e1 z.1)]
  exact e_J7_fill_53178 q v (v_J7_fill_53178_0 q n v hq (l n 0 M (by omega) (fun a b => by rw [if_neg (by omega)]) (fun _ _ => rfl)))
/-- what forgetting leaves -/
theorem c_X3_forgetNames {d : Nat} {M : zM} {Q : Int → zM → Prop} (hd : 2 ≤ d) (h : ∀ M2 : zM, (∀ i j, ¬ (i = 260 ∧ j < 12) → ¬ (i = 323 ∧ j < 12) → ¬ (i = 320 ∧ j = 3) → zg M2 i j = zg M i j) → (∀ i j, zh M2 i j = zh M i j) → (∀ p, p < 12 → zg M2 260 p = -1) → (∀ a, a < 12 → zg M2 323 a = -1) → zg M2 320 3 = 0 → Q 0 M2) : Ev d mX3_forgetNames [.ref 320] M Q := by
  obtain ⟨d, rfl, hdd⟩ := e_of 1 hd; replace hd := hdd
  refine e_X3_forgetNames (v_X3_forgetNames_0 (c_fillI hd 260 12 (-1) (a4_3 ob_256) (by omega) (fun M2 f1 f2 => c_fillI hd 323 12 (-1) (a3_2 ob_320) (by omega) (fun M3 g1 g2 => ?_))))
  rintro _ rfl
  refine h _ (fun i j q1 q2 q3 => ?_) (fun i j => by rw [zh_zs, g2, f2]) (fun p hp => ?_) (fun a ha => ?_) ?_
  · rw [zg_zs, if_neg q3, g1, if_neg q2, f1, if_neg q1]
  · rw [zg_zsi _ _ _ _ (by omega), g1, if_neg (by omega), f1, if_pos ⟨rfl, hp⟩]; decide
  · rw [zg_zsi _ _ _ _ (by omega), g1, if_pos ⟨rfl, ha⟩]; decide
  · rw [zg_zs1]; decide
theorem c_X3_begin {d : Nat} {M : zM} {Q : Int → zM → Prop} (hd : 3 ≤ d) (n k : Nat) (V : zV) (hV : Vok n k V) (hC : CV 192 n k V M) (h : ∀ M2 : zM, FrT M M2 → CV 256 n k (vNm V (fun _ => -1)) M2 → (∀ j, j < n → zg M2 261 j = zg M 197 j) → (∀ a, a < 12 → zg M2 323 a = -1) → zg M2 320 3 = 0 → Q 0 M2) : Ev d mX3_begin [.ref 320] M Q := by
  obtain ⟨d, rfl, hdd⟩ := e_of 2 hd; replace hd := hdd
  obtain ⟨d2, rfl, -⟩ := e_of 1 hd
  have hn := hV.1
  have hk := hV.2.1
  obtain ⟨c1, c2, c3, c4, c5, c6⟩ := hC
  refine e_X3_begin (v_X3_begin_0 (e_X4_copyAllButNames 256 192 (v_X4_copyAllButNames_0 256 192 ob_256 ob_192 ?_)))
  rintro _ rfl _ rfl _ rfl _ rfl _ rfl _ rfl _ rfl _ rfl _ rfl _ rfl _ rfl _ rfl
  refine c_X3_forgetNames (by omega) (fun M2 f1 f2 f3 f4 f5 => ?_)
  have e : ∀ r j, r ≠ 2 → vNm V (fun _ => -1) r j = V r j := fun r j q => vNm_ne V _ q j
  refine h M2 ⟨fun i j a b c e2 f => ?_, fun i j => ?_⟩ ⟨?_, ?_, ?_, fun p hp => ⟨?_, ?_, ?_⟩, fun m hm => ⟨?_, ?_, ?_, ?_⟩, fun a ha => ⟨?_, ?_⟩⟩ (fun j hj => ?_) f4 f5
  · rw [f1 i j (by omega) (by omega) (by omega)]
    simp only [zg_zci, zg_zs]
    (repeat rw [if_neg (by omega)])
  · rw [f2]; rfl
  · rw [f1 _ _ (by omega) (by omega) (by omega)]
    simp only [zg_zci, zg_zs]
    simp (config := { decide := true }) only [if_false, if_true]
    rw [zw_zg]; exact c1
  · rw [f1 _ _ (by omega) (by omega) (by omega)]
    simp only [zg_zci, zg_zs]
    simp (config := { decide := true }) only [if_false, if_true]
    rw [zw_zg]; exact c2
  · rw [f1 _ _ (by omega) (by omega) (by omega), e 9 _ (by omega)]
    simp only [zg_zci, zg_zs]
    simp (config := { decide := true }) only [if_false, if_true]
    rw [zw_zg]; exact c3
  · rw [f1 _ _ (by omega) (by omega) (by omega), e 0 _ (by omega), ← (c4 p hp).1]
    simp only [zg_zci, zg_zs]
    simp (config := { decide := true }) only [if_false, if_true, false_and]
    rw [if_pos (by omega)]; congr 1; omega
  · rw [f1 _ _ (by omega) (by omega) (by omega), e 1 _ (by omega), ← (c4 p hp).2.1]
    simp only [zg_zci, zg_zs]
    simp (config := { decide := true }) only [if_false, if_true, false_and]
    rw [if_pos (by omega)]; congr 1; omega
  · rw [vNm_2]; exact f3 p (by omega)
  · rw [f1 _ _ (by omega) (by omega) (by omega), e 3 _ (by omega), ← (c5 m hm).1]
    simp only [zg_zci, zg_zs]
    simp (config := { decide := true }) only [if_false, if_true, false_and]
    rw [if_pos (by omega)]; congr 1; omega
  · rw [f1 _ _ (by omega) (by omega) (by omega), e 4 _ (by omega), ← (c5 m hm).2.1]
    simp only [zg_zci, zg_zs]
    simp (config := { decide := true }) only [if_false, if_true, false_and]
    rw [if_pos (by omega)]; congr 1; omega
  · rw [f1 _ _ (by omega) (by omega) (by omega), e 5 _ (by omega), ← (c5 m hm).2.2.1]
    simp only [zg_zci, zg_zs]
    simp (config := { decide := true }) only [if_false, if_true, false_and]
    rw [if_pos (by omega)]; congr 1; omega
  · rw [f1 _ _ (by omega) (by omega) (by omega), e 6 _ (by omega), ← (c5 m hm).2.2.2]
    simp only [zg_zci, zg_zs]
    simp (config := { decide := true }) only [if_false, if_true, false_and]
    rw [if_pos (by omega)]; congr 1; omega
  · rw [f1 _ _ (by omega) (by omega) (by omega), e 7 _ (by omega), ← (c6 a ha).1]
    simp only [zg_zci, zg_zs]
    simp (config := { decide := true }) only [if_false, if_true, false_and]
    rw [if_pos (by omega)]; congr 1; omega
  · rw [f1 _ _ (by omega) (by omega) (by omega), e 8 _ (by omega), ← (c6 a ha).2]
    simp only [zg_zci, zg_zs]
    simp (config := { decide := true }) only [if_false, if_true, false_and]
    rw [if_pos (by omega)]; congr 1; omega
  · rw [f1 _ _ (by omega) (by omega) (by omega)]
    simp only [zg_zci, zg_zs]
    simp (config := { decide := true }) only [if_false, if_true, false_and]
    rw [if_pos (by omega)]; congr 1; omega
