/-! reckon (class) and gives (reference) come to the same -/
theorem lst1_le (f : Nat → Int) (c : Int) (st : List Int) : (lst1 f c st).length ≤ st.length + 1 := by
  unfold lst1
  split
  · simp
  · split
    · match st with
      | [] => simp
      | a :: r => simp
    · split
      · match st with
        | [] => simp
        | a :: r => simp
      · match st with
        | [] => simp
        | [a] => simp
        | b :: a :: r => simp
theorem lrun_one {f : Nat → Int} {cs : List Int} (q : lwH cs 0 = some 1) : lrun f cs [] = [ltop f cs] := by
  have h := lrun_len (f := f) cs [] 1 q
  unfold ltop
  generalize lrun f cs [] = x at h
  match x, h with
  | [a], _ => rfl
def lnOk (l : lwL) : Prop := lwH l.2 0 = some 1 ∧ l.2 ≠ [] ∧ ∀ t, l.1 = some t → lwH t 0 = some 1 ∧ t ≠ []
def lnG (f : Nat → Int) (l : lwL) : Prop := l.1 = none ∨ ∃ t, l.1 = some t ∧ ltop f t ≠ 0
theorem lvs_g {f : Nat → Int} {l : lwL} {ls : List lwL} (h : lnG f l) : lvs f (l :: ls) = ltop f l.2 := by
  obtain ⟨a, b⟩ := l
  rcases h with h | ⟨t, h1, h2⟩
  · dsimp only at h; subst h; rfl
  · dsimp only at h1; subst h1
    show (if ltop f t = 0 then lvs f ls else ltop f b) = _
    rw [if_neg h2]
theorem lvs_p {f : Nat → Int} {l : lwL} {ls : List lwL} {t : List Int} (h1 : l.1 = some t) (h2 : ltop f t = 0) : lvs f (l :: ls) = lvs f ls := by
  obtain ⟨a, b⟩ := l
  dsimp only at h1; subst h1
  show (if ltop f t = 0 then lvs f ls else ltop f b) = _
  rw [if_pos h2]
theorem rk_seg {d : Nat} {Q : Int → zM → Prop} (hd : 2 ≤ d) (f : Nat → Int) (n : Nat) (hn : n ≤ 120) : ∀ (cs : List Int) (k h2 : Nat) (st : List Int) (M : zM), lwH cs st.length = some h2 → zg M 128 7 = (n : Int) → k + cs.length ≤ n → st.length ≤ k → zg M 128 10 = (st.length : Int) → StA M 138 st → CdA M 135 k cs → (∀ j : Nat, j < 6 → zg M 137 j = f j) → (∀ M2 : zM, FrS M M2 → zg M2 128 10 = ((lrun f cs st).length : Int) → StA M2 138 (lrun f cs st) → wp (Ev d) 2 cX2_reckon (some .int) Q 43 [some (.ref 128), some (zI 0), some (zI ((k + cs.length : Nat) : Int)), none] [] M2) → wp (Ev d) 2 cX2_reckon (some .int) Q 43 [some (.ref 128), some (zI 0), some (zI (k : Int)), none] [] M
  | [], k, h2, st, M, _, _, _, _, q5, q6, _, _, K => K M (FrS_rf M) q5 q6
  | c :: cs, k, h2, st, M, q1, q2, q3, q4, q5, q6, q7, q8, K => by
    have hl : (c :: cs).length = cs.length + 1 := rfl
    have no := lwH_no _ _ _ q1 c (List.mem_cons_self ..)
    have q7a : zg M 135 k = c := q7.1
    have wc : zw c = c := by rw [← q7a, zw_zg]
    have nx : ∀ M2 : zM, FrS M M2 → zg M2 128 10 = ((lst1 f c st).length : Int) → StA M2 138 (lst1 f c st) → wp (Ev d) 2 cX2_reckon (some .int) Q 43 [some (.ref 128), some (zI 0), some (zI ((k : Int) + 1)), none] [] M2 := by
      intro M2 a1 a2 a3
      rw [show (k : Int) + 1 = ((k + 1 : Nat) : Int) by omega]
      refine rk_seg hd f n hn cs (k + 1) h2 _ M2 (lst1_len q1) (by rw [a1.1 _ _ (by omega) (by omega)]; exact q2) (by omega) (Nat.le_trans (lst1_le f c st) (by omega)) a2 a3 (CdA_fr _ _ (fun j _ _ => a1.1 _ _ (by omega) (by omega)) q7.2) (fun j hj => by rw [a1.1 _ _ (by omega) (by omega)]; exact q8 j hj) (fun M3 b1 b2 b3 => ?_)
      rw [show k + 1 + cs.length = k + (c :: cs).length by omega]
      exact K M3 (FrS_tr a1 b1) b2 b3
    refine v_X2_reckon_43 _ _ ?_
    rw [zw_of (a := (k : Int)) (by omega) (by omega), show ((k : Int)).toNat = k by omega, q2, q7a, zq_0]
    refine ⟨fun _ => ⟨by omega, by omega, fun z => absurd z no.1, fun _ => ⟨fun _ => ⟨fun z => absurd z no.2, fun _ => ⟨fun q => ?_, fun q => ⟨fun q9 => ?_, fun q9 => ?_⟩⟩⟩, fun z => absurd rfl z⟩⟩, fun z => absurd (by omega) z⟩
    · exact c_X2_reckonSign hd f c cs st h2 (by omega) q1 q5 (by omega) q6 nx
    · have w : zw (-1 - c) = -1 - c := zw_of (by omega) (by omega)
      rw [w]
      refine ⟨by omega, by omega, v_X2_reckon_130 _ _ _ (c_X2_push (by omega) _ st (zw_zg _ _ _) q5 (by omega) q6 (fun M2 a1 a2 a3 => ?_))⟩
      have e : lst1 f c st = zg M 137 (-1 - c).toNat :: st := by unfold lst1; rw [if_pos (by omega), if_neg (by omega), q8 _ (by omega)]
      exact nx M2 a1 (by rw [e]; exact a2) (by rw [e]; exact a3)
    · refine v_X2_reckon_130 _ _ _ (c_X2_push (by omega) _ st wc q5 (by omega) q6 (fun M2 a1 a2 a3 => ?_))
      have e : lst1 f c st = c :: st := by unfold lst1; rw [if_pos (by omega), if_pos (by omega)]
      exact nx M2 a1 (by rw [e]; exact a2) (by rw [e]; exact a3)
theorem rk_pass {E : zE} {Q : Int → zM → Prop} (n : Nat) (hn : n ≤ 120) : ∀ (cs : List Int) (k : Nat) (M : zM), (∀ c ∈ cs, c ≠ -59) → zg M 128 7 = (n : Int) → k + cs.length ≤ n → CdA M 135 k cs → wp E 2 cX2_reckon (some .int) Q 43 [some (.ref 128), some (zI 1), some (zI ((k + cs.length : Nat) : Int)), none] [] M → wp E 2 cX2_reckon (some .int) Q 43 [some (.ref 128), some (zI 1), some (zI (k : Int)), none] [] M
  | [], k, M, _, _, _, _, K => K
  | c :: cs, k, M, q1, q2, q3, q4, K => by
    have hl : (c :: cs).length = cs.length + 1 := rfl
    have q4a : zg M 135 k = c := q4.1
    have no := q1 c (List.mem_cons_self ..)
    refine v_X2_reckon_43 _ _ ?_
    rw [zw_of (a := (k : Int)) (by omega) (by omega), show ((k : Int)).toNat = k by omega, q2, q4a, zq_1]
    refine ⟨fun _ => ⟨by omega, by omega, fun z => absurd z no, fun _ => ⟨fun z => absurd z (by omega), fun _ => ?_⟩⟩, fun z => absurd (by omega) z⟩
    rw [show (k : Int) + 1 = ((k + 1 : Nat) : Int) by omega]
    refine rk_pass n hn cs (k + 1) M (fun c2 h2 => q1 c2 (List.mem_cons_of_mem _ h2)) q2 (by omega) q4.2 ?_
    rw [show k + 1 + cs.length = k + (c :: cs).length by omega]
    exact K
theorem rk_line {d : Nat} {Q : Int → zM → Prop} (hd : 2 ≤ d) (f : Nat → Int) (n : Nat) (hn : n ≤ 120) (l : lwL) (hl : lnOk l) (k : Nat) (M : zM) (q2 : zg M 128 7 = (n : Int)) (q3 : k + (lwC l).length ≤ n) (q5 : zg M 128 10 = 0) (q7 : CdA M 135 k (lwC l)) (q8 : ∀ j : Nat, j < 6 → zg M 137 j = f j) (hA : lnG f l → ∀ M2 : zM, FrS M M2 → zg M2 128 10 = 1 → StA M2 138 [ltop f l.2] → wp (Ev d) 2 cX2_reckon (some .int) Q 43 [some (.ref 128), some (zI 0), some (zI ((k + (lwC l).length : Nat) : Int)), none] [] M2) (hB : ∀ t, l.1 = some t → ltop f t = 0 → ∀ M2 : zM, FrS M M2 → zg M2 128 10 = 0 → wp (Ev d) 2 cX2_reckon (some .int) Q 43 [some (.ref 128), some (zI 1), some (zI ((k + (lwC l).length : Nat) : Int)), none] [] M2) : wp (Ev d) 2 cX2_reckon (some .int) Q 43 [some (.ref 128), some (zI 0), some (zI (k : Int)), none] [] M := by
  obtain ⟨lt, lb⟩ := l
  obtain ⟨o1, o2, o3⟩ := hl
  dsimp only at o1 o2 o3
  match lt with
  | none =>
    have e : lwC (none, lb) = lb := rfl
    rw [e] at q3 q7 hA hB
    refine rk_seg hd f n hn lb k 1 [] M o1 q2 q3 (by simp) (by rw [q5]; rfl) trivial q7 q8 (fun M2 a1 a2 a3 => ?_)
    rw [lrun_one o1] at a2 a3
    exact hA (Or.inl rfl) M2 a1 a2 a3
  | some t =>
    obtain ⟨o4, o5⟩ := o3 t rfl
    have e : lwC (some t, lb) = t ++ (-63) :: lb := rfl
    rw [e] at q3 q7 hA hB
    have ll : (t ++ (-63) :: lb).length = t.length + (lb.length + 1) := by simp
    rw [ll] at q3
    rw [CdA_app] at q7
    obtain ⟨c1, c2, c3⟩ := q7
    refine rk_seg hd f n hn t k 1 [] M o4 q2 (by omega) (by simp) (by rw [q5]; rfl) trivial c1 q8 (fun M2 a1 a2 a3 => ?_)
    rw [lrun_one o4] at a2 a3
    have e7 : zg M2 128 7 = (n : Int) := by rw [a1.1 _ _ (by omega) (by omega)]; exact q2
    refine v_X2_reckon_43 _ _ ?_
    have f1 : ∀ j, zg M2 135 j = zg M 135 j := fun j => a1.1 _ _ (by omega) (by omega)
    rw [zw_of (a := ((k + t.length : Nat) : Int)) (by omega) (by omega), show (((k + t.length : Nat) : Int)).toNat = k + t.length by omega, e7, f1, c2, zq_0]
    refine ⟨fun _ => ⟨by omega, by omega, fun z => absurd z (by omega), fun _ => ⟨fun _ => ⟨fun _ => ?_, fun z => absurd rfl z⟩, fun z => absurd rfl z⟩⟩, fun z => absurd (by omega) z⟩
    refine c_X2_pop (by omega) (ltop f t) [] a2 (by simp) a3 (fun M3 b1 b2 b3 => ?_)
    have wt : zw (ltop f t) = ltop f t := StA_w a3
    rw [wt, show ((k + t.length : Nat) : Int) + 1 = ((k + t.length + 1 : Nat) : Int) by omega]
    have f2 : ∀ j, zg M3 135 j = zg M 135 j := fun j => by rw [b1.1 _ _ (by omega) (by omega), f1]
    have e8 : zg M3 128 7 = (n : Int) := by rw [b1.1 _ _ (by omega) (by omega)]; exact e7
    have c4 : CdA M3 135 (k + t.length + 1) lb := CdA_fr _ _ (fun j _ _ => f2 j) c3
    refine ⟨fun z => ?_, fun z => ?_⟩
    · refine rk_pass n hn lb (k + t.length + 1) M3 (fun c hc => (lwH_no _ _ _ o1 c hc).1) e8 (by omega) c4 ?_
      rw [show k + t.length + 1 + lb.length = k + (t ++ (-63) :: lb).length by rw [ll]; omega]
      exact hB t rfl z M3 (FrS_tr a1 b1) b2
    · refine rk_seg hd f n hn lb (k + t.length + 1) 1 [] M3 o1 e8 (by omega) (by simp) b2 trivial c4 (fun j hj => by rw [b1.1 _ _ (by omega) (by omega), a1.1 _ _ (by omega) (by omega)]; exact q8 j hj) (fun M4 g1 g2 g3 => ?_)
      rw [lrun_one o1] at g2 g3
      rw [show k + t.length + 1 + lb.length = k + (t ++ (-63) :: lb).length by rw [ll]; omega]
      exact hA (Or.inr ⟨t, rfl, z⟩) M4 (FrS_tr a1 (FrS_tr b1 g1)) g2 g3
theorem rk_lines {d : Nat} {Q : Int → zM → Prop} (hd : 2 ≤ d) (f : Nat → Int) (n : Nat) (hn : n ≤ 120) : ∀ (ls : List lwL) (k : Nat) (M : zM), ls ≠ [] → (∀ l ∈ ls, lnOk l) → zg M 128 7 = (n : Int) → k + (lwCs ls).length = n → zg M 128 10 = 0 → CdA M 135 k (lwCs ls) → (∀ j : Nat, j < 6 → zg M 137 j = f j) → (∀ M2 : zM, FrS M M2 → zw (lvs f ls) = lvs f ls → Q (lvs f ls) M2) → wp (Ev d) 2 cX2_reckon (some .int) Q 43 [some (.ref 128), some (zI 0), some (zI (k : Int)), none] [] M
  | [], _, _, q0, _, _, _, _, _, _, _ => absurd rfl q0
  | [l], k, M, _, q1, q2, q3, q5, q7, q8, K => by
    have e : lwCs [l] = lwC l := rfl
    rw [e] at q3 q7
    refine rk_line hd f n hn l (q1 l (List.mem_cons_self ..)) k M q2 (by omega) q5 q7 q8 (fun g M2 a1 a2 a3 => ?_) (fun t t1 t2 M2 a1 a2 => ?_)
    · refine v_X2_reckon_43 _ _ ?_
      rw [zw_of (a := ((k + (lwC l).length : Nat) : Int)) (by omega) (by omega), a1.1 128 7 (by omega) (by omega), q2]
      refine ⟨fun z => absurd z (by omega), fun _ => ?_⟩
      refine c_X2_pop (by omega) (ltop f l.2) [] a2 (by simp) a3 (fun M3 b1 b2 b3 => ?_)
      rw [StA_w a3, ← lvs_g (ls := []) g]
      exact K M3 (FrS_tr a1 b1) (by rw [lvs_g g]; exact StA_w a3)
    · refine v_X2_reckon_43 _ _ ?_
      rw [zw_of (a := ((k + (lwC l).length : Nat) : Int)) (by omega) (by omega), a1.1 128 7 (by omega) (by omega), q2]
      refine ⟨fun z => absurd z (by omega), fun _ => ?_⟩
      refine c_X2_pop0 (by omega) a2 ?_
      have K2 := K M2 a1 (by rw [lvs_p t1 t2]; exact zq_0)
      rw [lvs_p t1 t2] at K2
      exact K2
  | l :: l2 :: ls, k, M, _, q1, q2, q3, q5, q7, q8, K => by
    have e : lwCs (l :: l2 :: ls) = lwC l ++ (-59) :: lwCs (l2 :: ls) := rfl
    rw [e] at q3 q7
    have ll : (lwC l ++ (-59) :: lwCs (l2 :: ls)).length = (lwC l).length + ((lwCs (l2 :: ls)).length + 1) := by simp
    rw [ll] at q3
    rw [CdA_app] at q7
    obtain ⟨c1, c2, c3⟩ := q7
    refine rk_line hd f n hn l (q1 l (List.mem_cons_self ..)) k M q2 (by omega) q5 c1 q8 (fun g M2 a1 a2 a3 => ?_) (fun t t1 t2 M2 a1 a2 => ?_)
    · refine v_X2_reckon_43 _ _ ?_
      rw [zw_of (a := ((k + (lwC l).length : Nat) : Int)) (by omega) (by omega), show (((k + (lwC l).length : Nat) : Int)).toNat = k + (lwC l).length by omega, a1.1 128 7 (by omega) (by omega), q2, a1.1 135 _ (by omega) (by omega), c2, zq_0]
      refine ⟨fun _ => ⟨by omega, by omega, fun _ => ⟨fun _ => ?_, fun z => absurd rfl z⟩, fun z => absurd rfl z⟩, fun z => absurd (by omega) z⟩
      refine c_X2_pop (by omega) (ltop f l.2) [] a2 (by simp) a3 (fun M3 b1 b2 b3 => ?_)
      rw [StA_w a3, ← lvs_g (ls := l2 :: ls) g]
      exact K M3 (FrS_tr a1 b1) (by rw [lvs_g g]; exact StA_w a3)
    · refine v_X2_reckon_43 _ _ ?_
      rw [zw_of (a := ((k + (lwC l).length : Nat) : Int)) (by omega) (by omega), show (((k + (lwC l).length : Nat) : Int)).toNat = k + (lwC l).length by omega, a1.1 128 7 (by omega) (by omega), q2, a1.1 135 _ (by omega) (by omega), c2, zq_1]
      refine ⟨fun _ => ⟨by omega, by omega, fun _ => ⟨fun z => absurd z (by omega), fun _ => ?_⟩, fun z => absurd rfl z⟩, fun z => absurd (by omega) z⟩
      rw [show ((k + (lwC l).length : Nat) : Int) + 1 = ((k + (lwC l).length + 1 : Nat) : Int) by omega]
      refine rk_lines hd f n hn (l2 :: ls) (k + (lwC l).length + 1) M2 (by simp) (fun x hx => q1 x (List.mem_cons_of_mem _ hx)) (by rw [a1.1 128 7 (by omega) (by omega)]; exact q2) (by omega) a2 (CdA_fr _ _ (fun j _ _ => a1.1 _ _ (by omega) (by omega)) c3) (fun j hj => by rw [a1.1 _ _ (by omega) (by omega)]; exact q8 j hj) (fun M3 b1 b2 => ?_)
      have K2 := K M3 (FrS_tr a1 b1) (by rw [lvs_p t1 t2]; exact b2)
      rw [lvs_p t1 t2] at K2
      exact K2
/-- the class's half of the law -/
def LC (M : zM) : Option (List lwL) → Prop
  | none => zg M 128 7 = 0
  | some ls => (ls ≠ [] ∧ ∀ l ∈ ls, lnOk l) ∧ zg M 128 7 = ((lwCs ls).length : Int) ∧ (lwCs ls).length ≤ 120 ∧ CdA M 135 0 (lwCs ls)
theorem lwC_ne {l : lwL} (h : lnOk l) : 0 < (lwC l).length := by
  obtain ⟨a, b⟩ := l
  obtain ⟨-, o2, -⟩ := h
  have : 0 < b.length := List.length_pos_iff.mpr o2
  match a with
  | none => exact this
  | some t => show 0 < (t ++ (-63) :: b).length; simp; omega
theorem lwCs_ne {ls : List lwL} (h : ls ≠ []) (h2 : ∀ l ∈ ls, lnOk l) : 0 < (lwCs ls).length := by
  match ls, h with
  | [l], _ => exact lwC_ne (h2 l (List.mem_cons_self ..))
  | l :: l2 :: r, _ =>
    show 0 < (lwC l ++ (-59) :: lwCs (l2 :: r)).length
    simp
    omega
theorem c_X2_reckon {d : Nat} {M : zM} {Q : Int → zM → Prop} (hd : 3 ≤ d) (f : Nat → Int) (LS : Option (List lwL)) (hL : LC M LS) (hf : ∀ j : Nat, j < 6 → zg M 137 j = f j) (h : ∀ M2 : zM, FrS M M2 → zw (lvv f LS) = lvv f LS → Q (lvv f LS) M2) : Ev d mX2_reckon [.ref 128] M Q := by
  obtain ⟨d, rfl, hdd⟩ := e_of 2 hd; replace hd := hdd
  refine e_X2_reckon (v_X2_reckon_0 ?_)
  match LS with
  | none =>
    have hL : zg M 128 7 = 0 := hL
    have h : Q (bz (f 0 < 80 ∨ f 4 = 1)) M := h M (FrS_rf M) (bz_w _)
    rw [hL, hf 0 (by omega), hf 4 (by omega)]
    refine ⟨fun _ => ⟨fun q => ?_, fun q => ⟨fun q2 => ?_, fun q2 => ?_⟩⟩, fun z => absurd rfl z⟩
    · rw [bz_t (by omega)] at h; exact h
    · rw [bz_t (by omega)] at h; exact h
    · rw [bz_f (by omega)] at h; exact h
  | some ls =>
    obtain ⟨⟨l1, l2⟩, l3, l4, l5⟩ := hL
    have hp := lwCs_ne l1 l2
    rw [l3]
    refine ⟨fun z => absurd z (by omega), fun _ => ?_⟩
    rintro _ rfl
    have fr : FrS M (zs M 128 10 0) := ⟨fun i j a b => by rw [zg_zs, if_neg b], fun _ _ => rfl⟩
    refine rk_lines hd f _ l4 ls 0 _ l1 l2 (by rw [zg_zsj _ _ _ _ (by omega)]; exact l3) (by omega) (by rw [zg_zs1, zq_0]) (CdA_fr _ _ (fun j _ _ => fr.1 _ _ (by omega) (by omega)) l5) (fun j hj => by rw [fr.1 _ _ (by omega) (by omega)]; exact hf j hj) (fun M2 a1 a2 => h M2 (FrS_tr fr a1) a2)
