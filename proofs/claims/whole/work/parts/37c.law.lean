/-! the reference's steps -/
def FrP (M M2 : zM) : Prop := (∀ i j, i ≠ 1311 → zg M2 i j = zg M i j) ∧ (∀ i j, zh M2 i j = zh M i j)
theorem FrP_rf (M : zM) : FrP M M := ⟨fun _ _ _ => rfl, fun _ _ => rfl⟩
theorem FrP_tr {M M2 M3 : zM} (h : FrP M M2) (g : FrP M2 M3) : FrP M M3 := ⟨fun i j a => by rw [g.1 i j a, h.1 i j a], fun i j => by rw [g.2, h.2]⟩
theorem FrP_zs (M : zM) (j : Nat) (v : Int) : FrP M (zs M 1311 j v) := ⟨fun i j a => by rw [zg_zsi _ _ _ _ a], fun _ _ => rfl⟩
def StpA (M : zM) : Nat → List Int → Prop
  | _, [] => True
  | k, c :: cs => (zg M 1305 k = tk1 c ∧ zg M 1306 k = tk2 c) ∧ StpA M (k + 1) cs
theorem StpA_fr {M M2 : zM} (h5 : ∀ j, j < 130 → zg M2 1305 j = zg M 1305 j) (h6 : ∀ j, j < 130 → zg M2 1306 j = zg M 1306 j) : ∀ (k : Nat) (cs : List Int), k + cs.length ≤ 130 → StpA M k cs → StpA M2 k cs
  | k, [], _, _ => trivial
  | k, c :: cs, hk, g => by
    have hl : (c :: cs).length = cs.length + 1 := rfl
    exact ⟨⟨by rw [h5 k (by omega)]; exact g.1.1, by rw [h6 k (by omega)]; exact g.1.2⟩, StpA_fr h5 h6 (k + 1) cs (by omega) g.2⟩
theorem StpA_app {M : zM} : ∀ (k : Nat) (as bs : List Int), StpA M k (as ++ bs) ↔ StpA M k as ∧ StpA M (k + as.length) bs
  | k, [], bs => by simp [StpA]
  | k, a :: as, bs => by
    have := StpA_app (M := M) (k + 1) as bs
    simp only [List.cons_append, StpA, this, List.length_cons, and_assoc, show k + 1 + as.length = k + (as.length + 1) by omega]
theorem StpA_of {M : zM} : ∀ (k : Nat) (cs : List Int), (∀ i : Nat, i < cs.length → zg M 1305 (k + i) = tk1 (cs.getD i 0) ∧ zg M 1306 (k + i) = tk2 (cs.getD i 0)) → StpA M k cs
  | k, [], _ => trivial
  | k, c :: cs, h => ⟨h 0 (by simp), StpA_of (k + 1) cs (fun i hi => by have := h (i + 1) (by simp; omega); rw [show k + 1 + i = k + (i + 1) by omega]; exact this)⟩
theorem wk_seg {d : Nat} {Q : Int → zM → Prop} (hd : 1 ≤ d) (f : Nat → Int) (e : Nat) (he : e ≤ 120) : ∀ (cs : List Int) (k h2 : Nat) (st : List Int) (M : zM), lwH cs st.length = some h2 → k + cs.length = e → st.length ≤ k → StA M 1311 st → StpA M k cs → (∀ j : Nat, j < 6 → zg M 1310 j = f j) → (∀ M2 : zM, FrP M M2 → StA M2 1311 (lrun f cs st) → Q (zg M2 1311 0) M2) → wp (Ev d) 8 cX8_worked (some .int) Q 12 [some (.ref 1280), some (zI 0), none, some (zI (e : Int)), some (zI (st.length : Int)), some (zI (k : Int)), none] [] M
  | [], k, h2, st, M, _, q3, _, q6, _, _, K => by
    have hl : ([] : List Int).length = 0 := rfl
    refine v_X8_worked_12 _ _ _ _ ?_
    rw [zw_of (a := (k : Int)) (by omega) (by omega), show 130 * (0 : Int) + (e : Int) = (e : Int) by omega, zw_of (a := (e : Int)) (by omega) (by omega)]
    exact ⟨fun z => absurd z (by omega), fun _ => K M (FrP_rf M) q6⟩
  | c :: cs, k, h2, st, M, q1, q3, q4, q6, q7, q8, K => by
    have hl : (c :: cs).length = cs.length + 1 := rfl
    obtain ⟨⟨s1, s2⟩, s3⟩ := q7
    have nx : ∀ (st2 : List Int) (v : Int) (ln : Int) (a : Nat), lst1 f c st = v :: st2 → zw v = v → StA M 1311 st2 → ln = ((st2.length + 1 : Nat) : Int) → a = st2.length → wp (Ev d) 8 cX8_worked (some .int) Q 12 [some (.ref 1280), some (zI 0), none, some (zI (e : Int)), some (zI ln), some (zI ((k : Int) + 1)), none] [] (zs M 1311 a v) := by
      rintro st2 v _ _ a1 a2 a3 rfl rfl
      rw [show (k : Int) + 1 = ((k + 1 : Nat) : Int) by omega]
      have fp := FrP_zs M st2.length v
      have hs : ∀ M2 : zM, StA M2 1311 (lrun f cs (v :: st2)) → StA M2 1311 (lrun f (c :: cs) st) := by
        intro M2 h
        show StA M2 1311 (lrun f cs (lst1 f c st))
        rw [a1]; exact h
      have h5 := lst1_len (f := f) q1
      have h6 := lst1_le f c st
      rw [a1] at h5 h6
      refine wk_seg hd f e he cs (k + 1) h2 (v :: st2) _ h5 (by omega) (Nat.le_trans h6 (by omega)) (StA_zs a2 a3) (StpA_fr (fun j _ => fp.1 _ _ (by omega)) (fun j _ => fp.1 _ _ (by omega)) _ _ (by omega) s3) (fun j hj => by rw [fp.1 _ _ (by omega)]; exact q8 j hj) (fun M2 b1 b2 => K M2 (FrP_tr fp b1) (hs M2 b2))
    refine v_X8_worked_12 _ _ _ _ ?_
    rw [zw_of (a := (k : Int)) (by omega) (by omega), show 130 * (0 : Int) + (e : Int) = (e : Int) by omega, zw_of (a := (e : Int)) (by omega) (by omega), show ((k : Int)).toNat = k by omega, s1]
    refine ⟨fun _ => ⟨by omega, by omega, ?_⟩, fun z => absurd (by omega) z⟩
    have w5 : zw (st.length : Int) = (st.length : Int) := zw_of (by omega) (by omega)
    rcases lwH_c q1 with ⟨p1, p2⟩ | ⟨p1, p2, p3⟩ | ⟨p1, p2, p3⟩ | ⟨p1, p2, p3, p4, p5, p6⟩
    · by_cases h0 : 0 ≤ c
      · have t1 : tk1 c = 1 := by unfold tk1; rw [if_pos h0]
        have t2 : tk2 c = c := by unfold tk2; rw [if_pos h0]
        rw [t1]
        refine ⟨fun _ => v_X8_worked_45 _ _ _ _ _ ?_, fun z => absurd rfl z⟩
        rw [zq_1, zw_of (a := (k : Int)) (by omega) (by omega), show ((k : Int)).toNat = k by omega, w5, show ((st.length : Int)).toNat = st.length by omega, s2, t2]
        refine ⟨fun _ => ⟨by omega, by omega, by omega, by omega, ?_⟩, fun z => absurd rfl z⟩
        rintro _ rfl
        refine nx st c _ _ (by unfold lst1; rw [if_pos p1, if_pos h0]) (by rw [← t2, ← s2, zw_zg]) q6 (by omega) rfl
      · have t1 : tk1 c = 2 := by unfold tk1; rw [if_neg h0, if_pos p1]
        have t2 : tk2 c = -1 - c := by unfold tk2; rw [if_neg h0, if_pos p1]
        rw [t1]
        refine ⟨fun z => absurd z (by omega), fun _ => ⟨fun _ => v_X8_worked_45 _ _ _ _ _ ?_, fun z => absurd rfl z⟩⟩
        rw [zq_2, zw_of (a := (k : Int)) (by omega) (by omega), show ((k : Int)).toNat = k by omega, w5, show ((st.length : Int)).toNat = st.length by omega, s2, t2]
        refine ⟨fun z => absurd z (by omega), fun _ => ⟨by omega, by omega, by omega, by omega, by omega, by omega, ?_⟩⟩
        rintro _ rfl
        refine nx st _ _ _ (by unfold lst1; rw [if_pos p1, if_neg h0, q8 _ (by omega)]) (zw_zg _ _ _) q6 (by omega) rfl
    · subst p1
      match st, p2 with
      | a :: r, _ =>
        have hr : (a :: r).length = r.length + 1 := rfl
        have qa : zg M 1311 r.length = a := q6.1
        rw [show tk1 (-33) = 3 by decide, zw_of (a := (((a :: r).length : Nat) : Int) - 1) (by omega) (by omega), show ((((a :: r).length : Nat) : Int) - 1).toNat = r.length by omega, qa]
        have g : lst1 f (-33) (a :: r) = bz (a = 0) :: r := by unfold lst1; rw [if_neg (by omega), if_pos rfl]
        refine ⟨fun z => absurd z (by omega), fun _ => ⟨fun z => absurd z (by omega), fun _ => ⟨fun _ => ⟨by omega, by omega, fun z => ⟨by omega, by omega, ?_⟩, fun z => ⟨by omega, by omega, ?_⟩⟩, fun z => absurd rfl z⟩⟩⟩
        · rintro _ rfl
          exact nx r 1 _ _ (by rw [g, bz_t z]) (by decide) q6.2 (by omega) rfl
        · rintro _ rfl
          exact nx r 0 _ _ (by rw [g, bz_f z]) (by decide) q6.2 (by omega) rfl
    · subst p1
      match st, p2 with
      | a :: r, _ =>
        have hr : (a :: r).length = r.length + 1 := rfl
        have qa : zg M 1311 r.length = a := q6.1
        rw [show tk1 (-126) = 4 by decide, zw_of (a := (((a :: r).length : Nat) : Int) - 1) (by omega) (by omega), show ((((a :: r).length : Nat) : Int) - 1).toNat = r.length by omega, qa]
        have g : lst1 f (-126) (a :: r) = zw (-a) :: r := by unfold lst1; rw [if_neg (by omega), if_neg (by omega), if_pos rfl]
        refine ⟨fun z => absurd z (by omega), fun _ => ⟨fun z => absurd z (by omega), fun _ => ⟨fun z => absurd z (by omega), fun _ => ⟨fun _ => ⟨by omega, by omega, by omega, by omega, ?_⟩, fun z => absurd rfl z⟩⟩⟩⟩
        rintro _ rfl
        have eq : zs M 1311 r.length (-a) = zs M 1311 r.length (zw (-a)) := by unfold zs; rw [ofi_zw]
        rw [eq]
        exact nx r _ _ _ g (zw_zw _) q6.2 (by omega) rfl
    · have t1 : tk1 c = -c := by unfold tk1; rw [if_neg (by omega), if_neg (by omega), if_neg p2, if_neg p3]
      match st, p5 with
      | b :: a :: r, _ =>
        have hr : (b :: a :: r).length = r.length + 2 := rfl
        have p4' := p4
        unfold bsgn at p4'
        have qb : zg M 1311 (r.length + 1) = b := q6.1
        have qa : zg M 1311 r.length = a := q6.2.1
        have wb : zw b = b := by rw [← qb, zw_zg]
        have wa : zw a = a := by rw [← qa, zw_zg]
        rw [t1, zw_of (a := (((b :: a :: r).length : Nat) : Int) + -1 - 1) (by omega) (by omega), zw_of (a := (((b :: a :: r).length : Nat) : Int) + -1) (by omega) (by omega), show ((((b :: a :: r).length : Nat) : Int) + -1 - 1).toNat = r.length by omega, show ((((b :: a :: r).length : Nat) : Int) + -1).toNat = r.length + 1 by omega, qa, qb]
        have g : lst1 f c (b :: a :: r) = lsgn (-c) a b :: r := by unfold lst1; rw [if_neg (by omega), if_neg p2, if_neg p3]
        refine ⟨fun z => absurd z (by omega), fun _ => ⟨fun z => absurd z (by omega), fun _ => ⟨fun z => absurd z (by omega), fun _ => ⟨fun z => absurd z (by omega), fun _ => ⟨by omega, by omega, by omega, by omega, c_X8_twoOf hd _ _ _ (zw_of (by omega) (by omega)) wa wb ⟨by omega, by omega, ?_⟩⟩⟩⟩⟩⟩
        rintro _ rfl
        exact nx r _ _ _ g (lsgn_w _ _ _) q6.2.2 (by omega) rfl
theorem c_X8_worked {d : Nat} {M : zM} {Q : Int → zM → Prop} (hd : 2 ≤ d) (f : Nat → Int) (b e : Nat) (cs : List Int) (hH : lwH cs 0 = some 1) (hb : b + cs.length = e) (he : e ≤ 120) (hS : StpA M b cs) (hf : ∀ j : Nat, j < 6 → zg M 1310 j = f j) (h : ∀ M2 : zM, FrP M M2 → zw (ltop f cs) = ltop f cs → Q (ltop f cs) M2) : Ev d mX8_worked [.ref 1280, zI 0, zI (b : Int), zI (e : Int)] M Q := by
  obtain ⟨d, rfl, hdd⟩ := e_of 1 hd; replace hd := hdd
  refine e_X8_worked _ _ _ (v_X8_worked_0 _ _ _ ?_)
  rw [show 130 * (0 : Int) + (b : Int) = (b : Int) by omega]
  refine wk_seg hd f e he cs b 1 [] M hH hb (by simp) trivial hS hf (fun M2 a1 a2 => ?_)
  rw [lrun_one hH] at a2
  have := a2.1
  rw [show ([] : List Int).length = 0 by rfl] at this
  rw [this]
  exact h M2 a1 (StA_w a2)
def LnA (M : zM) : Nat → Nat → List lwL → Prop
  | _, _, [] => True
  | k, b, l :: ls => (zg M 1308 k = ((b + (l.1.getD []).length : Nat) : Int) ∧ zg M 1309 k = ((b + (lwS l).length : Nat) : Int) ∧ StpA M b (lwS l)) ∧ LnA M (k + 1) (b + (lwS l).length) ls
theorem LnA_fr {M M2 : zM} (h5 : ∀ j, j < 130 → zg M2 1305 j = zg M 1305 j) (h6 : ∀ j, j < 130 → zg M2 1306 j = zg M 1306 j) (h8 : ∀ j, j < 61 → zg M2 1308 j = zg M 1308 j) (h9 : ∀ j, j < 61 → zg M2 1309 j = zg M 1309 j) : ∀ (ls : List lwL) (k b : Nat), k + ls.length ≤ 61 → b + (lwSs ls).length ≤ 130 → LnA M k b ls → LnA M2 k b ls
  | [], _, _, _, _, _ => trivial
  | l :: ls, k, b, q1, q2, g => by
    have hl : (l :: ls).length = ls.length + 1 := rfl
    have hs : (lwSs (l :: ls)).length = (lwS l).length + (lwSs ls).length := by simp [lwSs]
    exact ⟨⟨by rw [h8 _ (by omega)]; exact g.1.1, by rw [h9 _ (by omega)]; exact g.1.2.1, StpA_fr h5 h6 _ _ (by omega) g.1.2.2⟩, LnA_fr h5 h6 h8 h9 ls (k + 1) _ (by omega) (by omega) g.2⟩
theorem gv_lines {d : Nat} {Q : Int → zM → Prop} (hd : 2 ≤ d) (f : Nat → Int) : ∀ (ls : List lwL) (k b : Nat) (M : zM), (∀ l ∈ ls, lnOk l) → zg M 1307 0 = ((k + ls.length : Nat) : Int) → k + ls.length ≤ 60 → b + (lwSs ls).length ≤ 120 → LnA M k b ls → (∀ j : Nat, j < 6 → zg M 1310 j = f j) → (∀ M2 : zM, FrP M M2 → zw (lvs f ls) = lvs f ls → Q (lvs f ls) M2) → wp (Ev d) 8 cX8_gives (some .int) Q 7 [some (.ref 1280), some (zI 0), some (zI (b : Int)), some (zI (k : Int))] [] M
  | [], k, b, M, _, q2, q3, _, _, _, K => by
    have hl : ([] : List lwL).length = 0 := rfl
    refine v_X8_gives_7 _ _ _ ?_
    rw [zq_0, show ((0 : Int)).toNat = 0 by rfl, zw_of (a := (k : Int)) (by omega) (by omega), q2, show 61 * (0 : Int) + ((k + ([] : List lwL).length : Nat) : Int) = (k : Int) by omega, zw_of (a := (k : Int)) (by omega) (by omega)]
    exact ⟨by omega, by omega, fun z => absurd z (by omega), fun _ => K M (FrP_rf M) zq_0⟩
  | l :: ls, k, b, M, q1, q2, q3, q4, q5, q6, K => by
    have hl : (l :: ls).length = ls.length + 1 := rfl
    have hs : (lwSs (l :: ls)).length = (lwS l).length + (lwSs ls).length := by simp [lwSs]
    obtain ⟨⟨s1, s2, s3⟩, s4⟩ := q5
    have ok := q1 l (List.mem_cons_self ..)
    obtain ⟨o1, o2, o3⟩ := ok
    have eT : (lwS l).length = (l.1.getD []).length + l.2.length := by
      obtain ⟨a, c⟩ := l
      match a with
      | none => simp [lwS]
      | some t => simp [lwS]
    have eS : StpA M b (l.1.getD []) ∧ StpA M (b + (l.1.getD []).length) l.2 := by
      obtain ⟨a, c⟩ := l
      match a with
      | none => exact ⟨trivial, s3⟩
      | some t => exact (StpA_app b t c).mp s3
    have go : ∀ M2 : zM, FrP M M2 → lnG f l → wp (Ev d) 8 cX8_gives (some .int) Q 47 [some (.ref 1280), some (zI 0), none, some (zI (k : Int))] [] M2 := by
      intro M2 a1 g
      refine v_X8_gives_47 _ _ ?_
      rw [zw_of (a := (k : Int)) (by omega) (by omega), show ((k : Int)).toNat = k by omega, a1.1 1308 _ (by omega), a1.1 1309 _ (by omega), s1, s2]
      refine ⟨by omega, by omega, by omega, by omega, c_X8_worked hd f _ _ l.2 o1 (by omega) (by omega) (StpA_fr (fun j _ => a1.1 _ _ (by omega)) (fun j _ => a1.1 _ _ (by omega)) _ _ (by omega) eS.2) (fun j hj => by rw [a1.1 _ _ (by omega)]; exact q6 j hj) (fun M3 b1 b2 => ?_)⟩
      rw [b2, ← lvs_g (ls := ls) g]
      exact K M3 (FrP_tr a1 b1) (by rw [lvs_g g]; exact b2)
    refine v_X8_gives_7 _ _ _ ?_
    rw [zq_0, show ((0 : Int)).toNat = 0 by rfl, zw_of (a := (k : Int)) (by omega) (by omega), q2, show 61 * (0 : Int) + ((k + (l :: ls).length : Nat) : Int) = ((k + (l :: ls).length : Nat) : Int) by omega, zw_of (a := ((k + (l :: ls).length : Nat) : Int)) (by omega) (by omega), show ((k : Int)).toNat = k by omega, s1, zw_of (a := (b : Int)) (by omega) (by omega)]
    refine ⟨by omega, by omega, fun _ => ⟨by omega, by omega, fun z => ?_, fun z => ⟨by omega, by omega, ?_⟩⟩, fun z => absurd (by omega) z⟩
    · refine go M (FrP_rf M) (Or.inl ?_)
      obtain ⟨a, c⟩ := l
      match a with
      | none => rfl
      | some t =>
        have : 0 < t.length := List.length_pos_iff.mpr (o3 t rfl).2
        have z2 : ((b + t.length : Nat) : Int) = (b : Int) := z
        omega
    · obtain ⟨t, ht⟩ : ∃ t, l.1 = some t := by
        obtain ⟨a, c⟩ := l
        match a with
        | none => exact absurd rfl z
        | some t => exact ⟨t, rfl⟩
      rw [ht] at eS eT s1 z ⊢
      have e2 : (some t).getD [] = t := rfl
      rw [e2] at eS eT s1 z ⊢
      refine c_X8_worked hd f b _ t (o3 t ht).1 rfl (by omega) eS.1 q6 (fun M2 a1 a2 => ?_)
      rw [a2]
      refine ⟨fun y => ⟨by omega, by omega, ?_⟩, fun y => go M2 a1 (Or.inr ⟨t, ht, y⟩)⟩
      rw [a1.1 1309 _ (by omega), s2, show (k : Int) + 1 = ((k + 1 : Nat) : Int) by omega]
      refine gv_lines hd f ls (k + 1) _ M2 (fun x hx => q1 x (List.mem_cons_of_mem _ hx)) (by rw [a1.1 1307 _ (by omega), q2]; omega) (by omega) (by omega) (LnA_fr (fun j _ => a1.1 _ _ (by omega)) (fun j _ => a1.1 _ _ (by omega)) (fun j _ => a1.1 _ _ (by omega)) (fun j _ => a1.1 _ _ (by omega)) _ _ _ (by omega) (by omega) s4) (fun j hj => by rw [a1.1 _ _ (by omega)]; exact q6 j hj) (fun M3 b1 b2 => ?_)
      have K2 := K M3 (FrP_tr a1 b1) (by rw [lvs_p ht y]; exact b2)
      rw [lvs_p ht y] at K2
      exact K2
/-- the reference's half of the law -/
def LR (M : zM) : Option (List lwL) → Prop
  | none => zg M 1280 31 = 0
  | some ls => zg M 1280 31 = 1 ∧ (ls ≠ [] ∧ ∀ l ∈ ls, lnOk l) ∧ zg M 1307 0 = (ls.length : Int) ∧ ls.length ≤ 60 ∧ (lwSs ls).length ≤ 120 ∧ LnA M 0 0 ls
theorem c_X8_gives {d : Nat} {M : zM} {Q : Int → zM → Prop} (hd : 3 ≤ d) (f : Nat → Int) (ls : List lwL) (hL : LR M (some ls)) (hf : ∀ j : Nat, j < 6 → zg M 1310 j = f j) (h : ∀ M2 : zM, FrP M M2 → zw (lvs f ls) = lvs f ls → Q (lvs f ls) M2) : Ev d mX8_gives [.ref 1280, zI 0] M Q := by
  obtain ⟨d, rfl, hdd⟩ := e_of 2 hd; replace hd := hdd
  obtain ⟨h1, ⟨h2, h3⟩, h4, h5, h6, h7⟩ := hL
  refine e_X8_gives _ (v_X8_gives_0 _ ?_)
  rw [show 61 * (0 : Int) = 0 by omega]
  exact gv_lines hd f ls 0 0 M h3 (by rw [h4]; omega) (by omega) (by omega) h7 hf h
theorem LnA_of {M : zM} (ls : List lwL) (h1 : ∀ i : Nat, i < 130 → i < (lwSs ls).length → zg M 1305 i = tk1 ((lwSs ls).getD i 0) ∧ zg M 1306 i = tk2 ((lwSs ls).getD i 0)) (h0 : (lwSs ls).length ≤ 120) (hn : ls.length ≤ 60) (h2 : ∀ k : Nat, k < 61 → k < ls.length → zg M 1308 k = ((lwB ls k + (((ls.getD k (none, [])).1).getD []).length : Nat) : Int) ∧ zg M 1309 k = ((lwB ls (k + 1) : Nat) : Int)) : ∀ (sf pr : List lwL), ls = pr ++ sf → LnA M pr.length (lwSs pr).length sf
  | [], _, _ => trivial
  | l :: sf, pr, e => by
    have hl : (l :: sf).length = sf.length + 1 := rfl
    have hs : ∀ (xs ys : List lwL), lwSs (xs ++ ys) = lwSs xs ++ lwSs ys := fun xs ys => by simp [lwSs]
    have hc : lwSs (l :: sf) = lwS l ++ lwSs sf := by simp [lwSs]
    have hlen : ls.length = pr.length + (sf.length + 1) := by rw [e]; simp
    have hL : (lwSs ls).length = (lwSs pr).length + ((lwS l).length + (lwSs sf).length) := by rw [e, hs, hc]; simp
    have g := h2 pr.length (by omega) (by omega)
    have b1 : lwB ls pr.length = (lwSs pr).length := by unfold lwB; rw [e, List.take_left']; rfl
    have b2 : lwB ls (pr.length + 1) = (lwSs pr).length + (lwS l).length := by
      unfold lwB
      rw [e, show pr ++ l :: sf = (pr ++ [l]) ++ sf by simp, List.take_left' (by simp), hs]
      simp [lwSs]
    have b3 : ls.getD pr.length (none, []) = l := by rw [e]; simp [List.getD]
    rw [b1, b2, b3] at g
    refine ⟨⟨g.1, g.2, StpA_of _ _ (fun i hi => ?_)⟩, ?_⟩
    · have := h1 ((lwSs pr).length + i) (by omega) (by omega)
      have eq : (lwSs ls).getD ((lwSs pr).length + i) 0 = (lwS l).getD i 0 := by
        rw [e, hs, hc]
        simp [List.getD, List.getElem?_append, hi]
        rw [if_neg (by omega)]; rfl
      rw [eq] at this
      exact this
    · have := LnA_of ls h1 h0 hn h2 sf (pr ++ [l]) (by rw [e]; simp)
      rw [hs, List.length_append, List.length_append, show ([l] : List lwL).length = 1 by rfl, show lwSs [l] = lwS l by simp [lwSs]] at this
      exact this
theorem IL_LS {M : zM} (hI : IL M) : ∃ LS, LC M LS ∧ LR M LS := by
  rcases hI with ⟨h1, h2⟩ | ⟨h1, ls, h2, h3, h4, h5, h6, h7, h8, h9, h10⟩
  · exact ⟨none, h1, h2⟩
  · refine ⟨some ls, ⟨⟨h2.1, h2.2⟩, h3, h4, CdA_of _ _ (fun i hi => by rw [Nat.zero_add]; exact h5 i hi)⟩, h1, ⟨h2.1, h2.2⟩, h6, h7, h8, ?_⟩
    exact LnA_of ls h9 h8 h7 h10 ls [] rfl
