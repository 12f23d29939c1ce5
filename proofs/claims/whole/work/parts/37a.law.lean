/-! the law's codes: what they reckon, in class and reference -/
theorem zdiv_m1 {a b : Int} (ha : zw a = a) (hb : zw b = -1) : z_div a b = zw (-a) := by
  have e1 : (Int32.ofInt b).toInt = -1 := hb
  have e2 : (Int32.ofInt a).toInt = a := ha
  unfold z_div
  rw [Int32.toInt_div, e1, e2, Int.tdiv_neg, Int.tdiv_one]
  unfold zw
  rw [Int32.toInt_ofInt]
theorem zrem_m1 {a b : Int} (ha : zw a = a) (hb : zw b = -1) : z_rem a b = 0 := by
  have e1 : Int32.ofInt b = -1 := by rw [← ofi_zw, hb]; rfl
  have e2 : Int32.ofInt a / Int32.ofInt b = -(Int32.ofInt a) := by
    rw [← Int32.toInt_inj, Int32.toInt_div, Int32.toInt_neg, show (Int32.ofInt b).toInt = -1 from hb, Int.tdiv_neg, Int.tdiv_one]
  unfold z_rem
  rw [e2, e1, show -(Int32.ofInt a) * -1 = Int32.ofInt a by rw [Int32.neg_mul_neg, Int32.mul_one], Int32.sub_self]
  rfl
def lsgn (c a b : Int) : Int :=
  if c = 37 then (if b = 0 then 0 else z_rem a b) else if c = 38 then bz (a ≠ 0 ∧ b ≠ 0) else if c = 42 then zw (a * b) else if c = 43 then zw (a + b) else if c = 45 then zw (a - b) else if c = 47 then (if b = 0 then 0 else z_div a b) else if c = 60 then bz (a < b) else if c = 61 then bz (a = b) else if c = 62 then bz (b < a) else bz (a ≠ 0 ∨ b ≠ 0)
/-- one code on a stack, its top first -/
def lst1 (f : Nat → Int) (c : Int) (st : List Int) : List Int :=
  if -6 ≤ c then (if 0 ≤ c then c else f (-1 - c).toNat) :: st
  else if c = -33 then (match st with | a :: r => bz (a = 0) :: r | [] => [])
  else if c = -126 then (match st with | a :: r => zw (-a) :: r | [] => [])
  else (match st with | b :: a :: r => lsgn (-c) a b :: r | r => r)
def lrun (f : Nat → Int) : List Int → List Int → List Int
  | [], st => st
  | c :: cs, st => lrun f cs (lst1 f c st)
def ltop (f : Nat → Int) (cs : List Int) : Int := (lrun f cs []).headD 0
/-- what lines come to -/
def lvs (f : Nat → Int) : List lwL → Int
  | [] => 0
  | l :: ls => match l.1 with | none => ltop f l.2 | some t => if ltop f t = 0 then lvs f ls else ltop f l.2
def lvv (f : Nat → Int) : Option (List lwL) → Int
  | none => bz (f 0 < 80 ∨ f 4 = 1)
  | some ls => lvs f ls
def bsgn (c : Int) : Prop := c = -37 ∨ c = -38 ∨ c = -42 ∨ c = -43 ∨ c = -45 ∨ c = -47 ∨ c = -60 ∨ c = -61 ∨ c = -62 ∨ c = -124
theorem lwH_c {c : Int} {cs : List Int} {h h2 : Nat} (q : lwH (c :: cs) h = some h2) : (-6 ≤ c ∧ lwH cs (h + 1) = some h2) ∨ (c = -33 ∧ 1 ≤ h ∧ lwH cs h = some h2) ∨ (c = -126 ∧ 1 ≤ h ∧ lwH cs h = some h2) ∨ (c < -6 ∧ c ≠ -33 ∧ c ≠ -126 ∧ bsgn c ∧ 2 ≤ h ∧ lwH cs (h - 1) = some h2) := by
  unfold bsgn
  rw [lwH] at q
  split at q
  · exact Or.inl ⟨by assumption, q⟩
  · split at q
    · split at q
      · rename_i a b c2
        rcases b with b | b
        · exact Or.inr (Or.inl ⟨b, c2, q⟩)
        · exact Or.inr (Or.inr (Or.inl ⟨b, c2, q⟩))
      · cases q
    · split at q
      · split at q
        · rename_i a b c2 c3
          exact Or.inr (Or.inr (Or.inr ⟨by omega, fun z => b (Or.inl z), fun z => b (Or.inr z), c2, c3, q⟩))
        · cases q
      · cases q
theorem lst1_len {f : Nat → Int} {c : Int} {cs st : List Int} {h2 : Nat} (q : lwH (c :: cs) st.length = some h2) : lwH cs (lst1 f c st).length = some h2 := by
  rcases lwH_c q with ⟨q1, q2⟩ | ⟨q1, q2, q3⟩ | ⟨q1, q2, q3⟩ | ⟨q1, q2, q3, q4, q5, q6⟩
  · unfold lst1; rw [if_pos q1]; exact q2
  · subst q1
    unfold lst1; rw [if_neg (by omega), if_pos rfl]
    match st, q2 with
    | a :: r, _ => exact q3
  · subst q1
    unfold lst1; rw [if_neg (by omega), if_neg (by omega), if_pos rfl]
    match st, q2 with
    | a :: r, _ => exact q3
  · unfold lst1; rw [if_neg (by omega), if_neg q2, if_neg q3]
    match st, q5 with
    | b :: a :: r, _ => exact q6
theorem lrun_len {f : Nat → Int} : ∀ (cs st : List Int) (h2 : Nat), lwH cs st.length = some h2 → (lrun f cs st).length = h2
  | [], st, h2, q => by rw [lwH] at q; exact Option.some.inj q
  | c :: cs, st, h2, q => lrun_len cs _ h2 (lst1_len q)
theorem lwH_no : ∀ (cs : List Int) (h h2 : Nat), lwH cs h = some h2 → ∀ c ∈ cs, c ≠ -59 ∧ c ≠ -63
  | [], _, _, _, c, hc => by cases hc
  | c0 :: cs, h, h2, q, c, hc => by
    have a1 : c0 ≠ -59 ∧ c0 ≠ -63 := by
      have := lwH_c q; unfold bsgn at this; omega
    have a2 : ∃ h3, lwH cs h3 = some h2 := by
      rcases lwH_c q with ⟨q1, q2⟩ | ⟨q1, q2, q3⟩ | ⟨q1, q2, q3⟩ | ⟨q1, q2, q3, q4, q5, q6⟩
      · exact ⟨_, q2⟩
      · exact ⟨_, q3⟩
      · exact ⟨_, q3⟩
      · exact ⟨_, q6⟩
    obtain ⟨h3, a2⟩ := a2
    rcases List.mem_cons.mp hc with e | e
    · subst e; exact a1
    · exact lwH_no cs h3 h2 a2 c e
/-- numbers that lie from a place on -/
def CdA (M : zM) (A : Nat) : Nat → List Int → Prop
  | _, [] => True
  | k, c :: cs => zg M A k = c ∧ CdA M A (k + 1) cs
theorem CdA_app {M : zM} {A : Nat} : ∀ (k : Nat) (as bs : List Int), CdA M A k (as ++ bs) ↔ CdA M A k as ∧ CdA M A (k + as.length) bs
  | k, [], bs => by simp [CdA]
  | k, a :: as, bs => by
    have := CdA_app (M := M) (A := A) (k + 1) as bs
    simp only [List.cons_append, CdA, this, List.length_cons, and_assoc, show k + 1 + as.length = k + (as.length + 1) by omega]
theorem CdA_of {M : zM} {A : Nat} : ∀ (k : Nat) (cs : List Int), (∀ i : Nat, i < cs.length → zg M A (k + i) = cs.getD i 0) → CdA M A k cs
  | k, [], _ => trivial
  | k, c :: cs, h => ⟨h 0 (by simp), CdA_of (k + 1) cs (fun i hi => by have := h (i + 1) (by simp; omega); rw [show k + 1 + i = k + (i + 1) by omega, this]; rfl)⟩
theorem CdA_to {M : zM} {A : Nat} : ∀ (k : Nat) (cs : List Int), CdA M A k cs → ∀ i : Nat, i < cs.length → zg M A (k + i) = cs.getD i 0
  | k, [], _, i, hi => by simp at hi
  | k, c :: cs, h, 0, hi => h.1
  | k, c :: cs, h, i + 1, hi => by
    have := CdA_to (k + 1) cs h.2 i (by simp at hi; omega)
    rw [show k + (i + 1) = k + 1 + i by omega, this]; rfl
theorem CdA_fr {M M2 : zM} {A : Nat} : ∀ (k : Nat) (cs : List Int), (∀ j : Nat, k ≤ j → j < k + cs.length → zg M2 A j = zg M A j) → CdA M A k cs → CdA M2 A k cs
  | k, [], _, _ => trivial
  | k, c :: cs, h, g => ⟨by rw [h k (by omega) (by simp)]; exact g.1, CdA_fr (k + 1) cs (fun j h1 h2 => h j (by omega) (by simp only [List.length_cons]; omega)) g.2⟩
/-- a stack in an array, its top first -/
def StA (M : zM) (A : Nat) : List Int → Prop
  | [] => True
  | a :: r => zg M A r.length = a ∧ StA M A r
theorem StA_fr {M M2 : zM} {A : Nat} : ∀ (st : List Int), (∀ j : Nat, j < st.length → zg M2 A j = zg M A j) → StA M A st → StA M2 A st
  | [], _, _ => trivial
  | a :: r, h, g => ⟨by rw [h r.length (by simp)]; exact g.1, StA_fr r (fun j hj => h j (by simp only [List.length_cons]; omega)) g.2⟩
theorem StA_w {M : zM} {A : Nat} {a : Int} {r : List Int} (h : StA M A (a :: r)) : zw a = a := by
  rw [← h.1, zw_zg]
theorem StA_zs {M : zM} {A : Nat} {st : List Int} {v : Int} (hv : zw v = v) (h : StA M A st) : StA (zs M A st.length v) A (v :: st) :=
  ⟨by rw [zg_zs1, hv], StA_fr st (fun j hj => by rw [zg_zsj _ _ _ _ (by omega)]) h⟩
/-- only the stack and its height have changed -/
def FrS (M M2 : zM) : Prop := (∀ i j, i ≠ 138 → ¬ (i = 128 ∧ j = 10) → zg M2 i j = zg M i j) ∧ (∀ i j, zh M2 i j = zh M i j)
theorem FrS_rf (M : zM) : FrS M M := ⟨fun _ _ _ _ => rfl, fun _ _ => rfl⟩
theorem FrS_tr {M M2 M3 : zM} (h : FrS M M2) (g : FrS M2 M3) : FrS M M3 := ⟨fun i j a b => by rw [g.1 i j a b, h.1 i j a b], fun i j => by rw [g.2, h.2]⟩
theorem c_X2_push {d : Nat} {M : zM} {Q : Int → zM → Prop} (hd : 1 ≤ d) (v : Int) (st : List Int) (hv : zw v = v) (hh : zg M 128 10 = (st.length : Int)) (hl : st.length < 120) (hS : StA M 138 st) (h : ∀ M2 : zM, FrS M M2 → zg M2 128 10 = ((v :: st).length : Int) → StA M2 138 (v :: st) → Q 0 M2) : Ev d mX2_push [.ref 128, zI v] M Q := by
  obtain ⟨d, rfl, -⟩ := e_of 0 hd
  refine e_X2_push v (v_X2_push_0 v ?_)
  rw [hh, show ((st.length : Int)).toNat = st.length by omega]
  refine ⟨fun _ => ⟨by omega, by omega, ?_⟩, fun z => absurd (by omega) z⟩
  rintro _ rfl _ rfl
  have e : zg (zs M 138 st.length v) 128 10 = (st.length : Int) := by rw [zg_zsi _ _ _ _ (by omega)]; exact hh
  refine h _ ⟨fun i j a b => ?_, fun _ _ => rfl⟩ ?_ ?_
  · rw [zg_zs, if_neg b, zg_zsi _ _ _ _ a]
  · rw [zg_zs1, e, zw_of (by omega) (by omega)]; simp
  · exact StA_fr _ (fun j _ => by rw [zg_zsi _ _ _ _ (by omega)]) (StA_zs hv hS)
theorem c_X2_pop {d : Nat} {M : zM} {Q : Int → zM → Prop} (hd : 1 ≤ d) (a : Int) (st : List Int) (hh : zg M 128 10 = ((a :: st).length : Int)) (hl : st.length < 120) (hS : StA M 138 (a :: st)) (h : ∀ M2 : zM, FrS M M2 → zg M2 128 10 = (st.length : Int) → StA M2 138 st → Q a M2) : Ev d mX2_pop [.ref 128] M Q := by
  obtain ⟨d, rfl, -⟩ := e_of 0 hd
  refine e_X2_pop (v_X2_pop_0 ?_)
  rw [hh]
  simp only [List.length_cons]
  refine ⟨fun z => absurd z (by omega), fun _ => ?_⟩
  rintro _ rfl
  have e : zg (zs M 128 10 (((st.length + 1 : Nat) : Int) - 1)) 128 10 = (st.length : Int) := by rw [zg_zs1, zw_of (by omega) (by omega)]; omega
  rw [e, show ((st.length : Int)).toNat = st.length by omega, zg_zsi _ _ _ _ (by omega), hS.1]
  refine ⟨by omega, by omega, h _ ⟨fun i j a b => by rw [zg_zs, if_neg b], fun _ _ => rfl⟩ e ?_⟩
  exact StA_fr _ (fun j _ => by rw [zg_zsi _ _ _ _ (by omega)]) hS.2
theorem c_X2_pop0 {d : Nat} {M : zM} {Q : Int → zM → Prop} (hd : 1 ≤ d) (hh : zg M 128 10 = 0) (h : Q 0 M) : Ev d mX2_pop [.ref 128] M Q := by
  obtain ⟨d, rfl, -⟩ := e_of 0 hd
  refine e_X2_pop (v_X2_pop_0 ?_)
  rw [hh]
  exact ⟨fun _ => h, fun z => absurd (by omega) z⟩
theorem c_X2_joined {d : Nat} {M : zM} {Q : Int → zM → Prop} (hd : 1 ≤ d) (c a b : Int) (hc : bsgn (-c)) (ha : zw a = a) (hb : zw b = b) (h : Q (lsgn c a b) M) : Ev d mX2_joined [zI c, zI a, zI b] M Q := by
  obtain ⟨d, rfl, -⟩ := e_of 0 hd
  refine e_X2_joined c a b (v_X2_joined_0 c a b ?_)
  unfold bsgn at hc
  rw [zw_of (a := c) (by omega) (by omega), ha, hb]
  unfold lsgn at h
  refine ⟨fun q => ?_, fun q => ?_, fun q => ?_, fun q => ?_, fun q => ?_, fun q => ?_, fun q => ?_, fun q => ?_, fun q => ?_, fun q => ?_, fun q1 q2 q3 q4 q5 q6 q7 q8 q9 q10 => absurd hc (by omega)⟩ <;> subst q
  · rw [if_pos rfl] at h
    exact ⟨fun z => by rw [if_pos z] at h; exact h, fun z => ⟨z, by rw [if_neg z] at h; exact h⟩⟩
  · rw [if_neg (by omega), if_pos rfl] at h
    exact ⟨fun z => by rw [bz_f (by omega)] at h; exact h, fun z => ⟨fun z2 => by rw [bz_f (by omega)] at h; exact h, fun z2 => by rw [bz_t (by omega)] at h; exact h⟩⟩
  · rw [if_neg (by omega), if_neg (by omega), if_pos rfl] at h; exact h
  · rw [if_neg (by omega), if_neg (by omega), if_neg (by omega), if_pos rfl] at h; exact h
  · rw [if_neg (by omega), if_neg (by omega), if_neg (by omega), if_neg (by omega), if_pos rfl] at h; exact h
  · rw [if_neg (by omega), if_neg (by omega), if_neg (by omega), if_neg (by omega), if_neg (by omega), if_pos rfl] at h
    exact ⟨fun z => by rw [if_pos z] at h; exact h, fun z => ⟨z, by rw [if_neg z] at h; exact h⟩⟩
  · rw [if_neg (by omega), if_neg (by omega), if_neg (by omega), if_neg (by omega), if_neg (by omega), if_neg (by omega), if_pos rfl] at h
    exact ⟨fun z => by rw [bz_t z] at h; exact h, fun z => by rw [bz_f z] at h; exact h⟩
  · rw [if_neg (by omega), if_neg (by omega), if_neg (by omega), if_neg (by omega), if_neg (by omega), if_neg (by omega), if_neg (by omega), if_pos rfl] at h
    exact ⟨fun z => by rw [bz_t z] at h; exact h, fun z => by rw [bz_f z] at h; exact h⟩
  · rw [if_neg (by omega), if_neg (by omega), if_neg (by omega), if_neg (by omega), if_neg (by omega), if_neg (by omega), if_neg (by omega), if_neg (by omega), if_pos rfl] at h
    exact ⟨fun z => by rw [bz_t z] at h; exact h, fun z => by rw [bz_f z] at h; exact h⟩
  · rw [if_neg (by omega), if_neg (by omega), if_neg (by omega), if_neg (by omega), if_neg (by omega), if_neg (by omega), if_neg (by omega), if_neg (by omega), if_neg (by omega)] at h
    exact ⟨fun z => ⟨fun z2 => by rw [bz_f (by omega)] at h; exact h, fun z2 => by rw [bz_t (by omega)] at h; exact h⟩, fun z => by rw [bz_t (by omega)] at h; exact h⟩
theorem c_X8_twoOf {d : Nat} {M : zM} {Q : Int → zM → Prop} (hd : 1 ≤ d) (c a b : Int) (hc : zw c = c) (ha : zw a = a) (hb : zw b = b) (h : Q (lsgn c a b) M) : Ev d mX8_twoOf [zI c, zI a, zI b] M Q := by
  obtain ⟨d, rfl, -⟩ := e_of 0 hd
  refine e_X8_twoOf c a b (v_X8_twoOf_0 c a b ?_)
  rw [hc, ha, hb]
  unfold lsgn at h
  refine ⟨fun q => ?_, fun q => ?_, fun q => ?_, fun q => ?_, fun q => ?_, fun q => ?_, fun q => ?_, fun q => ?_, fun q => ?_, fun q1 q2 q3 q4 q5 q6 q7 q8 q9 => ?_⟩
  · subst q
    rw [if_pos rfl] at h
    refine ⟨fun z => by rw [if_pos z] at h; exact h, fun z => ⟨fun z2 => ?_, fun z2 => ⟨z, by rw [if_neg z] at h; exact h⟩⟩⟩
    rw [if_neg z, zrem_m1 ha (by rw [hb]; exact z2)] at h; exact h
  · subst q
    rw [if_neg (by omega), if_pos rfl] at h
    exact ⟨fun z => by rw [bz_f (by omega)] at h; exact h, fun z => ⟨fun z2 => by rw [bz_f (by omega)] at h; exact h, fun z2 => by rw [bz_t (by omega)] at h; exact h⟩⟩
  · subst q
    rw [if_neg (by omega), if_neg (by omega), if_pos rfl] at h; exact h
  · subst q
    rw [if_neg (by omega), if_neg (by omega), if_neg (by omega), if_pos rfl] at h; exact h
  · subst q
    rw [if_neg (by omega), if_neg (by omega), if_neg (by omega), if_neg (by omega), if_pos rfl] at h; exact h
  · subst q
    rw [if_neg (by omega), if_neg (by omega), if_neg (by omega), if_neg (by omega), if_neg (by omega), if_pos rfl] at h
    refine ⟨fun z => by rw [if_pos z] at h; exact h, fun z => ⟨fun z2 => ?_, fun z2 => ⟨z, by rw [if_neg z] at h; exact h⟩⟩⟩
    rw [if_neg z, zdiv_m1 ha (by rw [hb]; exact z2)] at h; exact h
  · subst q
    rw [if_neg (by omega), if_neg (by omega), if_neg (by omega), if_neg (by omega), if_neg (by omega), if_neg (by omega), if_pos rfl] at h
    exact ⟨fun z => by rw [bz_t z] at h; exact h, fun z => by rw [bz_f z] at h; exact h⟩
  · subst q
    rw [if_neg (by omega), if_neg (by omega), if_neg (by omega), if_neg (by omega), if_neg (by omega), if_neg (by omega), if_neg (by omega), if_pos rfl] at h
    exact ⟨fun z => by rw [bz_t z] at h; exact h, fun z => by rw [bz_f z] at h; exact h⟩
  · subst q
    rw [if_neg (by omega), if_neg (by omega), if_neg (by omega), if_neg (by omega), if_neg (by omega), if_neg (by omega), if_neg (by omega), if_neg (by omega), if_pos rfl] at h
    exact ⟨fun z => by rw [bz_t z] at h; exact h, fun z => by rw [bz_f z] at h; exact h⟩
  · rw [if_neg q1, if_neg q2, if_neg q3, if_neg q4, if_neg q5, if_neg q6, if_neg q7, if_neg q8, if_neg q9] at h
    exact ⟨fun z => ⟨fun z2 => by rw [bz_f (by omega)] at h; exact h, fun z2 => by rw [bz_t (by omega)] at h; exact h⟩, fun z => by rw [bz_t (by omega)] at h; exact h⟩
theorem lsgn_w (c a b : Int) : zw (lsgn c a b) = lsgn c a b := by
  unfold lsgn
  split
  · split
    · decide
    · exact zx_rem _ _
  · split
    · exact bz_w _
    · split
      · exact zw_zw _
      · split
        · exact zw_zw _
        · split
          · exact zw_zw _
          · split
            · split
              · decide
              · exact zx_div _ _
            · split
              · exact bz_w _
              · split
                · exact bz_w _
                · split
                  · exact bz_w _
                  · exact bz_w _
theorem c_X2_reckonSign {d : Nat} {M : zM} {Q : Int → zM → Prop} (hd : 2 ≤ d) (f : Nat → Int) (c : Int) (cs st : List Int) (h2 : Nat) (hc : c < -6) (hH : lwH (c :: cs) st.length = some h2) (hh : zg M 128 10 = (st.length : Int)) (hl : st.length ≤ 120) (hS : StA M 138 st) (h : ∀ M2 : zM, FrS M M2 → zg M2 128 10 = ((lst1 f c st).length : Int) → StA M2 138 (lst1 f c st) → Q 0 M2) : Ev d mX2_reckonSign [.ref 128, zI (-c)] M Q := by
  obtain ⟨d, rfl, hdd⟩ := e_of 1 hd; replace hd := hdd
  refine e_X2_reckonSign _ (v_X2_reckonSign_0 _ ?_)
  rcases lwH_c hH with ⟨q1, q2⟩ | ⟨q1, q2, q3⟩ | ⟨q1, q2, q3⟩ | ⟨q1, q2, q3, q4, q5, q6⟩
  · omega
  · subst q1
    match st, q2 with
    | a :: r, _ =>
      have hl2 : r.length < 120 := by simp only [List.length_cons] at hl; omega
      refine c_X2_pop hd a r hh hl2 hS (fun M2 f1 f2 f3 => ⟨fun _ => ?_, fun z => absurd (by decide) z⟩)
      have wa := StA_w hS
      rw [wa]
      have g : lst1 f (-33) (a :: r) = bz (a = 0) :: r := by unfold lst1; rw [if_neg (by omega), if_pos rfl]
      rw [g] at h
      refine ⟨fun z => v_X2_reckonSign_21 _ ?_, fun z => v_X2_reckonSign_21 _ ?_⟩
      · rw [bz_t z] at h
        exact c_X2_push hd 1 r (by decide) f2 hl2 f3 (fun M3 g1 g2 g3 => h M3 (FrS_tr f1 g1) g2 g3)
      · rw [bz_f z] at h
        exact c_X2_push hd 0 r (by decide) f2 hl2 f3 (fun M3 g1 g2 g3 => h M3 (FrS_tr f1 g1) g2 g3)
  · subst q1
    match st, q2 with
    | a :: r, _ =>
      have hl2 : r.length < 120 := by simp only [List.length_cons] at hl; omega
      refine c_X2_pop hd a r hh hl2 hS (fun M2 f1 f2 f3 => ⟨fun z => absurd z (by decide), fun _ => ⟨fun _ => ?_, fun z => absurd (by decide) z⟩⟩)
      have g : lst1 f (-126) (a :: r) = zw (-a) :: r := by unfold lst1; rw [if_neg (by omega), if_neg (by omega), if_pos rfl]
      rw [g] at h
      rw [show zI (-a) = zI (zw (-a)) by unfold zI; rw [ofi_zw]]
      exact c_X2_push hd _ r (zw_zw _) f2 hl2 f3 (fun M3 g1 g2 g3 => h M3 (FrS_tr f1 g1) g2 g3)
  · match st, q5 with
    | b :: a :: r, _ =>
      have hl2 : r.length < 119 := by simp only [List.length_cons] at hl; omega
      have q4' := q4
      unfold bsgn at q4'
      have wc : zw (-c) = -c := zw_of (by omega) (by omega)
      rw [wc]
      refine c_X2_pop hd b (a :: r) hh (by simp only [List.length_cons]; omega) hS (fun M2 f1 f2 f3 => ⟨fun z => absurd z (by omega), fun _ => ⟨fun z => absurd z (by omega), fun _ => ?_⟩⟩)
      have g : lst1 f c (b :: a :: r) = lsgn (-c) a b :: r := by unfold lst1; rw [if_neg (by omega), if_neg q2, if_neg q3]
      rw [g] at h
      refine c_X2_pop hd a r f2 (by omega) f3 (fun M3 g1 g2 g3 => c_X2_joined hd _ _ _ (by rw [Int.neg_neg]; exact q4) (StA_w f3) (StA_w hS) ?_)
      exact c_X2_push hd _ r (lsgn_w _ _ _) g2 (by omega) g3 (fun M4 k1 k2 k3 => h M4 (FrS_tr f1 (FrS_tr g1 k1)) k2 k3)
