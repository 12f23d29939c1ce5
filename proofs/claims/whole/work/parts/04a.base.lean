/-! the small machine over the real one: worlds, locals -/
def zcv (adr : Nat → Nat) (v : Value) : Value := match v with
  | .ref i => .ref (adr i)
  | x => x
def zfv (adr : Nat → Nat) (M : zM) (o k : Nat) : Value := if zfk (zoc o) k = 1 then .ref (adr (o + (k + 1))) else if zfk (zoc o) k = 2 then .ref (adr (ztg (zoc o) k)) else .int (M.1 o k)
def zan (i : Nat) : Nat := zal (zoc (i / 64 * 64)) (i % 64 - 1)
def zcell (cy : Nat → ClassId) (adr : Nat → Nat) (M : zM) (i : Nat) : va_E :=
  if i % 64 = 0 then .inr (zoc i, (List.range (zN (zoc i))).map (zfv adr M i))
  else if zet i = .long then .inl (cy 4, zan i, .inr (.inl (M.2 i)))
  else if zet i = .object RX6 then .inl (cy 5, zan i, .inr (.inr (.inr (.inr (fun j => some (adr (640 + 64 * j)))))))
  else .inl ((if zet i = .byte then cy 1 else if zet i = .short then cy 2 else if zet i = .boolean then cy 3 else cy 0), zan i, .inl (M.1 i))
def zws (cy : Nat → ClassId) (adr : Nat → Nat) (M : zM) : va_W := zIDS.map (fun i => (adr i, zcell cy adr M i))
def ztys (cy : Nat → ClassId) : List (ClassId × FieldType) := [(cy 0, .int), (cy 1, .byte), (cy 2, .short), (cy 3, .boolean), (cy 4, .long), (cy 5, .object RX6)]
def zA (adr : Nat → Nat) : Nat → Prop := fun q => ∃ i, i ∈ zIDS ∧ q = adr i
theorem zIDS_nodup : zIDS.Nodup := by decide +kernel
theorem zw_at (cy : Nat → ClassId) (adr : Nat → Nat) (M : zM) {o : Nat} (ho : o ∈ zIDS) : ∃ q0 : Nat, zIDS[q0]? = some o ∧ (zws cy adr M)[q0]? = some (adr o, zcell cy adr M o) := by
  obtain ⟨q0, h⟩ := List.getElem?_of_mem ho
  exact ⟨q0, h, by simp only [zws, List.getElem?_map, h, Option.map_some]⟩
theorem zws_set (cy : Nat → ClassId) (adr : Nat → Nat) (M M2 : zM) {o q0 : Nat} (hq : zIDS[q0]? = some o) (h : ∀ i, i ≠ o → zcell cy adr M2 i = zcell cy adr M i) : (zws cy adr M).set q0 (adr o, zcell cy adr M2 o) = zws cy adr M2 := by
  apply List.ext_getElem?
  intro k
  rw [List.getElem?_set]
  by_cases hk : q0 = k
  · subst hk
    have hl : q0 < zIDS.length := (List.getElem?_eq_some_iff.mp hq).1
    simp only [zws, List.length_map, hl, if_true, List.getElem?_map, hq, Option.map_some]
  · rw [if_neg hk]
    simp only [zws, List.getElem?_map]
    cases hi : zIDS[k]? with
    | none => rfl
    | some i =>
      have hne : i ≠ o := by
        intro e
        subst e
        have hl : q0 < zIDS.length := (List.getElem?_eq_some_iff.mp hq).1
        exact hk ((List.getElem?_inj hl zIDS_nodup).mp (hq.trans hi.symm))
      simp only [Option.map_some, h i hne]
theorem zD (cy : Nat → ClassId) (adr : Nat → Nat) (hinj : ∀ i ∈ zIDS, ∀ j ∈ zIDS, adr i = adr j → i = j) (M : zM) : va_D (zA adr) (zws cy adr M) := by
  have key : ∀ (k : Nat) (q : Nat × va_E), (zws cy adr M)[k]? = some q → ∃ i, zIDS[k]? = some i ∧ q.1 = adr i := by
    intro k q h
    simp only [zws, List.getElem?_map] at h
    cases hi : zIDS[k]? with
    | none => rw [hi] at h; cases h
    | some i => rw [hi] at h; cases h; exact ⟨i, rfl, rfl⟩
  refine ⟨fun i j x y hx hy e => ?_, fun k q hk => ?_⟩
  · obtain ⟨a, ha, ea⟩ := key i x hx
    obtain ⟨b, hb, eb⟩ := key j y hy
    have hab : a = b := hinj a (List.mem_of_getElem? ha) b (List.mem_of_getElem? hb) (by rw [← ea, ← eb, e])
    subst hab
    have hl : i < zIDS.length := (List.getElem?_eq_some_iff.mp ha).1
    exact (List.getElem?_inj hl zIDS_nodup).mp (ha.trans hb.symm)
  · obtain ⟨a, ha, ea⟩ := key k q hk
    exact ⟨a, List.mem_of_getElem? ha, ea⟩
theorem zw_obj (cy : Nat → ClassId) (adr : Nat → Nat) (M : zM) {o ci : Nat} (ho : zob o ci) : ∃ q0 : Nat, zIDS[q0]? = some o ∧ (zws cy adr M)[q0]? = some (adr o, .inr (ci, (List.range (zN ci)).map (zfv adr M o))) := by
  obtain ⟨q0, h1, h2⟩ := zw_at cy adr M ho.1
  refine ⟨q0, h1, ?_⟩
  rw [h2, zcell, if_pos ho.2.1, ho.2.2.1]
theorem zfk_lt {ci k x : Nat} (h : zfk ci k = x) (hx : x < 9) : k < zN ci := by
  unfold zfk at h
  by_cases hk : k < zN ci
  · exact hk
  · rw [if_neg hk] at h; omega
theorem zw_fld (adr : Nat → Nat) (M : zM) {o ci k : Nat} (hk : k < zN ci) : ((List.range (zN ci)).map (zfv adr M o))[k]? = some (zfv adr M o k) := by
  rw [List.getElem?_map, List.getElem?_range hk]; rfl
theorem zI_eq (x : Int32) : zI x.toInt = .int x := by simp [zI]
theorem zJ_eq (x : Int64) : zJ x.toInt = .long x := by simp [zJ]
theorem zw_objs (cy : Nat → ClassId) (adr : Nat → Nat) (M : zM) {o ci k q0 : Nat} (v : Int) (ho : zob o ci) (hk : zfk ci k = 0) (hq : zIDS[q0]? = some o) : (zws cy adr M).set q0 (adr o, .inr (ci, ((List.range (zN ci)).map (zfv adr M o)).set k (.int (Int32.ofInt v)))) = zws cy adr (zs M o k v) := by
  have hkl := zfk_lt hk (by omega)
  have e : zcell cy adr (zs M o k v) o = .inr (ci, ((List.range (zN ci)).map (zfv adr M o)).set k (.int (Int32.ofInt v))) := by
    rw [zcell, if_pos ho.2.1, ho.2.2.1]
    congr 2
    apply List.ext_getElem?
    intro j
    rw [List.getElem?_set]
    by_cases hj : k = j
    · subst hj
      rw [zw_fld adr _ hkl]
      simp [hkl, zfv, ho.2.2.1, hk, zs]
    · rw [if_neg hj]
      simp only [List.getElem?_map]
      cases hr : (List.range (zN ci))[j]? with
      | none => rfl
      | some z =>
        have hz : z = j := by
          have := List.getElem?_eq_some_iff.mp hr
          obtain ⟨h1, h2⟩ := this
          simpa using h2.symm
        subst hz
        have : ¬ (z = k) := fun h => hj h.symm
        simp [zfv, zs, this]
  rw [← e]
  refine zws_set cy adr M _ hq (fun i hi => ?_)
  have h2 : (zs M o k v).1 i = M.1 i := by funext b; simp [zs, hi]
  have h3 : (zs M o k v).2 i = M.2 i := rfl
  have h4 : zfv adr (zs M o k v) i = zfv adr M i := by funext j; simp only [zfv, h2]
  simp only [zcell, h2, h3, h4]
theorem zw_ar (cy : Nat → ClassId) (adr : Nat → Nat) (M : zM) {o n : Nat} {ty : FieldType} (ho : zar o ty n) : ∃ q0 : Nat, zIDS[q0]? = some o ∧ (zws cy adr M)[q0]? = some (adr o, zcell cy adr M o) := zw_at cy adr M ho.1
theorem zc_int (cy : Nat → ClassId) (adr : Nat → Nat) (M : zM) {o n : Nat} (ho : zar o .int n) : zcell cy adr M o = .inl (cy 0, n, .inl (M.1 o)) := by
  obtain ⟨-, h1, h2, h3⟩ := ho
  have h3 : zan o = n := h3
  rw [zcell, if_neg h1, h2, h3]; simp
theorem zc_byte (cy : Nat → ClassId) (adr : Nat → Nat) (M : zM) {o n : Nat} (ho : zar o .byte n) : zcell cy adr M o = .inl (cy 1, n, .inl (M.1 o)) := by
  obtain ⟨-, h1, h2, h3⟩ := ho
  have h3 : zan o = n := h3
  rw [zcell, if_neg h1, h2, h3]; simp
theorem zc_short (cy : Nat → ClassId) (adr : Nat → Nat) (M : zM) {o n : Nat} (ho : zar o .short n) : zcell cy adr M o = .inl (cy 2, n, .inl (M.1 o)) := by
  obtain ⟨-, h1, h2, h3⟩ := ho
  have h3 : zan o = n := h3
  rw [zcell, if_neg h1, h2, h3]; simp
theorem zc_bool (cy : Nat → ClassId) (adr : Nat → Nat) (M : zM) {o n : Nat} (ho : zar o .boolean n) : zcell cy adr M o = .inl (cy 3, n, .inl (M.1 o)) := by
  obtain ⟨-, h1, h2, h3⟩ := ho
  have h3 : zan o = n := h3
  rw [zcell, if_neg h1, h2, h3]; simp
theorem zc_long (cy : Nat → ClassId) (adr : Nat → Nat) (M : zM) {o n : Nat} (ho : zar o .long n) : zcell cy adr M o = .inl (cy 4, n, .inr (.inl (M.2 o))) := by
  obtain ⟨-, h1, h2, h3⟩ := ho
  have h3 : zan o = n := h3
  rw [zcell, if_neg h1, h2, h3]; simp
theorem zc_obj (cy : Nat → ClassId) (adr : Nat → Nat) (M : zM) {o n : Nat} (ho : zar o (.object RX6) n) : zcell cy adr M o = .inl (cy 5, n, .inr (.inr (.inr (.inr (fun j => some (adr (640 + 64 * j))))))) := by
  obtain ⟨-, h1, h2, h3⟩ := ho
  have h3 : zan o = n := h3
  rw [zcell, if_neg h1, h2, h3]; simp
theorem zcell_eq (cy : Nat → ClassId) (adr : Nat → Nat) (M M2 : zM) (i : Nat) (h1 : M2.1 i = M.1 i) (h2 : M2.2 i = M.2 i) : zcell cy adr M2 i = zcell cy adr M i := by
  have h4 : zfv adr M2 i = zfv adr M i := by funext j; simp only [zfv, h1]
  simp only [zcell, h1, h2, h4]
theorem zidx {a a1 : Int} {n : Nat} (ha : zw a = a1) (h0 : 0 ≤ a1) (h1 : a1 < (n : Int)) : vp_in (Int32.ofInt a) n ∧ (Int32.ofInt a).toNatClampNeg = a1.toNat := by
  have e : (Int32.ofInt a).toInt = a1 := ha
  refine ⟨vp_in_iff.mpr ⟨by rw [e]; exact h0, by rw [e]; exact h1⟩, ?_⟩
  show (Int32.ofInt a).toInt.toNat = a1.toNat
  rw [e]
/-! locals -/
def zlv (adr : Nat → Nat) : Nat → List (Option Value) → List (Nat × Value)
  | _, [] => []
  | i, none :: l => zlv adr (i + 1) l
  | i, some v :: l => (i, zcv adr v) :: zlv adr (i + 1) l
theorem zl_mem (adr : Nat → Nat) {q : Nat × Value} : ∀ (L : List (Option Value)) (k : Nat), q ∈ zlv adr k L ↔ ∃ (j : Nat) (v : Value), L[j]? = some (some v) ∧ q = (k + j, zcv adr v) := by
  intro L
  induction L with
  | nil => intro k; simp [zlv]
  | cons x L ih =>
    intro k
    cases x with
    | none =>
      rw [zlv, ih]
      constructor
      · rintro ⟨j, v, h, e⟩
        exact ⟨j + 1, v, by simpa using h, by rw [e]; congr 1; omega⟩
      · rintro ⟨j, v, h, e⟩
        cases j with
        | zero => simp at h
        | succ j => exact ⟨j, v, by simpa using h, by rw [e]; congr 1; omega⟩
    | some w =>
      rw [zlv, List.mem_cons, ih]
      constructor
      · rintro (h | ⟨j, v, h, e⟩)
        · exact ⟨0, w, rfl, h⟩
        · exact ⟨j + 1, v, by simpa using h, by rw [e]; congr 1; omega⟩
      · rintro ⟨j, v, h, e⟩
        cases j with
        | zero => left; simp at h; rw [e, h]; rfl
        | succ j => right; exact ⟨j, v, by simpa using h, by rw [e]; congr 1; omega⟩
theorem zl_get {adr : Nat → Nat} {ls : Array Slot} {n : Nat} {L : List (Option Value)} (h : lv_has ls n (zlv adr 0 L)) {i : Nat} {v : Value} (hi : L[i]? = some (some v)) : ls[i]? = some (.val (zcv adr v)) := by
  have := h.2.2 (0 + i, zcv adr v) ((zl_mem adr L 0).mpr ⟨i, v, hi, rfl⟩)
  rw [Nat.zero_add] at this
  exact this
theorem zcat (adr : Nat → Nat) (v : Value) : (zcv adr v).category = v.category := by cases v <;> rfl
theorem zpl_cat {L : List (Option Value)} {j : Nat} {v : Value} (hp : zpl L (j + 1) = true) (hj : L[j]? = some (some v)) : ¬ v.category = 2 := by
  intro hc
  unfold zpl at hp
  dsimp only at hp
  rw [hj] at hp
  cases v <;> first | (simp at hp; done) | (cases hc; done) | (simp [Value.category] at hc; done)
theorem zl_set {adr : Nat → Nat} {ls ls' : Array Slot} {n : Nat} {L : List (Option Value)} {i : Nat} {v : Value} (hi : i < L.length) (hp : zpl L i = true) (h : lv_has ls' n ((i, zcv adr v) :: (zlv adr 0 L).filter (fun q => !(q.1 == i) && !(q.1 + 1 == i && q.2.category == 2)))) : lv_has ls' n (zlv adr 0 (L.set i (some v))) := by
  refine ⟨h.1, h.2.1, fun q hq => ?_⟩
  obtain ⟨j, w, hj, rfl⟩ := (zl_mem adr _ 0).mp hq
  rw [List.getElem?_set] at hj
  by_cases e : i = j
  · subst e
    simp [hi] at hj
    subst hj
    have := h.2.2 (i, zcv adr v) List.mem_cons_self
    simpa using this
  · rw [if_neg e] at hj
    refine h.2.2 _ (List.mem_cons_of_mem _ (List.mem_filter.mpr ⟨(zl_mem adr L 0).mpr ⟨j, w, hj, rfl⟩, ?_⟩))
    have h1 : ¬ (0 + j = i) := by omega
    by_cases h2 : j + 1 = i
    · subst h2
      have := zpl_cat hp hj
      simp [zcat, this]
    · have h3 : ¬ (0 + j + 1 = i) := by omega
      simp [h1, h3]
      omega
theorem zl_set2 {adr : Nat → Nat} {ls ls' : Array Slot} {n : Nat} {L : List (Option Value)} {i : Nat} {v : Value} (hi : i + 1 < L.length) (hp : zpl L i = true) (h : lv_has ls' n ((i, zcv adr v) :: (zlv adr 0 L).filter (fun q => !(q.1 == i) && (!(q.1 == i + 1) && !(q.1 + 1 == i && q.2.category == 2))))) : lv_has ls' n (zlv adr 0 ((L.set i (some v)).set (i + 1) none)) := by
  refine ⟨h.1, h.2.1, fun q hq => ?_⟩
  obtain ⟨j, w, hj, rfl⟩ := (zl_mem adr _ 0).mp hq
  rw [List.getElem?_set] at hj
  by_cases e1 : i + 1 = j
  · subst e1
    simp [hi] at hj
  · rw [if_neg e1, List.getElem?_set] at hj
    by_cases e : i = j
    · subst e
      have : i < L.length := by omega
      simp [this] at hj
      subst hj
      have := h.2.2 (i, zcv adr v) List.mem_cons_self
      simpa using this
    · rw [if_neg e] at hj
      refine h.2.2 _ (List.mem_cons_of_mem _ (List.mem_filter.mpr ⟨(zl_mem adr L 0).mpr ⟨j, w, hj, rfl⟩, ?_⟩))
      have h1 : ¬ (0 + j = i) := by omega
      have h4 : ¬ (0 + j = i + 1) := by omega
      by_cases h2 : j + 1 = i
      · subst h2
        have := zpl_cat hp hj
        simp [zcat, this]
        omega
      · have h3 : ¬ (0 + j + 1 = i) := by omega
        simp [h1, h3, h4]
        omega
theorem zfg_get : ∀ {L L2 : List (Option Value)}, zfg L L2 → L2.length = L.length ∧ ∀ (j : Nat) (v : Value), L2[j]? = some (some v) → L[j]? = some (some v)
  | [], [], _ => ⟨rfl, fun j v h => h⟩
  | a :: as, b :: bs, h => by
    obtain ⟨h1, h2⟩ := h
    obtain ⟨g1, g2⟩ := zfg_get h2
    refine ⟨by simp [g1], fun j v hj => ?_⟩
    cases j with
    | zero =>
      simp at hj
      rcases h1 with h1 | h1
      · rw [h1] at hj; cases hj
      · simp [← h1, hj]
    | succ j => simpa using g2 j v (by simpa using hj)
  | [], _ :: _, h => h.elim
  | _ :: _, [], h => h.elim
theorem zl_fgt {adr : Nat → Nat} {ls : Array Slot} {n : Nat} {L L2 : List (Option Value)} (hg : zfg L L2) (h : lv_has ls n (zlv adr 0 L)) : lv_has ls n (zlv adr 0 L2) := by
  refine ⟨h.1, h.2.1, fun q hq => ?_⟩
  obtain ⟨j, w, hj, rfl⟩ := (zl_mem adr _ 0).mp hq
  exact h.2.2 _ ((zl_mem adr L 0).mpr ⟨j, w, (zfg_get hg).2 j w hj, rfl⟩)
theorem zlv_none (adr : Nat → Nat) : ∀ (n i : Nat), zlv adr i (List.replicate n none) = []
  | 0, _ => rfl
  | n + 1, i => by rw [List.replicate_succ, zlv]; exact zlv_none adr n (i + 1)
theorem zlv_ent (adr : Nat → Nat) (n : Nat) : ∀ (as : List Value) (i : Nat), zlv adr i (zfl as ++ List.replicate n none) = lv_args i (as.map (zcv adr))
  | [], i => by simp [zfl, lv_args, zlv_none]
  | v :: as, i => by
    have ih := zlv_ent adr n as
    by_cases hc : v.category = 2
    · have e : zfl (v :: as) = some v :: none :: zfl as := by simp [zfl, hc]
      rw [e]
      simp only [List.cons_append, zlv, List.map_cons, lv_args, zcat, hc, if_true]
      rw [show i + 1 + 1 = i + 2 from rfl, ih]
    · have e : zfl (v :: as) = some v :: zfl as := by simp [zfl, hc]
      rw [e]
      simp only [List.cons_append, zlv, List.map_cons, lv_args, zcat, hc, if_false]
      rw [ih]
theorem zfl_len (adr : Nat → Nat) (as : List Value) : (lg_sl (as.map (zcv adr))).length = (zfl as).length := by
  induction as with
  | nil => rfl
  | cons v as ih =>
    by_cases hc : v.category = 2
    · have e : zfl (v :: as) = some v :: none :: zfl as := by simp [zfl, hc]
      rw [e]
      have e2 : lg_sl ((v :: as).map (zcv adr)) = .val (zcv adr v) :: .second :: lg_sl (as.map (zcv adr)) := by simp [lg_sl, zcat, hc]
      rw [e2]; simp [ih]
    · have e : zfl (v :: as) = some v :: zfl as := by simp [zfl, hc]
      rw [e]
      have e2 : lg_sl ((v :: as).map (zcv adr)) = .val (zcv adr v) :: lg_sl (as.map (zcv adr)) := by simp [lg_sl, zcat, hc]
      rw [e2]; simp [ih]
