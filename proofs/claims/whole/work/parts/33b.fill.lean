/-! Arrays.fill over one fresh array, with the kit's rows -/
theorem va_D1 {A : Nat → Prop} {a : Nat} {e : va_E} (h : A a) : va_D A [(a, e)] := by
  refine ⟨fun i j x y hx hy _ => ?_, fun k y hk => ?_⟩
  · have h1 := (List.getElem?_eq_some_iff.mp hx).1
    have h2 := (List.getElem?_eq_some_iff.mp hy).1
    simp at h1 h2
    omega
  · have h1 := (List.getElem?_eq_some_iff.mp hk).1
    simp at h1
    subst h1
    cases hk
    exact h
def flF (f : Nat → Int32) (v : Int32) (k : Nat) : Nat → Int32 := fun j => if j < k then v else f j
theorem flF_0 (f : Nat → Int32) (v : Int32) : flF f v 0 = f := by funext j; simp [flF]
theorem flF_s (f : Nat → Int32) (v : Int32) (k : Nat) : upd (flF f v k) k v = flF f v (k + 1) := by
  funext j
  unfold upd flF
  by_cases h : j = k
  · rw [if_pos h, if_pos (by omega)]
  · rw [if_neg h]
    by_cases h2 : j < k
    · rw [if_pos h2, if_pos (by omega)]
    · rw [if_neg h2, if_neg (by omega)]
set_option maxHeartbeats 1000000 in
theorem c_fill (l : Launch) (D : va_G) (q : Nat) (cI : ClassId) (n : Nat) (hn : n ≤ 1000) (f : Nat → Int32) (v : Int32) : Met l yJ7_fill_53178 (zW mJ7_fill_53178) ({ frames := 0, cells := 0, slots := 0, locals := 0 }) (va_Pc [.ref q, .int v] (fun U => va_P D vwCl [(q, .inl (cI, n, .inl f))] U.heap ∧ va_K D vwCl [(cI, .int)] U)) (va_Qv (fun _ : Unit => True) (fun _ t => va_P D vwCl [(q, .inl (cI, n, .inl (flF f v n)))] t.heap) (fun a => a = q)) 0 0 (fun a => a = q) := by
  refine Met.ofW (cc := cJ7_fill_53178) (maxL := 4) (ret := none) (by decide) rfl ?_
  intro p e s m args below meth c s₁ B hml hv
  obtain ⟨rfl, hP, hK⟩ := hv
  have hx := B.exec
  have hb := B.bytes
  have hr := B.returns
  have hlocks := B.notSynchronized
  have hl := lv_entry ([.ref q, .int v]) (n := 4) (Nat.le_of_ble_eq_true rfl)
  rw [lg_entry_eq]
  generalize (lg_sl ([.ref q, .int v]) ++ List.replicate (4 - (lg_sl ([.ref q, .int v])).length) Slot.unset).toArray = ls at hl ⊢
  have hl : lv_has ls 4 [(0, .ref q), (1, .int v)] := hl
  refine lv_iconst (v := 0) hx hb dJ7_fill_53178_0 (by decide) ?_
  refine lv_istore_n (lv' := [(2, .int 0), (0, .ref q), (1, .int v)]) hx hb dJ7_fill_53178_1 rfl hl (by decide) rfl (fun ls hl => ?_)
  refine lv_aload_n hx hb dJ7_fill_53178_2 rfl (lv_at hl 1 rfl) ?_
  refine va_alen hx hb hK hP 0 0 rfl rfl (v := nI n) rfl dJ7_fill_53178_3 ?_
  refine lv_istore_n (lv' := [(3, .int (nI n)), (2, .int 0), (0, .ref q), (1, .int v)]) hx hb dJ7_fill_53178_4 rfl hl (by decide) rfl (fun ls hl => ?_)
  have loop : ∀ (j k : Nat), k + j = n → ∀ (ls : Array Slot) (H : Heap) (locs : List Loc), lv_has ls 4 [(3, .int (nI n)), (2, .int (nI k)), (0, .ref q), (1, .int v)] → va_P D vwCl [(q, .inl (cI, n, .inl (flF f v k)))] H → va_S (fun a => a = q) s.heap H locs → W p l e (headSpec (zW mJ7_fill_53178) ({ frames := 0, cells := 0, slots := 0, locals := 0 })).room s m ([.ref q, .int v] : List Value).toArray below meth c H locs 0 0 (MQ below (va_Qv (fun _ : Unit => True) (fun _ t => va_P D vwCl [(q, .inl (cI, n, .inl (flF f v n)))] t.heap) (fun a => a = q)) ([.ref q, .int v] : List Value).toArray s 0 0 (fun a => a = q)) (F0 m 5 ls []) := by
    intro j
    induction j with
    | zero =>
      intro k hk ls H locs hl hP hS
      have hkn : k = n := by omega
      subst hkn
      refine lv_iload_n hx hb dJ7_fill_53178_5 rfl (lv_at hl 1 rfl) ?_
      refine lv_iload_n hx hb dJ7_fill_53178_6 rfl (lv_at hl 0 rfl) ?_
      refine lv_icmp_ge (tgt := 20) hx hb dJ7_fill_53178_7 (by decide) (fun _ => ?_) (fun h => absurd (nI_le (Nat.le_refl k) (by omega)) h)
      exact W.vret hx hb hr (fun t ht hW => ⟨⟨(), rfl, trivial, by show va_P D vwCl _ t.heap; rw [ht]; exact hP⟩, hS.F ht⟩) hS.2.2 dJ7_fill_53178_20
    | succ j ih =>
      intro k hk ls H locs hl hP hS
      refine lv_iload_n hx hb dJ7_fill_53178_5 rfl (lv_at hl 1 rfl) ?_
      refine lv_iload_n hx hb dJ7_fill_53178_6 rfl (lv_at hl 0 rfl) ?_
      refine lv_icmp_ge (tgt := 20) hx hb dJ7_fill_53178_7 (by decide) (fun h => absurd h (nI_ge (show k < n by omega) (by omega))) (fun _ => ?_)
      refine lv_aload_n hx hb dJ7_fill_53178_10 rfl (lv_at hl 2 rfl) ?_
      refine lv_iload_n hx hb dJ7_fill_53178_11 rfl (lv_at hl 1 rfl) ?_
      refine lv_iload_n hx hb dJ7_fill_53178_12 rfl (lv_at hl 3 rfl) ?_
      refine va_iast hx hb hK hP (va_D1 (A := fun a => a = q) rfl) hS 0 0 rfl rfl (vp_in_nI (show k < n by omega) (by omega)) dJ7_fill_53178_13 (fun H locs hP hD hS => ?_)
      have hP : va_P D vwCl [(q, .inl (cI, n, .inl (flF f v (k + 1))))] H := by
        rw [← flF_s]
        have e : (nI k).toNatClampNeg = k := nI_clamp (by omega)
        rw [e] at hP
        exact hP
      refine lv_iinc (k := 1) (v := nI (k + 1)) (lv' := [(2, .int (nI (k + 1))), (3, .int (nI n)), (0, .ref q), (1, .int v)]) hx hb dJ7_fill_53178_14 hl rfl (by rw [nI_succ]; rfl) (by decide) rfl (fun ls hl => ?_)
      refine lv_goto (tgt := 5) hx hb dJ7_fill_53178_17 (by decide) ?_
      exact ih (k + 1) (by omega) ls H locs (lv_sub hl [1, 0, 2, 3] rfl) hP hS
  exact loop n 0 (by omega) ls s.heap [] hl (by rw [flF_0]; exact hP) va_S.rf
