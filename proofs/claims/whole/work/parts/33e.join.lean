/-! a call that works on one cell in the middle of the world -/
theorem vaP_mem {D : va_G} {cl : List vw_C} {ws : va_W} {H : Heap} : va_P D cl ws H ↔ ∀ q ∈ ws, va_at D cl q H := by
  constructor
  · intro h q hq
    obtain ⟨k, hk⟩ := List.getElem?_of_mem hq
    exact h k q hk
  · intro h k q hk
    exact h q (List.mem_of_getElem? hk)
theorem vaD_iff {A : Nat → Prop} {ws : va_W} : va_D A ws ↔ (ws.map (fun q => q.1)).Nodup ∧ ∀ q ∈ ws, A q.1 := by
  constructor
  · intro h
    refine ⟨?_, fun q hq => ?_⟩
    · rw [List.Nodup, List.pairwise_iff_getElem]
      intro i j hi hj hij e
      rw [List.length_map] at hi hj
      rw [List.getElem_map, List.getElem_map] at e
      have := h.1 i j ws[i] ws[j] (List.getElem?_eq_getElem hi) (List.getElem?_eq_getElem hj) e
      omega
    · obtain ⟨k, hk⟩ := List.getElem?_of_mem hq
      exact h.2 k q hk
  · intro h
    refine ⟨fun i j x y hx hy e => ?_, fun k q hk => h.2 q (List.mem_of_getElem? hk)⟩
    have hl : i < (ws.map (fun q => q.1)).length := by rw [List.length_map]; exact (List.getElem?_eq_some_iff.mp hx).1
    refine (List.getElem?_inj hl h.1).mp ?_
    rw [List.getElem?_map, List.getElem?_map, hx, hy]
    simp [e]
theorem jm_P {D : va_G} {cl : List vw_C} {u v : va_W} {x : Nat × va_E} {H : Heap} (h : va_P D cl (u ++ x :: v) H) : va_P D cl [x] H := by
  rw [vaP_mem] at h ⊢
  intro q hq
  exact h q (by simp at hq ⊢; exact Or.inr (Or.inl hq))
theorem jm_D {A : Nat → Prop} {u v : va_W} {x : Nat × va_E} (h : va_D A (u ++ x :: v)) : va_D (fun _ => True) [x] := va_D1 trivial
theorem jm_F {A0 : Nat → Prop} {u v : va_W} {x : Nat × va_E} {H0 H : Heap} {locs : List Loc} (hD : va_D A0 (u ++ x :: v)) (hS : va_S A0 H0 H locs) (hA : ∀ q, H0.size ≤ q → A0 q) : ∀ q, va_A [x] H.size q → A0 q := by
  intro q h
  rcases h with ⟨k, e, h⟩ | h
  · have hm := List.mem_of_getElem? h
    have : (q, e) = x := by simpa using hm
    have := (vaD_iff.mp hD).2 x (by simp)
    rename_i h2
    rw [← h2] at this
    exact this
  · exact hA q (Nat.le_trans hS.1 h)
theorem jm {A0 : Nat → Prop} {D : va_G} {cl : List vw_C} {u v w1 : va_W} {x : Nat × va_E} {H H1 : Heap} (hP : va_P D cl (u ++ x :: v) H) (hD : va_D A0 (u ++ x :: v)) (hk : ∀ q : Nat, q < H.size → ¬ va_A [x] H.size q → H1[q]? = H[q]?) (hF : ∀ q, va_A [x] H.size q → A0 q) (hP1 : va_P D cl w1 H1) (hD1 : va_D (va_A [x] H.size) w1) : va_P D cl ((u ++ v) ++ w1) H1 ∧ va_D A0 ((u ++ v) ++ w1) := by
  rw [vaD_iff] at hD hD1
  obtain ⟨n1, n2⟩ := hD
  have hsub : ∀ q ∈ u ++ v, q ∈ u ++ x :: v := fun q hq => by
    rcases List.mem_append.mp hq with h | h
    · exact List.mem_append_left _ h
    · exact List.mem_append_right _ (List.mem_cons_of_mem _ h)
  rw [List.map_append, List.map_cons, List.nodup_append, List.nodup_cons] at n1
  obtain ⟨m1, ⟨m2, m3⟩, m4⟩ := n1
  have hne : ∀ q ∈ u ++ v, q.1 < H.size ∧ ¬ va_A [x] H.size q.1 := by
    intro q hq
    have hl := (vaP_mem.mp hP q (hsub q hq)).lt
    refine ⟨hl, fun h => ?_⟩
    rcases h with ⟨k, e, h⟩ | h
    · have hm := List.mem_of_getElem? h
      have hx : (q.1, e) = x := by simpa using hm
      rcases List.mem_append.mp hq with h2 | h2
      · exact m4 q.1 (List.mem_map_of_mem h2) x.1 List.mem_cons_self (by rw [← hx])
      · have e1 : x.1 = q.1 := by rw [← hx]
        exact m2 (by rw [e1]; exact List.mem_map_of_mem h2)
    · omega
  refine ⟨(vaP_mem.mpr (fun q hq => ?_)), vaD_iff.mpr ⟨?_, fun q hq => ?_⟩⟩
  · rcases List.mem_append.mp hq with h | h
    · obtain ⟨g1, g2⟩ := hne q h
      exact (vaP_mem.mp hP q (hsub q h)).kept (hk q.1 g1 g2)
    · exact vaP_mem.mp hP1 q h
  · rw [List.map_append, List.nodup_append, List.map_append, List.nodup_append]
    refine ⟨⟨m1, m3, fun a ha b hb => m4 a ha b (List.mem_cons_of_mem _ hb)⟩, hD1.1, fun a ha b hb => ?_⟩
    obtain ⟨p, hp, rfl⟩ := List.mem_map.mp hb
    rw [← List.map_append] at ha
    obtain ⟨q, hq, rfl⟩ := List.mem_map.mp ha
    intro e
    apply (hne q hq).2
    rw [e]
    exact hD1.2 p hp
  · rcases List.mem_append.mp hq with h | h
    · exact n2 q (hsub q h)
    · exact hF q.1 (hD1.2 q h)
