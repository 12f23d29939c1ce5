/-! the reference's constructor -/
theorem pl_get {a x : Nat × va_E} {wr : va_W} : (a :: (wr ++ [x]))[wr.length + 1]? = some x := by simp
theorem pl_set {a x y : Nat × va_E} {wr : va_W} : (a :: (wr ++ [x])).set (wr.length + 1) y = a :: (wr ++ [y]) := by simp [List.set_append]
def at_X8_init (D : va_G) (A : Nat → Prop) (h0 : Nat) (_ : Unit) (t : State) : Prop := ∃ (cI : ClassId) (q1 : Nat) (q2 : Nat) (q3 : Nat) (q4 : Nat) (q5 : Nat) (q6 : Nat) (q7 : Nat) (q8 : Nat) (q9 : Nat) (q10 : Nat) (q11 : Nat) (q12 : Nat) (cB : ClassId) (q13 : Nat) (q14 : Nat) (q15 : Nat) (q16 : Nat) (cS : ClassId) (q17 : Nat) (q18 : Nat) (q19 : Nat) (q20 : Nat) (q21 : Nat) (cZ : ClassId) (q22 : Nat) (q23 : Nat) (q24 : Nat) (q25 : Nat) (q26 : Nat) (q27 : Nat) (q28 : Nat) (q29 : Nat) (cJ : ClassId) (q30 : Nat) (q31 : Nat), va_P D vwCl [(h0, .inr (8, [.int 0, .int 0, .ref q1, .ref q2, .ref q3, .int 0, .ref q4, .ref q5, .ref q6, .int 0, .ref q7, .ref q8, .int 0, .int 0, .ref q9, .ref q10, .ref q11, .ref q12, .ref q13, .int 0, .int 0, .int 0, .int 0, .int 0, .ref q14, .ref q15, .ref q16, .ref q17, .ref q18, .ref q19, .ref q20, .int 0, .ref q21, .ref q22, .ref q23, .ref q24, .int 0, .int 0, .ref q25, .int 0, .ref q26, .int 0, .ref q27, .ref q28, .ref q29, .ref q30, .ref q31])), (q1, .inl (cI, 12, .inl (fun _ => 0))), (q2, .inl (cI, 12, .inl (fun _ => 0))), (q3, .inl (cI, 12, .inl (flF (fun _ => 0) (-1) 12))), (q4, .inl (cI, 16, .inl (fun _ => 0))), (q5, .inl (cI, 16, .inl (fun _ => 0))), (q6, .inl (cI, 16, .inl (fun _ => 0))), (q7, .inl (cI, 12, .inl (flF (fun _ => 0) 1 12))), (q8, .inl (cI, 12, .inl (fun _ => 0))), (q9, .inl (cI, 40, .inl (fun _ => 0))), (q10, .inl (cI, 40, .inl (fun _ => 0))), (q11, .inl (cI, 40, .inl (fun _ => 0))), (q12, .inl (cI, 40, .inl (fun _ => 0))), (q13, .inl (cB, 120, .inl (fun _ => 0))), (q14, .inl (cB, 260, .inl (fun _ => 0))), (q15, .inl (cI, 260, .inl (fun _ => 0))), (q16, .inl (cI, 2, .inl (fun _ => 0))), (q17, .inl (cS, 122, .inl (fun _ => 0))), (q18, .inl (cS, 122, .inl (fun _ => 0))), (q19, .inl (cI, 6, .inl (fun _ => 0))), (q20, .inl (cI, 130, .inl (fun _ => 0))), (q21, .inl (cI, 12, .inl (fun _ => 0))), (q22, .inl (cZ, 16, .inl (fun _ => 0))), (q23, .inl (cI, 12, .inl (fun _ => 0))), (q24, .inl (cI, 12, .inl (fun _ => 0))), (q25, .inl (cI, 12, .inl (fun _ => 0))), (q26, .inl (cI, 50, .inl (fun _ => 0))), (q27, .inl (cI, 24, .inl (fun _ => 0))), (q28, .inl (cI, 6, .inl (flF (fun _ => 0) (-1) 6))), (q29, .inl (cI, 6, .inl (fun _ => 0))), (q30, .inl (cJ, 360, .inr (.inl (fun _ => 0)))), (q31, .inl (cJ, 60, .inr (.inl (fun _ => 0))))] t.heap ∧ va_K D vwCl [(cI, .int), (cB, .byte), (cS, .short), (cZ, .boolean), (cJ, .long)] t ∧ va_D A [(h0, .inr (8, [.int 0, .int 0, .ref q1, .ref q2, .ref q3, .int 0, .ref q4, .ref q5, .ref q6, .int 0, .ref q7, .ref q8, .int 0, .int 0, .ref q9, .ref q10, .ref q11, .ref q12, .ref q13, .int 0, .int 0, .int 0, .int 0, .int 0, .ref q14, .ref q15, .ref q16, .ref q17, .ref q18, .ref q19, .ref q20, .int 0, .ref q21, .ref q22, .ref q23, .ref q24, .int 0, .int 0, .ref q25, .int 0, .ref q26, .int 0, .ref q27, .ref q28, .ref q29, .ref q30, .ref q31])), (q1, .inl (cI, 12, .inl (fun _ => 0))), (q2, .inl (cI, 12, .inl (fun _ => 0))), (q3, .inl (cI, 12, .inl (flF (fun _ => 0) (-1) 12))), (q4, .inl (cI, 16, .inl (fun _ => 0))), (q5, .inl (cI, 16, .inl (fun _ => 0))), (q6, .inl (cI, 16, .inl (fun _ => 0))), (q7, .inl (cI, 12, .inl (flF (fun _ => 0) 1 12))), (q8, .inl (cI, 12, .inl (fun _ => 0))), (q9, .inl (cI, 40, .inl (fun _ => 0))), (q10, .inl (cI, 40, .inl (fun _ => 0))), (q11, .inl (cI, 40, .inl (fun _ => 0))), (q12, .inl (cI, 40, .inl (fun _ => 0))), (q13, .inl (cB, 120, .inl (fun _ => 0))), (q14, .inl (cB, 260, .inl (fun _ => 0))), (q15, .inl (cI, 260, .inl (fun _ => 0))), (q16, .inl (cI, 2, .inl (fun _ => 0))), (q17, .inl (cS, 122, .inl (fun _ => 0))), (q18, .inl (cS, 122, .inl (fun _ => 0))), (q19, .inl (cI, 6, .inl (fun _ => 0))), (q20, .inl (cI, 130, .inl (fun _ => 0))), (q21, .inl (cI, 12, .inl (fun _ => 0))), (q22, .inl (cZ, 16, .inl (fun _ => 0))), (q23, .inl (cI, 12, .inl (fun _ => 0))), (q24, .inl (cI, 12, .inl (fun _ => 0))), (q25, .inl (cI, 12, .inl (fun _ => 0))), (q26, .inl (cI, 50, .inl (fun _ => 0))), (q27, .inl (cI, 24, .inl (fun _ => 0))), (q28, .inl (cI, 6, .inl (flF (fun _ => 0) (-1) 6))), (q29, .inl (cI, 6, .inl (fun _ => 0))), (q30, .inl (cJ, 360, .inr (.inl (fun _ => 0)))), (q31, .inl (cJ, 60, .inr (.inl (fun _ => 0))))]
set_option maxHeartbeats 4000000 in
set_option maxRecDepth 100000 in
theorem c_X8_init (l : Launch) (D : va_G) (h0 sz : Nat) : Met l yX8_init (Cond.code yX8_init cX8_init 1 none :: zTB) ({ frames := 2, cells := 31, slots := 1860, locals := 200 }) (va_Pc [.ref h0] (fun U => U.heap.size = sz ∧ va_P D vwCl [(h0, .inr (8, [.int 0, .int 0, .null, .null, .null, .int 0, .null, .null, .null, .int 0, .null, .null, .int 0, .int 0, .null, .null, .null, .null, .null, .int 0, .int 0, .int 0, .int 0, .int 0, .null, .null, .null, .null, .null, .null, .null, .int 0, .null, .null, .null, .null, .int 0, .int 0, .null, .int 0, .null, .int 0, .null, .null, .null, .null, .null]))] U.heap ∧ va_K D vwCl [] U ∧ va_D (fun _ => True) [(h0, .inr (8, [.int 0, .int 0, .null, .null, .null, .int 0, .null, .null, .null, .int 0, .null, .null, .int 0, .int 0, .null, .null, .null, .null, .null, .int 0, .int 0, .int 0, .int 0, .int 0, .null, .null, .null, .null, .null, .null, .null, .int 0, .null, .null, .null, .null, .int 0, .int 0, .null, .int 0, .null, .int 0, .null, .null, .null, .null, .null]))])) (va_Qv (fun _ : Unit => True) (at_X8_init D (va_A [(h0, .inr (8, [.int 0, .int 0, .null, .null, .null, .int 0, .null, .null, .null, .int 0, .null, .null, .int 0, .int 0, .null, .null, .null, .null, .null, .int 0, .int 0, .int 0, .int 0, .int 0, .null, .null, .null, .null, .null, .null, .null, .int 0, .null, .null, .null, .null, .int 0, .int 0, .null, .int 0, .null, .int 0, .null, .null, .null, .null, .null]))] sz) h0) (va_A [(h0, .inr (8, [.int 0, .int 0, .null, .null, .null, .int 0, .null, .null, .null, .int 0, .null, .null, .int 0, .int 0, .null, .null, .null, .null, .null, .int 0, .int 0, .int 0, .int 0, .int 0, .null, .null, .null, .null, .null, .null, .null, .int 0, .null, .null, .null, .null, .int 0, .int 0, .null, .int 0, .null, .int 0, .null, .null, .null, .null, .null]))] sz)) 31 1860 (va_A [(h0, .inr (8, [.int 0, .int 0, .null, .null, .null, .int 0, .null, .null, .null, .int 0, .null, .null, .int 0, .int 0, .null, .null, .null, .null, .null, .int 0, .int 0, .int 0, .int 0, .int 0, .null, .null, .null, .null, .null, .null, .null, .int 0, .null, .null, .null, .null, .int 0, .int 0, .null, .int 0, .null, .int 0, .null, .null, .null, .null, .null]))] sz) := by
  refine Met.ofW (cc := cX8_init) (maxL := 1) (ret := none) (by decide) rfl ?_
  intro p e s m args below meth c s₁ B hml hv
  obtain ⟨rfl, hsz, hP, hK, hD0⟩ := hv
  have hx := B.exec
  have hb := B.bytes
  have hr := B.returns
  have hts0 := atoms_spec (ws := Cond.code yX8_init cX8_init 1 none :: zTB) B.pre
  have hts : ∀ w ∈ zTB, w.before [.ref h0].toArray s = true := fun w hw => hts0 w (List.mem_cons_of_mem _ hw)
  have hown : s.vm.findClass RX8 = some m.cls := findClass_of_methodNamed B.named
  have hlocks := B.notSynchronized
  have hin : meth.name = "<init>" := (name_of_methodNamed B.named B.method).1
  subst hsz
  have hD := hD0.self (sz := s.heap.size)
  generalize hAe : va_A [(h0, .inr (8, [.int 0, .int 0, .null, .null, .null, .int 0, .null, .null, .null, .int 0, .null, .null, .int 0, .int 0, .null, .null, .null, .null, .null, .int 0, .int 0, .int 0, .int 0, .int 0, .null, .null, .null, .null, .null, .null, .null, .int 0, .null, .null, .null, .null, .int 0, .int 0, .null, .int 0, .null, .int 0, .null, .null, .null, .null, .null]))] s.heap.size = A at hD ⊢
  have hA : ∀ q : Nat, s.heap.size ≤ q → A q := fun q h => by rw [← hAe]; exact Or.inr h
  have hS : va_S A s.heap s.heap [] := va_S.rf
  have hl := lv_entry ([.ref h0]) (n := 1) (Nat.le_of_ble_eq_true rfl)
  rw [lg_entry_eq]
  generalize (lg_sl ([.ref h0]) ++ List.replicate (1 - (lg_sl ([.ref h0])).length) Slot.unset).toArray = ls at hl ⊢
  have hl : lv_has ls 1 [(0, .ref h0)] := hl
  obtain ⟨fs0, ef0⟩ : ∃ z, z = ([.int 0, .int 0, .null, .null, .null, .int 0, .null, .null, .null, .int 0, .null, .null, .int 0, .int 0, .null, .null, .null, .null, .null, .int 0, .int 0, .int 0, .int 0, .int 0, .null, .null, .null, .null, .null, .null, .null, .int 0, .null, .null, .null, .null, .int 0, .int 0, .null, .int 0, .null, .int 0, .null, .null, .null, .null, .null] : List Value) := ⟨_, rfl⟩
  have hfs : fs0.length = 47 := by rw [ef0]; rfl
  rw [← ef0] at hP hD
  obtain ⟨wr0, ew0⟩ : ∃ z, z = ([] : va_W) := ⟨_, rfl⟩
  rw [← ew0] at hP hD
  refine lv_aload_n hx hb dX8_init_0 rfl (lv_at hl 0 rfl) ?_
  refine W.objInit hx hb hown (hts _ oi_8) (hts _ oi_ins) (hts _ oi_code) rfl (by rw [hml]; exact hl.1) rfl dX8_init_1 (Nat.le_of_ble_eq_true rfl) (Nat.le_of_ble_eq_true rfl) ?_
  refine W.eq (g2 := F0 m 4 ls []) rfl ?_
  refine lv_aload_n hx hb dX8_init_4 rfl (lv_at hl 0 rfl) ?_
  refine lv_bipush (v := 12) hx hb dX8_init_5 (by decide) ?_
  refine va_newa (D := D) (atype := .int) (ty := .int) (N' := 12) (a0 := (12, .inl (fun _ => 0))) hx hb (hts _ ac_I) rfl hK hP hD hS hA (fun _ => rfl) (by decide) (by decide) (by decide) (Nat.le_of_ble_eq_true rfl) (Nat.le_of_ble_eq_true rfl) dX8_init_7 (fun q1 cI H hK hP hD hS => ?_)
  have hK : va_K D vwCl [(cI, .int)] s := hK.sub [0] rfl
  have hP : va_P D vwCl ((h0, .inr (8, fs0)) :: (wr0 ++ [(q1, .inl (cI, 12, .inl (fun _ => 0)))])) H := hP
  have hD : va_D A ((h0, .inr (8, fs0)) :: (wr0 ++ [(q1, .inl (cI, 12, .inl (fun _ => 0)))])) := hD
  refine va_putF (D := D) (ci := 8) (v := .ref q1) (ty := .array .int) (C := RX8) (T := TX8) (N := 47) hx hb hts (zlayi 8 (by decide)) tyX8 tyX8_ok nmX8 hown hK hP hD hS 0 rfl rfl 2 (by decide) (hts _ f8_7) (fun _ h9 => h9) rfl hin rfl (by decide +kernel) rfl rfl (by rw [hfs]; decide) dX8_init_9 (fun H locs hP hD hS => ?_)
  have hP : va_P D vwCl ((h0, .inr (8, fs0.set 2 (.ref q1))) :: (wr0 ++ [(q1, .inl (cI, 12, .inl (fun _ => 0)))])) H := hP
  have hD : va_D A ((h0, .inr (8, fs0.set 2 (.ref q1))) :: (wr0 ++ [(q1, .inl (cI, 12, .inl (fun _ => 0)))])) := hD
  obtain ⟨fs1, ef1⟩ : ∃ z, z = fs0.set 2 (.ref q1) := ⟨_, rfl⟩
  have hfs : fs1.length = 47 := by rw [ef1, List.length_set]; exact hfs
  obtain ⟨wr1, ew1⟩ : ∃ z : va_W, z = wr0 ++ [(q1, .inl (cI, 12, .inl (fun _ => 0)))] := ⟨_, rfl⟩
  rw [← ef1, ← ew1] at hP hD
  rw [ef0] at ef1
  have ef1 : fs1 = [.int 0, .int 0, .ref q1, .null, .null, .int 0, .null, .null, .null, .int 0, .null, .null, .int 0, .int 0, .null, .null, .null, .null, .null, .int 0, .int 0, .int 0, .int 0, .int 0, .null, .null, .null, .null, .null, .null, .null, .int 0, .null, .null, .null, .null, .int 0, .int 0, .null, .int 0, .null, .int 0, .null, .null, .null, .null, .null] := ef1
  rw [ew0] at ew1
  have ew1 : wr1 = [(q1, .inl (cI, 12, .inl (fun _ => 0)))] := ew1
  clear ef0 ew0
  refine lv_aload_n hx hb dX8_init_12 rfl (lv_at hl 0 rfl) ?_
  refine lv_bipush (v := 12) hx hb dX8_init_13 (by decide) ?_
  refine va_newa (D := D) (atype := .int) (ty := .int) (N' := 12) (a0 := (12, .inl (fun _ => 0))) hx hb (hts _ ac_I) rfl hK hP hD hS hA (fun _ => rfl) (by decide) (by decide) (by decide) (Nat.le_of_ble_eq_true rfl) (Nat.le_of_ble_eq_true rfl) dX8_init_15 (fun q2 cA H hK hP hD hS => ?_)
  obtain rfl : cI = cA := ka_uq (ty := .int) rfl (hK.2 0 _ rfl).2 (hK.2 1 _ rfl).2
  have hK : va_K D vwCl [(cI, .int)] s := hK.sub [0] rfl
  have hP : va_P D vwCl ((h0, .inr (8, fs1)) :: (wr1 ++ [(q2, .inl (cI, 12, .inl (fun _ => 0)))])) H := hP
  have hD : va_D A ((h0, .inr (8, fs1)) :: (wr1 ++ [(q2, .inl (cI, 12, .inl (fun _ => 0)))])) := hD
  refine va_putF (D := D) (ci := 8) (v := .ref q2) (ty := .array .int) (C := RX8) (T := TX8) (N := 47) hx hb hts (zlayi 8 (by decide)) tyX8 tyX8_ok nmX8 hown hK hP hD hS 0 rfl rfl 3 (by decide) (hts _ f8_13) (fun _ h9 => h9) rfl hin rfl (by decide +kernel) rfl rfl (by rw [hfs]; decide) dX8_init_17 (fun H locs hP hD hS => ?_)
  have hP : va_P D vwCl ((h0, .inr (8, fs1.set 3 (.ref q2))) :: (wr1 ++ [(q2, .inl (cI, 12, .inl (fun _ => 0)))])) H := hP
  have hD : va_D A ((h0, .inr (8, fs1.set 3 (.ref q2))) :: (wr1 ++ [(q2, .inl (cI, 12, .inl (fun _ => 0)))])) := hD
  obtain ⟨fs2, ef2⟩ : ∃ z, z = fs1.set 3 (.ref q2) := ⟨_, rfl⟩
  have hfs : fs2.length = 47 := by rw [ef2, List.length_set]; exact hfs
  obtain ⟨wr2, ew2⟩ : ∃ z : va_W, z = wr1 ++ [(q2, .inl (cI, 12, .inl (fun _ => 0)))] := ⟨_, rfl⟩
  rw [← ef2, ← ew2] at hP hD
  rw [ef1] at ef2
  have ef2 : fs2 = [.int 0, .int 0, .ref q1, .ref q2, .null, .int 0, .null, .null, .null, .int 0, .null, .null, .int 0, .int 0, .null, .null, .null, .null, .null, .int 0, .int 0, .int 0, .int 0, .int 0, .null, .null, .null, .null, .null, .null, .null, .int 0, .null, .null, .null, .null, .int 0, .int 0, .null, .int 0, .null, .int 0, .null, .null, .null, .null, .null] := ef2
  rw [ew1] at ew2
  have ew2 : wr2 = [(q1, .inl (cI, 12, .inl (fun _ => 0))), (q2, .inl (cI, 12, .inl (fun _ => 0)))] := ew2
  clear ef1 ew1
  refine lv_aload_n hx hb dX8_init_20 rfl (lv_at hl 0 rfl) ?_
  refine lv_bipush (v := 12) hx hb dX8_init_21 (by decide) ?_
  refine va_newa (D := D) (atype := .int) (ty := .int) (N' := 12) (a0 := (12, .inl (fun _ => 0))) hx hb (hts _ ac_I) rfl hK hP hD hS hA (fun _ => rfl) (by decide) (by decide) (by decide) (Nat.le_of_ble_eq_true rfl) (Nat.le_of_ble_eq_true rfl) dX8_init_23 (fun q3 cA H hK hP hD hS => ?_)
  obtain rfl : cI = cA := ka_uq (ty := .int) rfl (hK.2 0 _ rfl).2 (hK.2 1 _ rfl).2
  have hK : va_K D vwCl [(cI, .int)] s := hK.sub [0] rfl
  have hP : va_P D vwCl ((h0, .inr (8, fs2)) :: (wr2 ++ [(q3, .inl (cI, 12, .inl (fun _ => 0)))])) H := hP
  have hD : va_D A ((h0, .inr (8, fs2)) :: (wr2 ++ [(q3, .inl (cI, 12, .inl (fun _ => 0)))])) := hD
  refine lv_dup hx hb dX8_init_25 rfl ?_
  refine lv_iconst (v := 0) hx hb dX8_init_26 (by decide) ?_
  refine lv_iconst (v := (-1)) hx hb dX8_init_27 (by decide) ?_
  rw [← flF_0 (fun _ => 0) (-1)] at hP hD
  refine va_iast hx hb hK hP hD hS (wr2.length + 1) 0 pl_get rfl (show vp_in (nI 0) 12 from vp_in_nI (by decide) (by decide)) dX8_init_28 (fun H locs hP hD hS => ?_)
  rw [pl_set, show (0 : Int32).toNatClampNeg = 0 from rfl, flF_s] at hP hD
  have hP : va_P D vwCl ((h0, .inr (8, fs2)) :: (wr2 ++ [(q3, .inl (cI, 12, .inl (flF (fun _ => 0) (-1) 1)))])) H := hP
  have hD : va_D A ((h0, .inr (8, fs2)) :: (wr2 ++ [(q3, .inl (cI, 12, .inl (flF (fun _ => 0) (-1) 1)))])) := hD
  refine lv_dup hx hb dX8_init_29 rfl ?_
  refine lv_iconst (v := 1) hx hb dX8_init_30 (by decide) ?_
  refine lv_iconst (v := (-1)) hx hb dX8_init_31 (by decide) ?_
  refine va_iast hx hb hK hP hD hS (wr2.length + 1) 0 pl_get rfl (show vp_in (nI 1) 12 from vp_in_nI (by decide) (by decide)) dX8_init_32 (fun H locs hP hD hS => ?_)
  rw [pl_set, show (1 : Int32).toNatClampNeg = 1 from rfl, flF_s] at hP hD
  have hP : va_P D vwCl ((h0, .inr (8, fs2)) :: (wr2 ++ [(q3, .inl (cI, 12, .inl (flF (fun _ => 0) (-1) 2)))])) H := hP
  have hD : va_D A ((h0, .inr (8, fs2)) :: (wr2 ++ [(q3, .inl (cI, 12, .inl (flF (fun _ => 0) (-1) 2)))])) := hD
  refine lv_dup hx hb dX8_init_33 rfl ?_
  refine lv_iconst (v := 2) hx hb dX8_init_34 (by decide) ?_
  refine lv_iconst (v := (-1)) hx hb dX8_init_35 (by decide) ?_
  refine va_iast hx hb hK hP hD hS (wr2.length + 1) 0 pl_get rfl (show vp_in (nI 2) 12 from vp_in_nI (by decide) (by decide)) dX8_init_36 (fun H locs hP hD hS => ?_)
  rw [pl_set, show (2 : Int32).toNatClampNeg = 2 from rfl, flF_s] at hP hD
  have hP : va_P D vwCl ((h0, .inr (8, fs2)) :: (wr2 ++ [(q3, .inl (cI, 12, .inl (flF (fun _ => 0) (-1) 3)))])) H := hP
  have hD : va_D A ((h0, .inr (8, fs2)) :: (wr2 ++ [(q3, .inl (cI, 12, .inl (flF (fun _ => 0) (-1) 3)))])) := hD
  refine lv_dup hx hb dX8_init_37 rfl ?_
  refine lv_iconst (v := 3) hx hb dX8_init_38 (by decide) ?_
  refine lv_iconst (v := (-1)) hx hb dX8_init_39 (by decide) ?_
  refine va_iast hx hb hK hP hD hS (wr2.length + 1) 0 pl_get rfl (show vp_in (nI 3) 12 from vp_in_nI (by decide) (by decide)) dX8_init_40 (fun H locs hP hD hS => ?_)
  rw [pl_set, show (3 : Int32).toNatClampNeg = 3 from rfl, flF_s] at hP hD
  have hP : va_P D vwCl ((h0, .inr (8, fs2)) :: (wr2 ++ [(q3, .inl (cI, 12, .inl (flF (fun _ => 0) (-1) 4)))])) H := hP
  have hD : va_D A ((h0, .inr (8, fs2)) :: (wr2 ++ [(q3, .inl (cI, 12, .inl (flF (fun _ => 0) (-1) 4)))])) := hD
  refine lv_dup hx hb dX8_init_41 rfl ?_
  refine lv_iconst (v := 4) hx hb dX8_init_42 (by decide) ?_
  refine lv_iconst (v := (-1)) hx hb dX8_init_43 (by decide) ?_
  refine va_iast hx hb hK hP hD hS (wr2.length + 1) 0 pl_get rfl (show vp_in (nI 4) 12 from vp_in_nI (by decide) (by decide)) dX8_init_44 (fun H locs hP hD hS => ?_)
  rw [pl_set, show (4 : Int32).toNatClampNeg = 4 from rfl, flF_s] at hP hD
  have hP : va_P D vwCl ((h0, .inr (8, fs2)) :: (wr2 ++ [(q3, .inl (cI, 12, .inl (flF (fun _ => 0) (-1) 5)))])) H := hP
  have hD : va_D A ((h0, .inr (8, fs2)) :: (wr2 ++ [(q3, .inl (cI, 12, .inl (flF (fun _ => 0) (-1) 5)))])) := hD
  refine lv_dup hx hb dX8_init_45 rfl ?_
  refine lv_iconst (v := 5) hx hb dX8_init_46 (by decide) ?_
  refine lv_iconst (v := (-1)) hx hb dX8_init_47 (by decide) ?_
  refine va_iast hx hb hK hP hD hS (wr2.length + 1) 0 pl_get rfl (show vp_in (nI 5) 12 from vp_in_nI (by decide) (by decide)) dX8_init_48 (fun H locs hP hD hS => ?_)
  rw [pl_set, show (5 : Int32).toNatClampNeg = 5 from rfl, flF_s] at hP hD
  have hP : va_P D vwCl ((h0, .inr (8, fs2)) :: (wr2 ++ [(q3, .inl (cI, 12, .inl (flF (fun _ => 0) (-1) 6)))])) H := hP
  have hD : va_D A ((h0, .inr (8, fs2)) :: (wr2 ++ [(q3, .inl (cI, 12, .inl (flF (fun _ => 0) (-1) 6)))])) := hD
  refine lv_dup hx hb dX8_init_49 rfl ?_
  refine lv_bipush (v := 6) hx hb dX8_init_50 (by decide) ?_
  refine lv_iconst (v := (-1)) hx hb dX8_init_52 (by decide) ?_
  refine va_iast hx hb hK hP hD hS (wr2.length + 1) 0 pl_get rfl (show vp_in (nI 6) 12 from vp_in_nI (by decide) (by decide)) dX8_init_53 (fun H locs hP hD hS => ?_)
  rw [pl_set, show (6 : Int32).toNatClampNeg = 6 from rfl, flF_s] at hP hD
  have hP : va_P D vwCl ((h0, .inr (8, fs2)) :: (wr2 ++ [(q3, .inl (cI, 12, .inl (flF (fun _ => 0) (-1) 7)))])) H := hP
  have hD : va_D A ((h0, .inr (8, fs2)) :: (wr2 ++ [(q3, .inl (cI, 12, .inl (flF (fun _ => 0) (-1) 7)))])) := hD
  refine lv_dup hx hb dX8_init_54 rfl ?_
  refine lv_bipush (v := 7) hx hb dX8_init_55 (by decide) ?_
  refine lv_iconst (v := (-1)) hx hb dX8_init_57 (by decide) ?_
  refine va_iast hx hb hK hP hD hS (wr2.length + 1) 0 pl_get rfl (show vp_in (nI 7) 12 from vp_in_nI (by decide) (by decide)) dX8_init_58 (fun H locs hP hD hS => ?_)
  rw [pl_set, show (7 : Int32).toNatClampNeg = 7 from rfl, flF_s] at hP hD
  have hP : va_P D vwCl ((h0, .inr (8, fs2)) :: (wr2 ++ [(q3, .inl (cI, 12, .inl (flF (fun _ => 0) (-1) 8)))])) H := hP
  have hD : va_D A ((h0, .inr (8, fs2)) :: (wr2 ++ [(q3, .inl (cI, 12, .inl (flF (fun _ => 0) (-1) 8)))])) := hD
  refine lv_dup hx hb dX8_init_59 rfl ?_
  refine lv_bipush (v := 8) hx hb dX8_init_60 (by decide) ?_
  refine lv_iconst (v := (-1)) hx hb dX8_init_62 (by decide) ?_
  refine va_iast hx hb hK hP hD hS (wr2.length + 1) 0 pl_get rfl (show vp_in (nI 8) 12 from vp_in_nI (by decide) (by decide)) dX8_init_63 (fun H locs hP hD hS => ?_)
  rw [pl_set, show (8 : Int32).toNatClampNeg = 8 from rfl, flF_s] at hP hD
  have hP : va_P D vwCl ((h0, .inr (8, fs2)) :: (wr2 ++ [(q3, .inl (cI, 12, .inl (flF (fun _ => 0) (-1) 9)))])) H := hP
  have hD : va_D A ((h0, .inr (8, fs2)) :: (wr2 ++ [(q3, .inl (cI, 12, .inl (flF (fun _ => 0) (-1) 9)))])) := hD
  refine lv_dup hx hb dX8_init_64 rfl ?_
  refine lv_bipush (v := 9) hx hb dX8_init_65 (by decide) ?_
  refine lv_iconst (v := (-1)) hx hb dX8_init_67 (by decide) ?_
  refine va_iast hx hb hK hP hD hS (wr2.length + 1) 0 pl_get rfl (show vp_in (nI 9) 12 from vp_in_nI (by decide) (by decide)) dX8_init_68 (fun H locs hP hD hS => ?_)
  rw [pl_set, show (9 : Int32).toNatClampNeg = 9 from rfl, flF_s] at hP hD
  have hP : va_P D vwCl ((h0, .inr (8, fs2)) :: (wr2 ++ [(q3, .inl (cI, 12, .inl (flF (fun _ => 0) (-1) 10)))])) H := hP
  have hD : va_D A ((h0, .inr (8, fs2)) :: (wr2 ++ [(q3, .inl (cI, 12, .inl (flF (fun _ => 0) (-1) 10)))])) := hD
  refine lv_dup hx hb dX8_init_69 rfl ?_
  refine lv_bipush (v := 10) hx hb dX8_init_70 (by decide) ?_
  refine lv_iconst (v := (-1)) hx hb dX8_init_72 (by decide) ?_
  refine va_iast hx hb hK hP hD hS (wr2.length + 1) 0 pl_get rfl (show vp_in (nI 10) 12 from vp_in_nI (by decide) (by decide)) dX8_init_73 (fun H locs hP hD hS => ?_)
  rw [pl_set, show (10 : Int32).toNatClampNeg = 10 from rfl, flF_s] at hP hD
  have hP : va_P D vwCl ((h0, .inr (8, fs2)) :: (wr2 ++ [(q3, .inl (cI, 12, .inl (flF (fun _ => 0) (-1) 11)))])) H := hP
  have hD : va_D A ((h0, .inr (8, fs2)) :: (wr2 ++ [(q3, .inl (cI, 12, .inl (flF (fun _ => 0) (-1) 11)))])) := hD
  refine lv_dup hx hb dX8_init_74 rfl ?_
  refine lv_bipush (v := 11) hx hb dX8_init_75 (by decide) ?_
  refine lv_iconst (v := (-1)) hx hb dX8_init_77 (by decide) ?_
  refine va_iast hx hb hK hP hD hS (wr2.length + 1) 0 pl_get rfl (show vp_in (nI 11) 12 from vp_in_nI (by decide) (by decide)) dX8_init_78 (fun H locs hP hD hS => ?_)
  rw [pl_set, show (11 : Int32).toNatClampNeg = 11 from rfl, flF_s] at hP hD
  have hP : va_P D vwCl ((h0, .inr (8, fs2)) :: (wr2 ++ [(q3, .inl (cI, 12, .inl (flF (fun _ => 0) (-1) 12)))])) H := hP
  have hD : va_D A ((h0, .inr (8, fs2)) :: (wr2 ++ [(q3, .inl (cI, 12, .inl (flF (fun _ => 0) (-1) 12)))])) := hD
  refine va_putF (D := D) (ci := 8) (v := .ref q3) (ty := .array .int) (C := RX8) (T := TX8) (N := 47) hx hb hts (zlayi 8 (by decide)) tyX8 tyX8_ok nmX8 hown hK hP hD hS 0 rfl rfl 4 (by decide) (hts _ f8_16) (fun _ h9 => h9) rfl hin rfl (by decide +kernel) rfl rfl (by rw [hfs]; decide) dX8_init_79 (fun H locs hP hD hS => ?_)
  have hP : va_P D vwCl ((h0, .inr (8, fs2.set 4 (.ref q3))) :: (wr2 ++ [(q3, .inl (cI, 12, .inl (flF (fun _ => 0) (-1) 12)))])) H := hP
  have hD : va_D A ((h0, .inr (8, fs2.set 4 (.ref q3))) :: (wr2 ++ [(q3, .inl (cI, 12, .inl (flF (fun _ => 0) (-1) 12)))])) := hD
  obtain ⟨fs3, ef3⟩ : ∃ z, z = fs2.set 4 (.ref q3) := ⟨_, rfl⟩
  have hfs : fs3.length = 47 := by rw [ef3, List.length_set]; exact hfs
  obtain ⟨wr3, ew3⟩ : ∃ z : va_W, z = wr2 ++ [(q3, .inl (cI, 12, .inl (flF (fun _ => 0) (-1) 12)))] := ⟨_, rfl⟩
  rw [← ef3, ← ew3] at hP hD
  rw [ef2] at ef3
  have ef3 : fs3 = [.int 0, .int 0, .ref q1, .ref q2, .ref q3, .int 0, .null, .null, .null, .int 0, .null, .null, .int 0, .int 0, .null, .null, .null, .null, .null, .int 0, .int 0, .int 0, .int 0, .int 0, .null, .null, .null, .null, .null, .null, .null, .int 0, .null, .null, .null, .null, .int 0, .int 0, .null, .int 0, .null, .int 0, .null, .null, .null, .null, .null] := ef3
  rw [ew2] at ew3
  have ew3 : wr3 = [(q1, .inl (cI, 12, .inl (fun _ => 0))), (q2, .inl (cI, 12, .inl (fun _ => 0))), (q3, .inl (cI, 12, .inl (flF (fun _ => 0) (-1) 12)))] := ew3
  clear ef2 ew2
  refine lv_aload_n hx hb dX8_init_82 rfl (lv_at hl 0 rfl) ?_
  refine lv_bipush (v := 16) hx hb dX8_init_83 (by decide) ?_
  refine va_newa (D := D) (atype := .int) (ty := .int) (N' := 16) (a0 := (16, .inl (fun _ => 0))) hx hb (hts _ ac_I) rfl hK hP hD hS hA (fun _ => rfl) (by decide) (by decide) (by decide) (Nat.le_of_ble_eq_true rfl) (Nat.le_of_ble_eq_true rfl) dX8_init_85 (fun q4 cA H hK hP hD hS => ?_)
  obtain rfl : cI = cA := ka_uq (ty := .int) rfl (hK.2 0 _ rfl).2 (hK.2 1 _ rfl).2
  have hK : va_K D vwCl [(cI, .int)] s := hK.sub [0] rfl
  have hP : va_P D vwCl ((h0, .inr (8, fs3)) :: (wr3 ++ [(q4, .inl (cI, 16, .inl (fun _ => 0)))])) H := hP
  have hD : va_D A ((h0, .inr (8, fs3)) :: (wr3 ++ [(q4, .inl (cI, 16, .inl (fun _ => 0)))])) := hD
  refine va_putF (D := D) (ci := 8) (v := .ref q4) (ty := .array .int) (C := RX8) (T := TX8) (N := 47) hx hb hts (zlayi 8 (by decide)) tyX8 tyX8_ok nmX8 hown hK hP hD hS 0 rfl rfl 6 (by decide) (hts _ f8_19) (fun _ h9 => h9) rfl hin rfl (by decide +kernel) rfl rfl (by rw [hfs]; decide) dX8_init_87 (fun H locs hP hD hS => ?_)
  have hP : va_P D vwCl ((h0, .inr (8, fs3.set 6 (.ref q4))) :: (wr3 ++ [(q4, .inl (cI, 16, .inl (fun _ => 0)))])) H := hP
  have hD : va_D A ((h0, .inr (8, fs3.set 6 (.ref q4))) :: (wr3 ++ [(q4, .inl (cI, 16, .inl (fun _ => 0)))])) := hD
  obtain ⟨fs4, ef4⟩ : ∃ z, z = fs3.set 6 (.ref q4) := ⟨_, rfl⟩
  have hfs : fs4.length = 47 := by rw [ef4, List.length_set]; exact hfs
  obtain ⟨wr4, ew4⟩ : ∃ z : va_W, z = wr3 ++ [(q4, .inl (cI, 16, .inl (fun _ => 0)))] := ⟨_, rfl⟩
  rw [← ef4, ← ew4] at hP hD
  rw [ef3] at ef4
  have ef4 : fs4 = [.int 0, .int 0, .ref q1, .ref q2, .ref q3, .int 0, .ref q4, .null, .null, .int 0, .null, .null, .int 0, .int 0, .null, .null, .null, .null, .null, .int 0, .int 0, .int 0, .int 0, .int 0, .null, .null, .null, .null, .null, .null, .null, .int 0, .null, .null, .null, .null, .int 0, .int 0, .null, .int 0, .null, .int 0, .null, .null, .null, .null, .null] := ef4
  rw [ew3] at ew4
  have ew4 : wr4 = [(q1, .inl (cI, 12, .inl (fun _ => 0))), (q2, .inl (cI, 12, .inl (fun _ => 0))), (q3, .inl (cI, 12, .inl (flF (fun _ => 0) (-1) 12))), (q4, .inl (cI, 16, .inl (fun _ => 0)))] := ew4
  clear ef3 ew3
  refine lv_aload_n hx hb dX8_init_90 rfl (lv_at hl 0 rfl) ?_
  refine lv_bipush (v := 16) hx hb dX8_init_91 (by decide) ?_
  refine va_newa (D := D) (atype := .int) (ty := .int) (N' := 16) (a0 := (16, .inl (fun _ => 0))) hx hb (hts _ ac_I) rfl hK hP hD hS hA (fun _ => rfl) (by decide) (by decide) (by decide) (Nat.le_of_ble_eq_true rfl) (Nat.le_of_ble_eq_true rfl) dX8_init_93 (fun q5 cA H hK hP hD hS => ?_)
  obtain rfl : cI = cA := ka_uq (ty := .int) rfl (hK.2 0 _ rfl).2 (hK.2 1 _ rfl).2
  have hK : va_K D vwCl [(cI, .int)] s := hK.sub [0] rfl
  have hP : va_P D vwCl ((h0, .inr (8, fs4)) :: (wr4 ++ [(q5, .inl (cI, 16, .inl (fun _ => 0)))])) H := hP
  have hD : va_D A ((h0, .inr (8, fs4)) :: (wr4 ++ [(q5, .inl (cI, 16, .inl (fun _ => 0)))])) := hD
  refine va_putF (D := D) (ci := 8) (v := .ref q5) (ty := .array .int) (C := RX8) (T := TX8) (N := 47) hx hb hts (zlayi 8 (by decide)) tyX8 tyX8_ok nmX8 hown hK hP hD hS 0 rfl rfl 7 (by decide) (hts _ f8_22) (fun _ h9 => h9) rfl hin rfl (by decide +kernel) rfl rfl (by rw [hfs]; decide) dX8_init_95 (fun H locs hP hD hS => ?_)
  have hP : va_P D vwCl ((h0, .inr (8, fs4.set 7 (.ref q5))) :: (wr4 ++ [(q5, .inl (cI, 16, .inl (fun _ => 0)))])) H := hP
  have hD : va_D A ((h0, .inr (8, fs4.set 7 (.ref q5))) :: (wr4 ++ [(q5, .inl (cI, 16, .inl (fun _ => 0)))])) := hD
  obtain ⟨fs5, ef5⟩ : ∃ z, z = fs4.set 7 (.ref q5) := ⟨_, rfl⟩
  have hfs : fs5.length = 47 := by rw [ef5, List.length_set]; exact hfs
  obtain ⟨wr5, ew5⟩ : ∃ z : va_W, z = wr4 ++ [(q5, .inl (cI, 16, .inl (fun _ => 0)))] := ⟨_, rfl⟩
  rw [← ef5, ← ew5] at hP hD
  rw [ef4] at ef5
  have ef5 : fs5 = [.int 0, .int 0, .ref q1, .ref q2, .ref q3, .int 0, .ref q4, .ref q5, .null, .int 0, .null, .null, .int 0, .int 0, .null, .null, .null, .null, .null, .int 0, .int 0, .int 0, .int 0, .int 0, .null, .null, .null, .null, .null, .null, .null, .int 0, .null, .null, .null, .null, .int 0, .int 0, .null, .int 0, .null, .int 0, .null, .null, .null, .null, .null] := ef5
  rw [ew4] at ew5
  have ew5 : wr5 = [(q1, .inl (cI, 12, .inl (fun _ => 0))), (q2, .inl (cI, 12, .inl (fun _ => 0))), (q3, .inl (cI, 12, .inl (flF (fun _ => 0) (-1) 12))), (q4, .inl (cI, 16, .inl (fun _ => 0))), (q5, .inl (cI, 16, .inl (fun _ => 0)))] := ew5
  clear ef4 ew4
  refine lv_aload_n hx hb dX8_init_98 rfl (lv_at hl 0 rfl) ?_
  refine lv_bipush (v := 16) hx hb dX8_init_99 (by decide) ?_
  refine va_newa (D := D) (atype := .int) (ty := .int) (N' := 16) (a0 := (16, .inl (fun _ => 0))) hx hb (hts _ ac_I) rfl hK hP hD hS hA (fun _ => rfl) (by decide) (by decide) (by decide) (Nat.le_of_ble_eq_true rfl) (Nat.le_of_ble_eq_true rfl) dX8_init_101 (fun q6 cA H hK hP hD hS => ?_)
  obtain rfl : cI = cA := ka_uq (ty := .int) rfl (hK.2 0 _ rfl).2 (hK.2 1 _ rfl).2
  have hK : va_K D vwCl [(cI, .int)] s := hK.sub [0] rfl
  have hP : va_P D vwCl ((h0, .inr (8, fs5)) :: (wr5 ++ [(q6, .inl (cI, 16, .inl (fun _ => 0)))])) H := hP
  have hD : va_D A ((h0, .inr (8, fs5)) :: (wr5 ++ [(q6, .inl (cI, 16, .inl (fun _ => 0)))])) := hD
  refine va_putF (D := D) (ci := 8) (v := .ref q6) (ty := .array .int) (C := RX8) (T := TX8) (N := 47) hx hb hts (zlayi 8 (by decide)) tyX8 tyX8_ok nmX8 hown hK hP hD hS 0 rfl rfl 8 (by decide) (hts _ f8_25) (fun _ h9 => h9) rfl hin rfl (by decide +kernel) rfl rfl (by rw [hfs]; decide) dX8_init_103 (fun H locs hP hD hS => ?_)
  have hP : va_P D vwCl ((h0, .inr (8, fs5.set 8 (.ref q6))) :: (wr5 ++ [(q6, .inl (cI, 16, .inl (fun _ => 0)))])) H := hP
  have hD : va_D A ((h0, .inr (8, fs5.set 8 (.ref q6))) :: (wr5 ++ [(q6, .inl (cI, 16, .inl (fun _ => 0)))])) := hD
  obtain ⟨fs6, ef6⟩ : ∃ z, z = fs5.set 8 (.ref q6) := ⟨_, rfl⟩
  have hfs : fs6.length = 47 := by rw [ef6, List.length_set]; exact hfs
  obtain ⟨wr6, ew6⟩ : ∃ z : va_W, z = wr5 ++ [(q6, .inl (cI, 16, .inl (fun _ => 0)))] := ⟨_, rfl⟩
  rw [← ef6, ← ew6] at hP hD
  rw [ef5] at ef6
  have ef6 : fs6 = [.int 0, .int 0, .ref q1, .ref q2, .ref q3, .int 0, .ref q4, .ref q5, .ref q6, .int 0, .null, .null, .int 0, .int 0, .null, .null, .null, .null, .null, .int 0, .int 0, .int 0, .int 0, .int 0, .null, .null, .null, .null, .null, .null, .null, .int 0, .null, .null, .null, .null, .int 0, .int 0, .null, .int 0, .null, .int 0, .null, .null, .null, .null, .null] := ef6
  rw [ew5] at ew6
  have ew6 : wr6 = [(q1, .inl (cI, 12, .inl (fun _ => 0))), (q2, .inl (cI, 12, .inl (fun _ => 0))), (q3, .inl (cI, 12, .inl (flF (fun _ => 0) (-1) 12))), (q4, .inl (cI, 16, .inl (fun _ => 0))), (q5, .inl (cI, 16, .inl (fun _ => 0))), (q6, .inl (cI, 16, .inl (fun _ => 0)))] := ew6
  clear ef5 ew5
  refine lv_aload_n hx hb dX8_init_106 rfl (lv_at hl 0 rfl) ?_
  refine lv_bipush (v := 12) hx hb dX8_init_107 (by decide) ?_
  refine va_newa (D := D) (atype := .int) (ty := .int) (N' := 12) (a0 := (12, .inl (fun _ => 0))) hx hb (hts _ ac_I) rfl hK hP hD hS hA (fun _ => rfl) (by decide) (by decide) (by decide) (Nat.le_of_ble_eq_true rfl) (Nat.le_of_ble_eq_true rfl) dX8_init_109 (fun q7 cA H hK hP hD hS => ?_)
  obtain rfl : cI = cA := ka_uq (ty := .int) rfl (hK.2 0 _ rfl).2 (hK.2 1 _ rfl).2
  have hK : va_K D vwCl [(cI, .int)] s := hK.sub [0] rfl
  have hP : va_P D vwCl ((h0, .inr (8, fs6)) :: (wr6 ++ [(q7, .inl (cI, 12, .inl (fun _ => 0)))])) H := hP
  have hD : va_D A ((h0, .inr (8, fs6)) :: (wr6 ++ [(q7, .inl (cI, 12, .inl (fun _ => 0)))])) := hD
  refine lv_dup hx hb dX8_init_111 rfl ?_
  refine lv_iconst (v := 0) hx hb dX8_init_112 (by decide) ?_
  refine lv_iconst (v := 1) hx hb dX8_init_113 (by decide) ?_
  rw [← flF_0 (fun _ => 0) 1] at hP hD
  refine va_iast hx hb hK hP hD hS (wr6.length + 1) 0 pl_get rfl (show vp_in (nI 0) 12 from vp_in_nI (by decide) (by decide)) dX8_init_114 (fun H locs hP hD hS => ?_)
  rw [pl_set, show (0 : Int32).toNatClampNeg = 0 from rfl, flF_s] at hP hD
  have hP : va_P D vwCl ((h0, .inr (8, fs6)) :: (wr6 ++ [(q7, .inl (cI, 12, .inl (flF (fun _ => 0) 1 1)))])) H := hP
  have hD : va_D A ((h0, .inr (8, fs6)) :: (wr6 ++ [(q7, .inl (cI, 12, .inl (flF (fun _ => 0) 1 1)))])) := hD
  refine lv_dup hx hb dX8_init_115 rfl ?_
  refine lv_iconst (v := 1) hx hb dX8_init_116 (by decide) ?_
  refine lv_iconst (v := 1) hx hb dX8_init_117 (by decide) ?_
  refine va_iast hx hb hK hP hD hS (wr6.length + 1) 0 pl_get rfl (show vp_in (nI 1) 12 from vp_in_nI (by decide) (by decide)) dX8_init_118 (fun H locs hP hD hS => ?_)
  rw [pl_set, show (1 : Int32).toNatClampNeg = 1 from rfl, flF_s] at hP hD
  have hP : va_P D vwCl ((h0, .inr (8, fs6)) :: (wr6 ++ [(q7, .inl (cI, 12, .inl (flF (fun _ => 0) 1 2)))])) H := hP
  have hD : va_D A ((h0, .inr (8, fs6)) :: (wr6 ++ [(q7, .inl (cI, 12, .inl (flF (fun _ => 0) 1 2)))])) := hD
  refine lv_dup hx hb dX8_init_119 rfl ?_
  refine lv_iconst (v := 2) hx hb dX8_init_120 (by decide) ?_
  refine lv_iconst (v := 1) hx hb dX8_init_121 (by decide) ?_
  refine va_iast hx hb hK hP hD hS (wr6.length + 1) 0 pl_get rfl (show vp_in (nI 2) 12 from vp_in_nI (by decide) (by decide)) dX8_init_122 (fun H locs hP hD hS => ?_)
  rw [pl_set, show (2 : Int32).toNatClampNeg = 2 from rfl, flF_s] at hP hD
  have hP : va_P D vwCl ((h0, .inr (8, fs6)) :: (wr6 ++ [(q7, .inl (cI, 12, .inl (flF (fun _ => 0) 1 3)))])) H := hP
  have hD : va_D A ((h0, .inr (8, fs6)) :: (wr6 ++ [(q7, .inl (cI, 12, .inl (flF (fun _ => 0) 1 3)))])) := hD
  refine lv_dup hx hb dX8_init_123 rfl ?_
  refine lv_iconst (v := 3) hx hb dX8_init_124 (by decide) ?_
  refine lv_iconst (v := 1) hx hb dX8_init_125 (by decide) ?_
  refine va_iast hx hb hK hP hD hS (wr6.length + 1) 0 pl_get rfl (show vp_in (nI 3) 12 from vp_in_nI (by decide) (by decide)) dX8_init_126 (fun H locs hP hD hS => ?_)
  rw [pl_set, show (3 : Int32).toNatClampNeg = 3 from rfl, flF_s] at hP hD
  have hP : va_P D vwCl ((h0, .inr (8, fs6)) :: (wr6 ++ [(q7, .inl (cI, 12, .inl (flF (fun _ => 0) 1 4)))])) H := hP
  have hD : va_D A ((h0, .inr (8, fs6)) :: (wr6 ++ [(q7, .inl (cI, 12, .inl (flF (fun _ => 0) 1 4)))])) := hD
  refine lv_dup hx hb dX8_init_127 rfl ?_
  refine lv_iconst (v := 4) hx hb dX8_init_128 (by decide) ?_
  refine lv_iconst (v := 1) hx hb dX8_init_129 (by decide) ?_
  refine va_iast hx hb hK hP hD hS (wr6.length + 1) 0 pl_get rfl (show vp_in (nI 4) 12 from vp_in_nI (by decide) (by decide)) dX8_init_130 (fun H locs hP hD hS => ?_)
  rw [pl_set, show (4 : Int32).toNatClampNeg = 4 from rfl, flF_s] at hP hD
  have hP : va_P D vwCl ((h0, .inr (8, fs6)) :: (wr6 ++ [(q7, .inl (cI, 12, .inl (flF (fun _ => 0) 1 5)))])) H := hP
  have hD : va_D A ((h0, .inr (8, fs6)) :: (wr6 ++ [(q7, .inl (cI, 12, .inl (flF (fun _ => 0) 1 5)))])) := hD
  refine lv_dup hx hb dX8_init_131 rfl ?_
  refine lv_iconst (v := 5) hx hb dX8_init_132 (by decide) ?_
  refine lv_iconst (v := 1) hx hb dX8_init_133 (by decide) ?_
  refine va_iast hx hb hK hP hD hS (wr6.length + 1) 0 pl_get rfl (show vp_in (nI 5) 12 from vp_in_nI (by decide) (by decide)) dX8_init_134 (fun H locs hP hD hS => ?_)
  rw [pl_set, show (5 : Int32).toNatClampNeg = 5 from rfl, flF_s] at hP hD
  have hP : va_P D vwCl ((h0, .inr (8, fs6)) :: (wr6 ++ [(q7, .inl (cI, 12, .inl (flF (fun _ => 0) 1 6)))])) H := hP
  have hD : va_D A ((h0, .inr (8, fs6)) :: (wr6 ++ [(q7, .inl (cI, 12, .inl (flF (fun _ => 0) 1 6)))])) := hD
  refine lv_dup hx hb dX8_init_135 rfl ?_
  refine lv_bipush (v := 6) hx hb dX8_init_136 (by decide) ?_
  refine lv_iconst (v := 1) hx hb dX8_init_138 (by decide) ?_
  refine va_iast hx hb hK hP hD hS (wr6.length + 1) 0 pl_get rfl (show vp_in (nI 6) 12 from vp_in_nI (by decide) (by decide)) dX8_init_139 (fun H locs hP hD hS => ?_)
  rw [pl_set, show (6 : Int32).toNatClampNeg = 6 from rfl, flF_s] at hP hD
  have hP : va_P D vwCl ((h0, .inr (8, fs6)) :: (wr6 ++ [(q7, .inl (cI, 12, .inl (flF (fun _ => 0) 1 7)))])) H := hP
  have hD : va_D A ((h0, .inr (8, fs6)) :: (wr6 ++ [(q7, .inl (cI, 12, .inl (flF (fun _ => 0) 1 7)))])) := hD
  refine lv_dup hx hb dX8_init_140 rfl ?_
  refine lv_bipush (v := 7) hx hb dX8_init_141 (by decide) ?_
  refine lv_iconst (v := 1) hx hb dX8_init_143 (by decide) ?_
  refine va_iast hx hb hK hP hD hS (wr6.length + 1) 0 pl_get rfl (show vp_in (nI 7) 12 from vp_in_nI (by decide) (by decide)) dX8_init_144 (fun H locs hP hD hS => ?_)
  rw [pl_set, show (7 : Int32).toNatClampNeg = 7 from rfl, flF_s] at hP hD
  have hP : va_P D vwCl ((h0, .inr (8, fs6)) :: (wr6 ++ [(q7, .inl (cI, 12, .inl (flF (fun _ => 0) 1 8)))])) H := hP
  have hD : va_D A ((h0, .inr (8, fs6)) :: (wr6 ++ [(q7, .inl (cI, 12, .inl (flF (fun _ => 0) 1 8)))])) := hD
  refine lv_dup hx hb dX8_init_145 rfl ?_
  refine lv_bipush (v := 8) hx hb dX8_init_146 (by decide) ?_
  refine lv_iconst (v := 1) hx hb dX8_init_148 (by decide) ?_
  refine va_iast hx hb hK hP hD hS (wr6.length + 1) 0 pl_get rfl (show vp_in (nI 8) 12 from vp_in_nI (by decide) (by decide)) dX8_init_149 (fun H locs hP hD hS => ?_)
  rw [pl_set, show (8 : Int32).toNatClampNeg = 8 from rfl, flF_s] at hP hD
  have hP : va_P D vwCl ((h0, .inr (8, fs6)) :: (wr6 ++ [(q7, .inl (cI, 12, .inl (flF (fun _ => 0) 1 9)))])) H := hP
  have hD : va_D A ((h0, .inr (8, fs6)) :: (wr6 ++ [(q7, .inl (cI, 12, .inl (flF (fun _ => 0) 1 9)))])) := hD
  refine lv_dup hx hb dX8_init_150 rfl ?_
  refine lv_bipush (v := 9) hx hb dX8_init_151 (by decide) ?_
  refine lv_iconst (v := 1) hx hb dX8_init_153 (by decide) ?_
  refine va_iast hx hb hK hP hD hS (wr6.length + 1) 0 pl_get rfl (show vp_in (nI 9) 12 from vp_in_nI (by decide) (by decide)) dX8_init_154 (fun H locs hP hD hS => ?_)
  rw [pl_set, show (9 : Int32).toNatClampNeg = 9 from rfl, flF_s] at hP hD
  have hP : va_P D vwCl ((h0, .inr (8, fs6)) :: (wr6 ++ [(q7, .inl (cI, 12, .inl (flF (fun _ => 0) 1 10)))])) H := hP
  have hD : va_D A ((h0, .inr (8, fs6)) :: (wr6 ++ [(q7, .inl (cI, 12, .inl (flF (fun _ => 0) 1 10)))])) := hD
  refine lv_dup hx hb dX8_init_155 rfl ?_
  refine lv_bipush (v := 10) hx hb dX8_init_156 (by decide) ?_
  refine lv_iconst (v := 1) hx hb dX8_init_158 (by decide) ?_
  refine va_iast hx hb hK hP hD hS (wr6.length + 1) 0 pl_get rfl (show vp_in (nI 10) 12 from vp_in_nI (by decide) (by decide)) dX8_init_159 (fun H locs hP hD hS => ?_)
  rw [pl_set, show (10 : Int32).toNatClampNeg = 10 from rfl, flF_s] at hP hD
  have hP : va_P D vwCl ((h0, .inr (8, fs6)) :: (wr6 ++ [(q7, .inl (cI, 12, .inl (flF (fun _ => 0) 1 11)))])) H := hP
  have hD : va_D A ((h0, .inr (8, fs6)) :: (wr6 ++ [(q7, .inl (cI, 12, .inl (flF (fun _ => 0) 1 11)))])) := hD
  refine lv_dup hx hb dX8_init_160 rfl ?_
  refine lv_bipush (v := 11) hx hb dX8_init_161 (by decide) ?_
  refine lv_iconst (v := 1) hx hb dX8_init_163 (by decide) ?_
  refine va_iast hx hb hK hP hD hS (wr6.length + 1) 0 pl_get rfl (show vp_in (nI 11) 12 from vp_in_nI (by decide) (by decide)) dX8_init_164 (fun H locs hP hD hS => ?_)
  rw [pl_set, show (11 : Int32).toNatClampNeg = 11 from rfl, flF_s] at hP hD
  have hP : va_P D vwCl ((h0, .inr (8, fs6)) :: (wr6 ++ [(q7, .inl (cI, 12, .inl (flF (fun _ => 0) 1 12)))])) H := hP
  have hD : va_D A ((h0, .inr (8, fs6)) :: (wr6 ++ [(q7, .inl (cI, 12, .inl (flF (fun _ => 0) 1 12)))])) := hD
  refine va_putF (D := D) (ci := 8) (v := .ref q7) (ty := .array .int) (C := RX8) (T := TX8) (N := 47) hx hb hts (zlayi 8 (by decide)) tyX8 tyX8_ok nmX8 hown hK hP hD hS 0 rfl rfl 10 (by decide) (hts _ f8_28) (fun _ h9 => h9) rfl hin rfl (by decide +kernel) rfl rfl (by rw [hfs]; decide) dX8_init_165 (fun H locs hP hD hS => ?_)
  have hP : va_P D vwCl ((h0, .inr (8, fs6.set 10 (.ref q7))) :: (wr6 ++ [(q7, .inl (cI, 12, .inl (flF (fun _ => 0) 1 12)))])) H := hP
  have hD : va_D A ((h0, .inr (8, fs6.set 10 (.ref q7))) :: (wr6 ++ [(q7, .inl (cI, 12, .inl (flF (fun _ => 0) 1 12)))])) := hD
  obtain ⟨fs7, ef7⟩ : ∃ z, z = fs6.set 10 (.ref q7) := ⟨_, rfl⟩
  have hfs : fs7.length = 47 := by rw [ef7, List.length_set]; exact hfs
  obtain ⟨wr7, ew7⟩ : ∃ z : va_W, z = wr6 ++ [(q7, .inl (cI, 12, .inl (flF (fun _ => 0) 1 12)))] := ⟨_, rfl⟩
  rw [← ef7, ← ew7] at hP hD
  rw [ef6] at ef7
  have ef7 : fs7 = [.int 0, .int 0, .ref q1, .ref q2, .ref q3, .int 0, .ref q4, .ref q5, .ref q6, .int 0, .ref q7, .null, .int 0, .int 0, .null, .null, .null, .null, .null, .int 0, .int 0, .int 0, .int 0, .int 0, .null, .null, .null, .null, .null, .null, .null, .int 0, .null, .null, .null, .null, .int 0, .int 0, .null, .int 0, .null, .int 0, .null, .null, .null, .null, .null] := ef7
  rw [ew6] at ew7
  have ew7 : wr7 = [(q1, .inl (cI, 12, .inl (fun _ => 0))), (q2, .inl (cI, 12, .inl (fun _ => 0))), (q3, .inl (cI, 12, .inl (flF (fun _ => 0) (-1) 12))), (q4, .inl (cI, 16, .inl (fun _ => 0))), (q5, .inl (cI, 16, .inl (fun _ => 0))), (q6, .inl (cI, 16, .inl (fun _ => 0))), (q7, .inl (cI, 12, .inl (flF (fun _ => 0) 1 12)))] := ew7
  clear ef6 ew6
  refine lv_aload_n hx hb dX8_init_168 rfl (lv_at hl 0 rfl) ?_
  refine lv_bipush (v := 12) hx hb dX8_init_169 (by decide) ?_
  refine va_newa (D := D) (atype := .int) (ty := .int) (N' := 12) (a0 := (12, .inl (fun _ => 0))) hx hb (hts _ ac_I) rfl hK hP hD hS hA (fun _ => rfl) (by decide) (by decide) (by decide) (Nat.le_of_ble_eq_true rfl) (Nat.le_of_ble_eq_true rfl) dX8_init_171 (fun q8 cA H hK hP hD hS => ?_)
  obtain rfl : cI = cA := ka_uq (ty := .int) rfl (hK.2 0 _ rfl).2 (hK.2 1 _ rfl).2
  have hK : va_K D vwCl [(cI, .int)] s := hK.sub [0] rfl
  have hP : va_P D vwCl ((h0, .inr (8, fs7)) :: (wr7 ++ [(q8, .inl (cI, 12, .inl (fun _ => 0)))])) H := hP
  have hD : va_D A ((h0, .inr (8, fs7)) :: (wr7 ++ [(q8, .inl (cI, 12, .inl (fun _ => 0)))])) := hD
  refine va_putF (D := D) (ci := 8) (v := .ref q8) (ty := .array .int) (C := RX8) (T := TX8) (N := 47) hx hb hts (zlayi 8 (by decide)) tyX8 tyX8_ok nmX8 hown hK hP hD hS 0 rfl rfl 11 (by decide) (hts _ f8_31) (fun _ h9 => h9) rfl hin rfl (by decide +kernel) rfl rfl (by rw [hfs]; decide) dX8_init_173 (fun H locs hP hD hS => ?_)
  have hP : va_P D vwCl ((h0, .inr (8, fs7.set 11 (.ref q8))) :: (wr7 ++ [(q8, .inl (cI, 12, .inl (fun _ => 0)))])) H := hP
  have hD : va_D A ((h0, .inr (8, fs7.set 11 (.ref q8))) :: (wr7 ++ [(q8, .inl (cI, 12, .inl (fun _ => 0)))])) := hD
  obtain ⟨fs8, ef8⟩ : ∃ z, z = fs7.set 11 (.ref q8) := ⟨_, rfl⟩
  have hfs : fs8.length = 47 := by rw [ef8, List.length_set]; exact hfs
  obtain ⟨wr8, ew8⟩ : ∃ z : va_W, z = wr7 ++ [(q8, .inl (cI, 12, .inl (fun _ => 0)))] := ⟨_, rfl⟩
  rw [← ef8, ← ew8] at hP hD
  rw [ef7] at ef8
  have ef8 : fs8 = [.int 0, .int 0, .ref q1, .ref q2, .ref q3, .int 0, .ref q4, .ref q5, .ref q6, .int 0, .ref q7, .ref q8, .int 0, .int 0, .null, .null, .null, .null, .null, .int 0, .int 0, .int 0, .int 0, .int 0, .null, .null, .null, .null, .null, .null, .null, .int 0, .null, .null, .null, .null, .int 0, .int 0, .null, .int 0, .null, .int 0, .null, .null, .null, .null, .null] := ef8
  rw [ew7] at ew8
  have ew8 : wr8 = [(q1, .inl (cI, 12, .inl (fun _ => 0))), (q2, .inl (cI, 12, .inl (fun _ => 0))), (q3, .inl (cI, 12, .inl (flF (fun _ => 0) (-1) 12))), (q4, .inl (cI, 16, .inl (fun _ => 0))), (q5, .inl (cI, 16, .inl (fun _ => 0))), (q6, .inl (cI, 16, .inl (fun _ => 0))), (q7, .inl (cI, 12, .inl (flF (fun _ => 0) 1 12))), (q8, .inl (cI, 12, .inl (fun _ => 0)))] := ew8
  clear ef7 ew7
  refine lv_aload_n hx hb dX8_init_176 rfl (lv_at hl 0 rfl) ?_
  refine lv_bipush (v := 40) hx hb dX8_init_177 (by decide) ?_
  refine va_newa (D := D) (atype := .int) (ty := .int) (N' := 40) (a0 := (40, .inl (fun _ => 0))) hx hb (hts _ ac_I) rfl hK hP hD hS hA (fun _ => rfl) (by decide) (by decide) (by decide) (Nat.le_of_ble_eq_true rfl) (Nat.le_of_ble_eq_true rfl) dX8_init_179 (fun q9 cA H hK hP hD hS => ?_)
  obtain rfl : cI = cA := ka_uq (ty := .int) rfl (hK.2 0 _ rfl).2 (hK.2 1 _ rfl).2
  have hK : va_K D vwCl [(cI, .int)] s := hK.sub [0] rfl
  have hP : va_P D vwCl ((h0, .inr (8, fs8)) :: (wr8 ++ [(q9, .inl (cI, 40, .inl (fun _ => 0)))])) H := hP
  have hD : va_D A ((h0, .inr (8, fs8)) :: (wr8 ++ [(q9, .inl (cI, 40, .inl (fun _ => 0)))])) := hD
  refine va_putF (D := D) (ci := 8) (v := .ref q9) (ty := .array .int) (C := RX8) (T := TX8) (N := 47) hx hb hts (zlayi 8 (by decide)) tyX8 tyX8_ok nmX8 hown hK hP hD hS 0 rfl rfl 14 (by decide) (hts _ f8_34) (fun _ h9 => h9) rfl hin rfl (by decide +kernel) rfl rfl (by rw [hfs]; decide) dX8_init_181 (fun H locs hP hD hS => ?_)
  have hP : va_P D vwCl ((h0, .inr (8, fs8.set 14 (.ref q9))) :: (wr8 ++ [(q9, .inl (cI, 40, .inl (fun _ => 0)))])) H := hP
  have hD : va_D A ((h0, .inr (8, fs8.set 14 (.ref q9))) :: (wr8 ++ [(q9, .inl (cI, 40, .inl (fun _ => 0)))])) := hD
  obtain ⟨fs9, ef9⟩ : ∃ z, z = fs8.set 14 (.ref q9) := ⟨_, rfl⟩
  have hfs : fs9.length = 47 := by rw [ef9, List.length_set]; exact hfs
  obtain ⟨wr9, ew9⟩ : ∃ z : va_W, z = wr8 ++ [(q9, .inl (cI, 40, .inl (fun _ => 0)))] := ⟨_, rfl⟩
  rw [← ef9, ← ew9] at hP hD
  rw [ef8] at ef9
  have ef9 : fs9 = [.int 0, .int 0, .ref q1, .ref q2, .ref q3, .int 0, .ref q4, .ref q5, .ref q6, .int 0, .ref q7, .ref q8, .int 0, .int 0, .ref q9, .null, .null, .null, .null, .int 0, .int 0, .int 0, .int 0, .int 0, .null, .null, .null, .null, .null, .null, .null, .int 0, .null, .null, .null, .null, .int 0, .int 0, .null, .int 0, .null, .int 0, .null, .null, .null, .null, .null] := ef9
  rw [ew8] at ew9
  have ew9 : wr9 = [(q1, .inl (cI, 12, .inl (fun _ => 0))), (q2, .inl (cI, 12, .inl (fun _ => 0))), (q3, .inl (cI, 12, .inl (flF (fun _ => 0) (-1) 12))), (q4, .inl (cI, 16, .inl (fun _ => 0))), (q5, .inl (cI, 16, .inl (fun _ => 0))), (q6, .inl (cI, 16, .inl (fun _ => 0))), (q7, .inl (cI, 12, .inl (flF (fun _ => 0) 1 12))), (q8, .inl (cI, 12, .inl (fun _ => 0))), (q9, .inl (cI, 40, .inl (fun _ => 0)))] := ew9
  clear ef8 ew8
  refine lv_aload_n hx hb dX8_init_184 rfl (lv_at hl 0 rfl) ?_
  refine lv_bipush (v := 40) hx hb dX8_init_185 (by decide) ?_
  refine va_newa (D := D) (atype := .int) (ty := .int) (N' := 40) (a0 := (40, .inl (fun _ => 0))) hx hb (hts _ ac_I) rfl hK hP hD hS hA (fun _ => rfl) (by decide) (by decide) (by decide) (Nat.le_of_ble_eq_true rfl) (Nat.le_of_ble_eq_true rfl) dX8_init_187 (fun q10 cA H hK hP hD hS => ?_)
  obtain rfl : cI = cA := ka_uq (ty := .int) rfl (hK.2 0 _ rfl).2 (hK.2 1 _ rfl).2
  have hK : va_K D vwCl [(cI, .int)] s := hK.sub [0] rfl
  have hP : va_P D vwCl ((h0, .inr (8, fs9)) :: (wr9 ++ [(q10, .inl (cI, 40, .inl (fun _ => 0)))])) H := hP
  have hD : va_D A ((h0, .inr (8, fs9)) :: (wr9 ++ [(q10, .inl (cI, 40, .inl (fun _ => 0)))])) := hD
  refine va_putF (D := D) (ci := 8) (v := .ref q10) (ty := .array .int) (C := RX8) (T := TX8) (N := 47) hx hb hts (zlayi 8 (by decide)) tyX8 tyX8_ok nmX8 hown hK hP hD hS 0 rfl rfl 15 (by decide) (hts _ f8_37) (fun _ h9 => h9) rfl hin rfl (by decide +kernel) rfl rfl (by rw [hfs]; decide) dX8_init_189 (fun H locs hP hD hS => ?_)
  have hP : va_P D vwCl ((h0, .inr (8, fs9.set 15 (.ref q10))) :: (wr9 ++ [(q10, .inl (cI, 40, .inl (fun _ => 0)))])) H := hP
  have hD : va_D A ((h0, .inr (8, fs9.set 15 (.ref q10))) :: (wr9 ++ [(q10, .inl (cI, 40, .inl (fun _ => 0)))])) := hD
  obtain ⟨fs10, ef10⟩ : ∃ z, z = fs9.set 15 (.ref q10) := ⟨_, rfl⟩
  have hfs : fs10.length = 47 := by rw [ef10, List.length_set]; exact hfs
  obtain ⟨wr10, ew10⟩ : ∃ z : va_W, z = wr9 ++ [(q10, .inl (cI, 40, .inl (fun _ => 0)))] := ⟨_, rfl⟩
  rw [← ef10, ← ew10] at hP hD
  rw [ef9] at ef10
  have ef10 : fs10 = [.int 0, .int 0, .ref q1, .ref q2, .ref q3, .int 0, .ref q4, .ref q5, .ref q6, .int 0, .ref q7, .ref q8, .int 0, .int 0, .ref q9, .ref q10, .null, .null, .null, .int 0, .int 0, .int 0, .int 0, .int 0, .null, .null, .null, .null, .null, .null, .null, .int 0, .null, .null, .null, .null, .int 0, .int 0, .null, .int 0, .null, .int 0, .null, .null, .null, .null, .null] := ef10
  rw [ew9] at ew10
  have ew10 : wr10 = [(q1, .inl (cI, 12, .inl (fun _ => 0))), (q2, .inl (cI, 12, .inl (fun _ => 0))), (q3, .inl (cI, 12, .inl (flF (fun _ => 0) (-1) 12))), (q4, .inl (cI, 16, .inl (fun _ => 0))), (q5, .inl (cI, 16, .inl (fun _ => 0))), (q6, .inl (cI, 16, .inl (fun _ => 0))), (q7, .inl (cI, 12, .inl (flF (fun _ => 0) 1 12))), (q8, .inl (cI, 12, .inl (fun _ => 0))), (q9, .inl (cI, 40, .inl (fun _ => 0))), (q10, .inl (cI, 40, .inl (fun _ => 0)))] := ew10
  clear ef9 ew9
  refine lv_aload_n hx hb dX8_init_192 rfl (lv_at hl 0 rfl) ?_
  refine lv_bipush (v := 40) hx hb dX8_init_193 (by decide) ?_
  refine va_newa (D := D) (atype := .int) (ty := .int) (N' := 40) (a0 := (40, .inl (fun _ => 0))) hx hb (hts _ ac_I) rfl hK hP hD hS hA (fun _ => rfl) (by decide) (by decide) (by decide) (Nat.le_of_ble_eq_true rfl) (Nat.le_of_ble_eq_true rfl) dX8_init_195 (fun q11 cA H hK hP hD hS => ?_)
  obtain rfl : cI = cA := ka_uq (ty := .int) rfl (hK.2 0 _ rfl).2 (hK.2 1 _ rfl).2
  have hK : va_K D vwCl [(cI, .int)] s := hK.sub [0] rfl
  have hP : va_P D vwCl ((h0, .inr (8, fs10)) :: (wr10 ++ [(q11, .inl (cI, 40, .inl (fun _ => 0)))])) H := hP
  have hD : va_D A ((h0, .inr (8, fs10)) :: (wr10 ++ [(q11, .inl (cI, 40, .inl (fun _ => 0)))])) := hD
  refine va_putF (D := D) (ci := 8) (v := .ref q11) (ty := .array .int) (C := RX8) (T := TX8) (N := 47) hx hb hts (zlayi 8 (by decide)) tyX8 tyX8_ok nmX8 hown hK hP hD hS 0 rfl rfl 16 (by decide) (hts _ f8_40) (fun _ h9 => h9) rfl hin rfl (by decide +kernel) rfl rfl (by rw [hfs]; decide) dX8_init_197 (fun H locs hP hD hS => ?_)
  have hP : va_P D vwCl ((h0, .inr (8, fs10.set 16 (.ref q11))) :: (wr10 ++ [(q11, .inl (cI, 40, .inl (fun _ => 0)))])) H := hP
  have hD : va_D A ((h0, .inr (8, fs10.set 16 (.ref q11))) :: (wr10 ++ [(q11, .inl (cI, 40, .inl (fun _ => 0)))])) := hD
  obtain ⟨fs11, ef11⟩ : ∃ z, z = fs10.set 16 (.ref q11) := ⟨_, rfl⟩
  have hfs : fs11.length = 47 := by rw [ef11, List.length_set]; exact hfs
  obtain ⟨wr11, ew11⟩ : ∃ z : va_W, z = wr10 ++ [(q11, .inl (cI, 40, .inl (fun _ => 0)))] := ⟨_, rfl⟩
  rw [← ef11, ← ew11] at hP hD
  rw [ef10] at ef11
  have ef11 : fs11 = [.int 0, .int 0, .ref q1, .ref q2, .ref q3, .int 0, .ref q4, .ref q5, .ref q6, .int 0, .ref q7, .ref q8, .int 0, .int 0, .ref q9, .ref q10, .ref q11, .null, .null, .int 0, .int 0, .int 0, .int 0, .int 0, .null, .null, .null, .null, .null, .null, .null, .int 0, .null, .null, .null, .null, .int 0, .int 0, .null, .int 0, .null, .int 0, .null, .null, .null, .null, .null] := ef11
  rw [ew10] at ew11
  have ew11 : wr11 = [(q1, .inl (cI, 12, .inl (fun _ => 0))), (q2, .inl (cI, 12, .inl (fun _ => 0))), (q3, .inl (cI, 12, .inl (flF (fun _ => 0) (-1) 12))), (q4, .inl (cI, 16, .inl (fun _ => 0))), (q5, .inl (cI, 16, .inl (fun _ => 0))), (q6, .inl (cI, 16, .inl (fun _ => 0))), (q7, .inl (cI, 12, .inl (flF (fun _ => 0) 1 12))), (q8, .inl (cI, 12, .inl (fun _ => 0))), (q9, .inl (cI, 40, .inl (fun _ => 0))), (q10, .inl (cI, 40, .inl (fun _ => 0))), (q11, .inl (cI, 40, .inl (fun _ => 0)))] := ew11
  clear ef10 ew10
  refine lv_aload_n hx hb dX8_init_200 rfl (lv_at hl 0 rfl) ?_
  refine lv_bipush (v := 40) hx hb dX8_init_201 (by decide) ?_
  refine va_newa (D := D) (atype := .int) (ty := .int) (N' := 40) (a0 := (40, .inl (fun _ => 0))) hx hb (hts _ ac_I) rfl hK hP hD hS hA (fun _ => rfl) (by decide) (by decide) (by decide) (Nat.le_of_ble_eq_true rfl) (Nat.le_of_ble_eq_true rfl) dX8_init_203 (fun q12 cA H hK hP hD hS => ?_)
  obtain rfl : cI = cA := ka_uq (ty := .int) rfl (hK.2 0 _ rfl).2 (hK.2 1 _ rfl).2
  have hK : va_K D vwCl [(cI, .int)] s := hK.sub [0] rfl
  have hP : va_P D vwCl ((h0, .inr (8, fs11)) :: (wr11 ++ [(q12, .inl (cI, 40, .inl (fun _ => 0)))])) H := hP
  have hD : va_D A ((h0, .inr (8, fs11)) :: (wr11 ++ [(q12, .inl (cI, 40, .inl (fun _ => 0)))])) := hD
  refine va_putF (D := D) (ci := 8) (v := .ref q12) (ty := .array .int) (C := RX8) (T := TX8) (N := 47) hx hb hts (zlayi 8 (by decide)) tyX8 tyX8_ok nmX8 hown hK hP hD hS 0 rfl rfl 17 (by decide) (hts _ f8_43) (fun _ h9 => h9) rfl hin rfl (by decide +kernel) rfl rfl (by rw [hfs]; decide) dX8_init_205 (fun H locs hP hD hS => ?_)
  have hP : va_P D vwCl ((h0, .inr (8, fs11.set 17 (.ref q12))) :: (wr11 ++ [(q12, .inl (cI, 40, .inl (fun _ => 0)))])) H := hP
  have hD : va_D A ((h0, .inr (8, fs11.set 17 (.ref q12))) :: (wr11 ++ [(q12, .inl (cI, 40, .inl (fun _ => 0)))])) := hD
  obtain ⟨fs12, ef12⟩ : ∃ z, z = fs11.set 17 (.ref q12) := ⟨_, rfl⟩
  have hfs : fs12.length = 47 := by rw [ef12, List.length_set]; exact hfs
  obtain ⟨wr12, ew12⟩ : ∃ z : va_W, z = wr11 ++ [(q12, .inl (cI, 40, .inl (fun _ => 0)))] := ⟨_, rfl⟩
  rw [← ef12, ← ew12] at hP hD
  rw [ef11] at ef12
  have ef12 : fs12 = [.int 0, .int 0, .ref q1, .ref q2, .ref q3, .int 0, .ref q4, .ref q5, .ref q6, .int 0, .ref q7, .ref q8, .int 0, .int 0, .ref q9, .ref q10, .ref q11, .ref q12, .null, .int 0, .int 0, .int 0, .int 0, .int 0, .null, .null, .null, .null, .null, .null, .null, .int 0, .null, .null, .null, .null, .int 0, .int 0, .null, .int 0, .null, .int 0, .null, .null, .null, .null, .null] := ef12
  rw [ew11] at ew12
  have ew12 : wr12 = [(q1, .inl (cI, 12, .inl (fun _ => 0))), (q2, .inl (cI, 12, .inl (fun _ => 0))), (q3, .inl (cI, 12, .inl (flF (fun _ => 0) (-1) 12))), (q4, .inl (cI, 16, .inl (fun _ => 0))), (q5, .inl (cI, 16, .inl (fun _ => 0))), (q6, .inl (cI, 16, .inl (fun _ => 0))), (q7, .inl (cI, 12, .inl (flF (fun _ => 0) 1 12))), (q8, .inl (cI, 12, .inl (fun _ => 0))), (q9, .inl (cI, 40, .inl (fun _ => 0))), (q10, .inl (cI, 40, .inl (fun _ => 0))), (q11, .inl (cI, 40, .inl (fun _ => 0))), (q12, .inl (cI, 40, .inl (fun _ => 0)))] := ew12
  clear ef11 ew11
  refine lv_aload_n hx hb dX8_init_208 rfl (lv_at hl 0 rfl) ?_
  refine lv_bipush (v := 120) hx hb dX8_init_209 (by decide) ?_
  refine va_newa (D := D) (atype := .byte) (ty := .byte) (N' := 120) (a0 := (120, .inl (fun _ => 0))) hx hb (hts _ ac_B) rfl hK hP hD hS hA (fun _ => rfl) (by decide) (by decide) (by decide) (Nat.le_of_ble_eq_true rfl) (Nat.le_of_ble_eq_true rfl) dX8_init_211 (fun q13 cB H hK hP hD hS => ?_)
  have hK : va_K D vwCl [(cI, .int), (cB, .byte)] s := hK.sub [0, 1] rfl
  have hP : va_P D vwCl ((h0, .inr (8, fs12)) :: (wr12 ++ [(q13, .inl (cB, 120, .inl (fun _ => 0)))])) H := hP
  have hD : va_D A ((h0, .inr (8, fs12)) :: (wr12 ++ [(q13, .inl (cB, 120, .inl (fun _ => 0)))])) := hD
  refine va_putF (D := D) (ci := 8) (v := .ref q13) (ty := .array .byte) (C := RX8) (T := TX8) (N := 47) hx hb hts (zlayi 8 (by decide)) tyX8 tyX8_ok nmX8 hown hK hP hD hS 0 rfl rfl 18 (by decide) (hts _ f8_46) (fun _ h9 => h9) rfl hin rfl (by decide +kernel) rfl rfl (by rw [hfs]; decide) dX8_init_213 (fun H locs hP hD hS => ?_)
  have hP : va_P D vwCl ((h0, .inr (8, fs12.set 18 (.ref q13))) :: (wr12 ++ [(q13, .inl (cB, 120, .inl (fun _ => 0)))])) H := hP
  have hD : va_D A ((h0, .inr (8, fs12.set 18 (.ref q13))) :: (wr12 ++ [(q13, .inl (cB, 120, .inl (fun _ => 0)))])) := hD
  obtain ⟨fs13, ef13⟩ : ∃ z, z = fs12.set 18 (.ref q13) := ⟨_, rfl⟩
  have hfs : fs13.length = 47 := by rw [ef13, List.length_set]; exact hfs
  obtain ⟨wr13, ew13⟩ : ∃ z : va_W, z = wr12 ++ [(q13, .inl (cB, 120, .inl (fun _ => 0)))] := ⟨_, rfl⟩
  rw [← ef13, ← ew13] at hP hD
  rw [ef12] at ef13
  have ef13 : fs13 = [.int 0, .int 0, .ref q1, .ref q2, .ref q3, .int 0, .ref q4, .ref q5, .ref q6, .int 0, .ref q7, .ref q8, .int 0, .int 0, .ref q9, .ref q10, .ref q11, .ref q12, .ref q13, .int 0, .int 0, .int 0, .int 0, .int 0, .null, .null, .null, .null, .null, .null, .null, .int 0, .null, .null, .null, .null, .int 0, .int 0, .null, .int 0, .null, .int 0, .null, .null, .null, .null, .null] := ef13
  rw [ew12] at ew13
  have ew13 : wr13 = [(q1, .inl (cI, 12, .inl (fun _ => 0))), (q2, .inl (cI, 12, .inl (fun _ => 0))), (q3, .inl (cI, 12, .inl (flF (fun _ => 0) (-1) 12))), (q4, .inl (cI, 16, .inl (fun _ => 0))), (q5, .inl (cI, 16, .inl (fun _ => 0))), (q6, .inl (cI, 16, .inl (fun _ => 0))), (q7, .inl (cI, 12, .inl (flF (fun _ => 0) 1 12))), (q8, .inl (cI, 12, .inl (fun _ => 0))), (q9, .inl (cI, 40, .inl (fun _ => 0))), (q10, .inl (cI, 40, .inl (fun _ => 0))), (q11, .inl (cI, 40, .inl (fun _ => 0))), (q12, .inl (cI, 40, .inl (fun _ => 0))), (q13, .inl (cB, 120, .inl (fun _ => 0)))] := ew13
  clear ef12 ew12
  refine lv_aload_n hx hb dX8_init_216 rfl (lv_at hl 0 rfl) ?_
  refine lv_sipush (v := 260) hx hb dX8_init_217 (by decide) ?_
  refine va_newa (D := D) (atype := .byte) (ty := .byte) (N' := 260) (a0 := (260, .inl (fun _ => 0))) hx hb (hts _ ac_B) rfl hK hP hD hS hA (fun _ => rfl) (by decide) (by decide) (by decide) (Nat.le_of_ble_eq_true rfl) (Nat.le_of_ble_eq_true rfl) dX8_init_220 (fun q14 cA H hK hP hD hS => ?_)
  obtain rfl : cB = cA := ka_uq (ty := .byte) rfl (hK.2 1 _ rfl).2 (hK.2 2 _ rfl).2
  have hK : va_K D vwCl [(cI, .int), (cB, .byte)] s := hK.sub [0, 1] rfl
  have hP : va_P D vwCl ((h0, .inr (8, fs13)) :: (wr13 ++ [(q14, .inl (cB, 260, .inl (fun _ => 0)))])) H := hP
  have hD : va_D A ((h0, .inr (8, fs13)) :: (wr13 ++ [(q14, .inl (cB, 260, .inl (fun _ => 0)))])) := hD
  refine va_putF (D := D) (ci := 8) (v := .ref q14) (ty := .array .byte) (C := RX8) (T := TX8) (N := 47) hx hb hts (zlayi 8 (by decide)) tyX8 tyX8_ok nmX8 hown hK hP hD hS 0 rfl rfl 24 (by decide) (hts _ f8_50) (fun _ h9 => h9) rfl hin rfl (by decide +kernel) rfl rfl (by rw [hfs]; decide) dX8_init_222 (fun H locs hP hD hS => ?_)
  have hP : va_P D vwCl ((h0, .inr (8, fs13.set 24 (.ref q14))) :: (wr13 ++ [(q14, .inl (cB, 260, .inl (fun _ => 0)))])) H := hP
  have hD : va_D A ((h0, .inr (8, fs13.set 24 (.ref q14))) :: (wr13 ++ [(q14, .inl (cB, 260, .inl (fun _ => 0)))])) := hD
  obtain ⟨fs14, ef14⟩ : ∃ z, z = fs13.set 24 (.ref q14) := ⟨_, rfl⟩
  have hfs : fs14.length = 47 := by rw [ef14, List.length_set]; exact hfs
  obtain ⟨wr14, ew14⟩ : ∃ z : va_W, z = wr13 ++ [(q14, .inl (cB, 260, .inl (fun _ => 0)))] := ⟨_, rfl⟩
  rw [← ef14, ← ew14] at hP hD
  rw [ef13] at ef14
  have ef14 : fs14 = [.int 0, .int 0, .ref q1, .ref q2, .ref q3, .int 0, .ref q4, .ref q5, .ref q6, .int 0, .ref q7, .ref q8, .int 0, .int 0, .ref q9, .ref q10, .ref q11, .ref q12, .ref q13, .int 0, .int 0, .int 0, .int 0, .int 0, .ref q14, .null, .null, .null, .null, .null, .null, .int 0, .null, .null, .null, .null, .int 0, .int 0, .null, .int 0, .null, .int 0, .null, .null, .null, .null, .null] := ef14
  rw [ew13] at ew14
  have ew14 : wr14 = [(q1, .inl (cI, 12, .inl (fun _ => 0))), (q2, .inl (cI, 12, .inl (fun _ => 0))), (q3, .inl (cI, 12, .inl (flF (fun _ => 0) (-1) 12))), (q4, .inl (cI, 16, .inl (fun _ => 0))), (q5, .inl (cI, 16, .inl (fun _ => 0))), (q6, .inl (cI, 16, .inl (fun _ => 0))), (q7, .inl (cI, 12, .inl (flF (fun _ => 0) 1 12))), (q8, .inl (cI, 12, .inl (fun _ => 0))), (q9, .inl (cI, 40, .inl (fun _ => 0))), (q10, .inl (cI, 40, .inl (fun _ => 0))), (q11, .inl (cI, 40, .inl (fun _ => 0))), (q12, .inl (cI, 40, .inl (fun _ => 0))), (q13, .inl (cB, 120, .inl (fun _ => 0))), (q14, .inl (cB, 260, .inl (fun _ => 0)))] := ew14
  clear ef13 ew13
  refine lv_aload_n hx hb dX8_init_225 rfl (lv_at hl 0 rfl) ?_
  refine lv_sipush (v := 260) hx hb dX8_init_226 (by decide) ?_
  refine va_newa (D := D) (atype := .int) (ty := .int) (N' := 260) (a0 := (260, .inl (fun _ => 0))) hx hb (hts _ ac_I) rfl hK hP hD hS hA (fun _ => rfl) (by decide) (by decide) (by decide) (Nat.le_of_ble_eq_true rfl) (Nat.le_of_ble_eq_true rfl) dX8_init_229 (fun q15 cA H hK hP hD hS => ?_)
  obtain rfl : cI = cA := ka_uq (ty := .int) rfl (hK.2 0 _ rfl).2 (hK.2 2 _ rfl).2
  have hK : va_K D vwCl [(cI, .int), (cB, .byte)] s := hK.sub [0, 1] rfl
  have hP : va_P D vwCl ((h0, .inr (8, fs14)) :: (wr14 ++ [(q15, .inl (cI, 260, .inl (fun _ => 0)))])) H := hP
  have hD : va_D A ((h0, .inr (8, fs14)) :: (wr14 ++ [(q15, .inl (cI, 260, .inl (fun _ => 0)))])) := hD
  refine va_putF (D := D) (ci := 8) (v := .ref q15) (ty := .array .int) (C := RX8) (T := TX8) (N := 47) hx hb hts (zlayi 8 (by decide)) tyX8 tyX8_ok nmX8 hown hK hP hD hS 0 rfl rfl 25 (by decide) (hts _ f8_53) (fun _ h9 => h9) rfl hin rfl (by decide +kernel) rfl rfl (by rw [hfs]; decide) dX8_init_231 (fun H locs hP hD hS => ?_)
  have hP : va_P D vwCl ((h0, .inr (8, fs14.set 25 (.ref q15))) :: (wr14 ++ [(q15, .inl (cI, 260, .inl (fun _ => 0)))])) H := hP
  have hD : va_D A ((h0, .inr (8, fs14.set 25 (.ref q15))) :: (wr14 ++ [(q15, .inl (cI, 260, .inl (fun _ => 0)))])) := hD
  obtain ⟨fs15, ef15⟩ : ∃ z, z = fs14.set 25 (.ref q15) := ⟨_, rfl⟩
  have hfs : fs15.length = 47 := by rw [ef15, List.length_set]; exact hfs
  obtain ⟨wr15, ew15⟩ : ∃ z : va_W, z = wr14 ++ [(q15, .inl (cI, 260, .inl (fun _ => 0)))] := ⟨_, rfl⟩
  rw [← ef15, ← ew15] at hP hD
  rw [ef14] at ef15
  have ef15 : fs15 = [.int 0, .int 0, .ref q1, .ref q2, .ref q3, .int 0, .ref q4, .ref q5, .ref q6, .int 0, .ref q7, .ref q8, .int 0, .int 0, .ref q9, .ref q10, .ref q11, .ref q12, .ref q13, .int 0, .int 0, .int 0, .int 0, .int 0, .ref q14, .ref q15, .null, .null, .null, .null, .null, .int 0, .null, .null, .null, .null, .int 0, .int 0, .null, .int 0, .null, .int 0, .null, .null, .null, .null, .null] := ef15
  rw [ew14] at ew15
  have ew15 : wr15 = [(q1, .inl (cI, 12, .inl (fun _ => 0))), (q2, .inl (cI, 12, .inl (fun _ => 0))), (q3, .inl (cI, 12, .inl (flF (fun _ => 0) (-1) 12))), (q4, .inl (cI, 16, .inl (fun _ => 0))), (q5, .inl (cI, 16, .inl (fun _ => 0))), (q6, .inl (cI, 16, .inl (fun _ => 0))), (q7, .inl (cI, 12, .inl (flF (fun _ => 0) 1 12))), (q8, .inl (cI, 12, .inl (fun _ => 0))), (q9, .inl (cI, 40, .inl (fun _ => 0))), (q10, .inl (cI, 40, .inl (fun _ => 0))), (q11, .inl (cI, 40, .inl (fun _ => 0))), (q12, .inl (cI, 40, .inl (fun _ => 0))), (q13, .inl (cB, 120, .inl (fun _ => 0))), (q14, .inl (cB, 260, .inl (fun _ => 0))), (q15, .inl (cI, 260, .inl (fun _ => 0)))] := ew15
  clear ef14 ew14
  refine lv_aload_n hx hb dX8_init_234 rfl (lv_at hl 0 rfl) ?_
  refine lv_iconst (v := 2) hx hb dX8_init_235 (by decide) ?_
  refine va_newa (D := D) (atype := .int) (ty := .int) (N' := 2) (a0 := (2, .inl (fun _ => 0))) hx hb (hts _ ac_I) rfl hK hP hD hS hA (fun _ => rfl) (by decide) (by decide) (by decide) (Nat.le_of_ble_eq_true rfl) (Nat.le_of_ble_eq_true rfl) dX8_init_236 (fun q16 cA H hK hP hD hS => ?_)
  obtain rfl : cI = cA := ka_uq (ty := .int) rfl (hK.2 0 _ rfl).2 (hK.2 2 _ rfl).2
  have hK : va_K D vwCl [(cI, .int), (cB, .byte)] s := hK.sub [0, 1] rfl
  have hP : va_P D vwCl ((h0, .inr (8, fs15)) :: (wr15 ++ [(q16, .inl (cI, 2, .inl (fun _ => 0)))])) H := hP
  have hD : va_D A ((h0, .inr (8, fs15)) :: (wr15 ++ [(q16, .inl (cI, 2, .inl (fun _ => 0)))])) := hD
  refine va_putF (D := D) (ci := 8) (v := .ref q16) (ty := .array .int) (C := RX8) (T := TX8) (N := 47) hx hb hts (zlayi 8 (by decide)) tyX8 tyX8_ok nmX8 hown hK hP hD hS 0 rfl rfl 26 (by decide) (hts _ f8_56) (fun _ h9 => h9) rfl hin rfl (by decide +kernel) rfl rfl (by rw [hfs]; decide) dX8_init_238 (fun H locs hP hD hS => ?_)
  have hP : va_P D vwCl ((h0, .inr (8, fs15.set 26 (.ref q16))) :: (wr15 ++ [(q16, .inl (cI, 2, .inl (fun _ => 0)))])) H := hP
  have hD : va_D A ((h0, .inr (8, fs15.set 26 (.ref q16))) :: (wr15 ++ [(q16, .inl (cI, 2, .inl (fun _ => 0)))])) := hD
  obtain ⟨fs16, ef16⟩ : ∃ z, z = fs15.set 26 (.ref q16) := ⟨_, rfl⟩
  have hfs : fs16.length = 47 := by rw [ef16, List.length_set]; exact hfs
  obtain ⟨wr16, ew16⟩ : ∃ z : va_W, z = wr15 ++ [(q16, .inl (cI, 2, .inl (fun _ => 0)))] := ⟨_, rfl⟩
  rw [← ef16, ← ew16] at hP hD
  rw [ef15] at ef16
  have ef16 : fs16 = [.int 0, .int 0, .ref q1, .ref q2, .ref q3, .int 0, .ref q4, .ref q5, .ref q6, .int 0, .ref q7, .ref q8, .int 0, .int 0, .ref q9, .ref q10, .ref q11, .ref q12, .ref q13, .int 0, .int 0, .int 0, .int 0, .int 0, .ref q14, .ref q15, .ref q16, .null, .null, .null, .null, .int 0, .null, .null, .null, .null, .int 0, .int 0, .null, .int 0, .null, .int 0, .null, .null, .null, .null, .null] := ef16
  rw [ew15] at ew16
  have ew16 : wr16 = [(q1, .inl (cI, 12, .inl (fun _ => 0))), (q2, .inl (cI, 12, .inl (fun _ => 0))), (q3, .inl (cI, 12, .inl (flF (fun _ => 0) (-1) 12))), (q4, .inl (cI, 16, .inl (fun _ => 0))), (q5, .inl (cI, 16, .inl (fun _ => 0))), (q6, .inl (cI, 16, .inl (fun _ => 0))), (q7, .inl (cI, 12, .inl (flF (fun _ => 0) 1 12))), (q8, .inl (cI, 12, .inl (fun _ => 0))), (q9, .inl (cI, 40, .inl (fun _ => 0))), (q10, .inl (cI, 40, .inl (fun _ => 0))), (q11, .inl (cI, 40, .inl (fun _ => 0))), (q12, .inl (cI, 40, .inl (fun _ => 0))), (q13, .inl (cB, 120, .inl (fun _ => 0))), (q14, .inl (cB, 260, .inl (fun _ => 0))), (q15, .inl (cI, 260, .inl (fun _ => 0))), (q16, .inl (cI, 2, .inl (fun _ => 0)))] := ew16
  clear ef15 ew15
  refine lv_aload_n hx hb dX8_init_241 rfl (lv_at hl 0 rfl) ?_
  refine lv_bipush (v := 122) hx hb dX8_init_242 (by decide) ?_
  refine va_newa (D := D) (atype := .short) (ty := .short) (N' := 122) (a0 := (122, .inl (fun _ => 0))) hx hb (hts _ ac_S) rfl hK hP hD hS hA (fun _ => rfl) (by decide) (by decide) (by decide) (Nat.le_of_ble_eq_true rfl) (Nat.le_of_ble_eq_true rfl) dX8_init_244 (fun q17 cS H hK hP hD hS => ?_)
  have hK : va_K D vwCl [(cI, .int), (cB, .byte), (cS, .short)] s := hK.sub [0, 1, 2] rfl
  have hP : va_P D vwCl ((h0, .inr (8, fs16)) :: (wr16 ++ [(q17, .inl (cS, 122, .inl (fun _ => 0)))])) H := hP
  have hD : va_D A ((h0, .inr (8, fs16)) :: (wr16 ++ [(q17, .inl (cS, 122, .inl (fun _ => 0)))])) := hD
  refine va_putF (D := D) (ci := 8) (v := .ref q17) (ty := .array .short) (C := RX8) (T := TX8) (N := 47) hx hb hts (zlayi 8 (by decide)) tyX8 tyX8_ok nmX8 hown hK hP hD hS 0 rfl rfl 27 (by decide) (hts _ f8_59) (fun _ h9 => h9) rfl hin rfl (by decide +kernel) rfl rfl (by rw [hfs]; decide) dX8_init_246 (fun H locs hP hD hS => ?_)
  have hP : va_P D vwCl ((h0, .inr (8, fs16.set 27 (.ref q17))) :: (wr16 ++ [(q17, .inl (cS, 122, .inl (fun _ => 0)))])) H := hP
  have hD : va_D A ((h0, .inr (8, fs16.set 27 (.ref q17))) :: (wr16 ++ [(q17, .inl (cS, 122, .inl (fun _ => 0)))])) := hD
  obtain ⟨fs17, ef17⟩ : ∃ z, z = fs16.set 27 (.ref q17) := ⟨_, rfl⟩
  have hfs : fs17.length = 47 := by rw [ef17, List.length_set]; exact hfs
  obtain ⟨wr17, ew17⟩ : ∃ z : va_W, z = wr16 ++ [(q17, .inl (cS, 122, .inl (fun _ => 0)))] := ⟨_, rfl⟩
  rw [← ef17, ← ew17] at hP hD
  rw [ef16] at ef17
  have ef17 : fs17 = [.int 0, .int 0, .ref q1, .ref q2, .ref q3, .int 0, .ref q4, .ref q5, .ref q6, .int 0, .ref q7, .ref q8, .int 0, .int 0, .ref q9, .ref q10, .ref q11, .ref q12, .ref q13, .int 0, .int 0, .int 0, .int 0, .int 0, .ref q14, .ref q15, .ref q16, .ref q17, .null, .null, .null, .int 0, .null, .null, .null, .null, .int 0, .int 0, .null, .int 0, .null, .int 0, .null, .null, .null, .null, .null] := ef17
  rw [ew16] at ew17
  have ew17 : wr17 = [(q1, .inl (cI, 12, .inl (fun _ => 0))), (q2, .inl (cI, 12, .inl (fun _ => 0))), (q3, .inl (cI, 12, .inl (flF (fun _ => 0) (-1) 12))), (q4, .inl (cI, 16, .inl (fun _ => 0))), (q5, .inl (cI, 16, .inl (fun _ => 0))), (q6, .inl (cI, 16, .inl (fun _ => 0))), (q7, .inl (cI, 12, .inl (flF (fun _ => 0) 1 12))), (q8, .inl (cI, 12, .inl (fun _ => 0))), (q9, .inl (cI, 40, .inl (fun _ => 0))), (q10, .inl (cI, 40, .inl (fun _ => 0))), (q11, .inl (cI, 40, .inl (fun _ => 0))), (q12, .inl (cI, 40, .inl (fun _ => 0))), (q13, .inl (cB, 120, .inl (fun _ => 0))), (q14, .inl (cB, 260, .inl (fun _ => 0))), (q15, .inl (cI, 260, .inl (fun _ => 0))), (q16, .inl (cI, 2, .inl (fun _ => 0))), (q17, .inl (cS, 122, .inl (fun _ => 0)))] := ew17
  clear ef16 ew16
  refine lv_aload_n hx hb dX8_init_249 rfl (lv_at hl 0 rfl) ?_
  refine lv_bipush (v := 122) hx hb dX8_init_250 (by decide) ?_
  refine va_newa (D := D) (atype := .short) (ty := .short) (N' := 122) (a0 := (122, .inl (fun _ => 0))) hx hb (hts _ ac_S) rfl hK hP hD hS hA (fun _ => rfl) (by decide) (by decide) (by decide) (Nat.le_of_ble_eq_true rfl) (Nat.le_of_ble_eq_true rfl) dX8_init_252 (fun q18 cA H hK hP hD hS => ?_)
  obtain rfl : cS = cA := ka_uq (ty := .short) rfl (hK.2 2 _ rfl).2 (hK.2 3 _ rfl).2
  have hK : va_K D vwCl [(cI, .int), (cB, .byte), (cS, .short)] s := hK.sub [0, 1, 2] rfl
  have hP : va_P D vwCl ((h0, .inr (8, fs17)) :: (wr17 ++ [(q18, .inl (cS, 122, .inl (fun _ => 0)))])) H := hP
  have hD : va_D A ((h0, .inr (8, fs17)) :: (wr17 ++ [(q18, .inl (cS, 122, .inl (fun _ => 0)))])) := hD
  refine va_putF (D := D) (ci := 8) (v := .ref q18) (ty := .array .short) (C := RX8) (T := TX8) (N := 47) hx hb hts (zlayi 8 (by decide)) tyX8 tyX8_ok nmX8 hown hK hP hD hS 0 rfl rfl 28 (by decide) (hts _ f8_63) (fun _ h9 => h9) rfl hin rfl (by decide +kernel) rfl rfl (by rw [hfs]; decide) dX8_init_254 (fun H locs hP hD hS => ?_)
  have hP : va_P D vwCl ((h0, .inr (8, fs17.set 28 (.ref q18))) :: (wr17 ++ [(q18, .inl (cS, 122, .inl (fun _ => 0)))])) H := hP
  have hD : va_D A ((h0, .inr (8, fs17.set 28 (.ref q18))) :: (wr17 ++ [(q18, .inl (cS, 122, .inl (fun _ => 0)))])) := hD
  obtain ⟨fs18, ef18⟩ : ∃ z, z = fs17.set 28 (.ref q18) := ⟨_, rfl⟩
  have hfs : fs18.length = 47 := by rw [ef18, List.length_set]; exact hfs
  obtain ⟨wr18, ew18⟩ : ∃ z : va_W, z = wr17 ++ [(q18, .inl (cS, 122, .inl (fun _ => 0)))] := ⟨_, rfl⟩
  rw [← ef18, ← ew18] at hP hD
  rw [ef17] at ef18
  have ef18 : fs18 = [.int 0, .int 0, .ref q1, .ref q2, .ref q3, .int 0, .ref q4, .ref q5, .ref q6, .int 0, .ref q7, .ref q8, .int 0, .int 0, .ref q9, .ref q10, .ref q11, .ref q12, .ref q13, .int 0, .int 0, .int 0, .int 0, .int 0, .ref q14, .ref q15, .ref q16, .ref q17, .ref q18, .null, .null, .int 0, .null, .null, .null, .null, .int 0, .int 0, .null, .int 0, .null, .int 0, .null, .null, .null, .null, .null] := ef18
  rw [ew17] at ew18
  have ew18 : wr18 = [(q1, .inl (cI, 12, .inl (fun _ => 0))), (q2, .inl (cI, 12, .inl (fun _ => 0))), (q3, .inl (cI, 12, .inl (flF (fun _ => 0) (-1) 12))), (q4, .inl (cI, 16, .inl (fun _ => 0))), (q5, .inl (cI, 16, .inl (fun _ => 0))), (q6, .inl (cI, 16, .inl (fun _ => 0))), (q7, .inl (cI, 12, .inl (flF (fun _ => 0) 1 12))), (q8, .inl (cI, 12, .inl (fun _ => 0))), (q9, .inl (cI, 40, .inl (fun _ => 0))), (q10, .inl (cI, 40, .inl (fun _ => 0))), (q11, .inl (cI, 40, .inl (fun _ => 0))), (q12, .inl (cI, 40, .inl (fun _ => 0))), (q13, .inl (cB, 120, .inl (fun _ => 0))), (q14, .inl (cB, 260, .inl (fun _ => 0))), (q15, .inl (cI, 260, .inl (fun _ => 0))), (q16, .inl (cI, 2, .inl (fun _ => 0))), (q17, .inl (cS, 122, .inl (fun _ => 0))), (q18, .inl (cS, 122, .inl (fun _ => 0)))] := ew18
  clear ef17 ew17
  refine lv_aload_n hx hb dX8_init_257 rfl (lv_at hl 0 rfl) ?_
  refine lv_bipush (v := 6) hx hb dX8_init_258 (by decide) ?_
  refine va_newa (D := D) (atype := .int) (ty := .int) (N' := 6) (a0 := (6, .inl (fun _ => 0))) hx hb (hts _ ac_I) rfl hK hP hD hS hA (fun _ => rfl) (by decide) (by decide) (by decide) (Nat.le_of_ble_eq_true rfl) (Nat.le_of_ble_eq_true rfl) dX8_init_260 (fun q19 cA H hK hP hD hS => ?_)
  obtain rfl : cI = cA := ka_uq (ty := .int) rfl (hK.2 0 _ rfl).2 (hK.2 3 _ rfl).2
  have hK : va_K D vwCl [(cI, .int), (cB, .byte), (cS, .short)] s := hK.sub [0, 1, 2] rfl
  have hP : va_P D vwCl ((h0, .inr (8, fs18)) :: (wr18 ++ [(q19, .inl (cI, 6, .inl (fun _ => 0)))])) H := hP
  have hD : va_D A ((h0, .inr (8, fs18)) :: (wr18 ++ [(q19, .inl (cI, 6, .inl (fun _ => 0)))])) := hD
  refine va_putF (D := D) (ci := 8) (v := .ref q19) (ty := .array .int) (C := RX8) (T := TX8) (N := 47) hx hb hts (zlayi 8 (by decide)) tyX8 tyX8_ok nmX8 hown hK hP hD hS 0 rfl rfl 29 (by decide) (hts _ f8_66) (fun _ h9 => h9) rfl hin rfl (by decide +kernel) rfl rfl (by rw [hfs]; decide) dX8_init_262 (fun H locs hP hD hS => ?_)
  have hP : va_P D vwCl ((h0, .inr (8, fs18.set 29 (.ref q19))) :: (wr18 ++ [(q19, .inl (cI, 6, .inl (fun _ => 0)))])) H := hP
  have hD : va_D A ((h0, .inr (8, fs18.set 29 (.ref q19))) :: (wr18 ++ [(q19, .inl (cI, 6, .inl (fun _ => 0)))])) := hD
  obtain ⟨fs19, ef19⟩ : ∃ z, z = fs18.set 29 (.ref q19) := ⟨_, rfl⟩
  have hfs : fs19.length = 47 := by rw [ef19, List.length_set]; exact hfs
  obtain ⟨wr19, ew19⟩ : ∃ z : va_W, z = wr18 ++ [(q19, .inl (cI, 6, .inl (fun _ => 0)))] := ⟨_, rfl⟩
  rw [← ef19, ← ew19] at hP hD
  rw [ef18] at ef19
  have ef19 : fs19 = [.int 0, .int 0, .ref q1, .ref q2, .ref q3, .int 0, .ref q4, .ref q5, .ref q6, .int 0, .ref q7, .ref q8, .int 0, .int 0, .ref q9, .ref q10, .ref q11, .ref q12, .ref q13, .int 0, .int 0, .int 0, .int 0, .int 0, .ref q14, .ref q15, .ref q16, .ref q17, .ref q18, .ref q19, .null, .int 0, .null, .null, .null, .null, .int 0, .int 0, .null, .int 0, .null, .int 0, .null, .null, .null, .null, .null] := ef19
  rw [ew18] at ew19
  have ew19 : wr19 = [(q1, .inl (cI, 12, .inl (fun _ => 0))), (q2, .inl (cI, 12, .inl (fun _ => 0))), (q3, .inl (cI, 12, .inl (flF (fun _ => 0) (-1) 12))), (q4, .inl (cI, 16, .inl (fun _ => 0))), (q5, .inl (cI, 16, .inl (fun _ => 0))), (q6, .inl (cI, 16, .inl (fun _ => 0))), (q7, .inl (cI, 12, .inl (flF (fun _ => 0) 1 12))), (q8, .inl (cI, 12, .inl (fun _ => 0))), (q9, .inl (cI, 40, .inl (fun _ => 0))), (q10, .inl (cI, 40, .inl (fun _ => 0))), (q11, .inl (cI, 40, .inl (fun _ => 0))), (q12, .inl (cI, 40, .inl (fun _ => 0))), (q13, .inl (cB, 120, .inl (fun _ => 0))), (q14, .inl (cB, 260, .inl (fun _ => 0))), (q15, .inl (cI, 260, .inl (fun _ => 0))), (q16, .inl (cI, 2, .inl (fun _ => 0))), (q17, .inl (cS, 122, .inl (fun _ => 0))), (q18, .inl (cS, 122, .inl (fun _ => 0))), (q19, .inl (cI, 6, .inl (fun _ => 0)))] := ew19
  clear ef18 ew18
  refine lv_aload_n hx hb dX8_init_265 rfl (lv_at hl 0 rfl) ?_
  refine lv_sipush (v := 130) hx hb dX8_init_266 (by decide) ?_
  refine va_newa (D := D) (atype := .int) (ty := .int) (N' := 130) (a0 := (130, .inl (fun _ => 0))) hx hb (hts _ ac_I) rfl hK hP hD hS hA (fun _ => rfl) (by decide) (by decide) (by decide) (Nat.le_of_ble_eq_true rfl) (Nat.le_of_ble_eq_true rfl) dX8_init_269 (fun q20 cA H hK hP hD hS => ?_)
  obtain rfl : cI = cA := ka_uq (ty := .int) rfl (hK.2 0 _ rfl).2 (hK.2 3 _ rfl).2
  have hK : va_K D vwCl [(cI, .int), (cB, .byte), (cS, .short)] s := hK.sub [0, 1, 2] rfl
  have hP : va_P D vwCl ((h0, .inr (8, fs19)) :: (wr19 ++ [(q20, .inl (cI, 130, .inl (fun _ => 0)))])) H := hP
  have hD : va_D A ((h0, .inr (8, fs19)) :: (wr19 ++ [(q20, .inl (cI, 130, .inl (fun _ => 0)))])) := hD
  refine va_putF (D := D) (ci := 8) (v := .ref q20) (ty := .array .int) (C := RX8) (T := TX8) (N := 47) hx hb hts (zlayi 8 (by decide)) tyX8 tyX8_ok nmX8 hown hK hP hD hS 0 rfl rfl 30 (by decide) (hts _ f8_69) (fun _ h9 => h9) rfl hin rfl (by decide +kernel) rfl rfl (by rw [hfs]; decide) dX8_init_271 (fun H locs hP hD hS => ?_)
  have hP : va_P D vwCl ((h0, .inr (8, fs19.set 30 (.ref q20))) :: (wr19 ++ [(q20, .inl (cI, 130, .inl (fun _ => 0)))])) H := hP
  have hD : va_D A ((h0, .inr (8, fs19.set 30 (.ref q20))) :: (wr19 ++ [(q20, .inl (cI, 130, .inl (fun _ => 0)))])) := hD
  obtain ⟨fs20, ef20⟩ : ∃ z, z = fs19.set 30 (.ref q20) := ⟨_, rfl⟩
  have hfs : fs20.length = 47 := by rw [ef20, List.length_set]; exact hfs
  obtain ⟨wr20, ew20⟩ : ∃ z : va_W, z = wr19 ++ [(q20, .inl (cI, 130, .inl (fun _ => 0)))] := ⟨_, rfl⟩
  rw [← ef20, ← ew20] at hP hD
  rw [ef19] at ef20
  have ef20 : fs20 = [.int 0, .int 0, .ref q1, .ref q2, .ref q3, .int 0, .ref q4, .ref q5, .ref q6, .int 0, .ref q7, .ref q8, .int 0, .int 0, .ref q9, .ref q10, .ref q11, .ref q12, .ref q13, .int 0, .int 0, .int 0, .int 0, .int 0, .ref q14, .ref q15, .ref q16, .ref q17, .ref q18, .ref q19, .ref q20, .int 0, .null, .null, .null, .null, .int 0, .int 0, .null, .int 0, .null, .int 0, .null, .null, .null, .null, .null] := ef20
  rw [ew19] at ew20
  have ew20 : wr20 = [(q1, .inl (cI, 12, .inl (fun _ => 0))), (q2, .inl (cI, 12, .inl (fun _ => 0))), (q3, .inl (cI, 12, .inl (flF (fun _ => 0) (-1) 12))), (q4, .inl (cI, 16, .inl (fun _ => 0))), (q5, .inl (cI, 16, .inl (fun _ => 0))), (q6, .inl (cI, 16, .inl (fun _ => 0))), (q7, .inl (cI, 12, .inl (flF (fun _ => 0) 1 12))), (q8, .inl (cI, 12, .inl (fun _ => 0))), (q9, .inl (cI, 40, .inl (fun _ => 0))), (q10, .inl (cI, 40, .inl (fun _ => 0))), (q11, .inl (cI, 40, .inl (fun _ => 0))), (q12, .inl (cI, 40, .inl (fun _ => 0))), (q13, .inl (cB, 120, .inl (fun _ => 0))), (q14, .inl (cB, 260, .inl (fun _ => 0))), (q15, .inl (cI, 260, .inl (fun _ => 0))), (q16, .inl (cI, 2, .inl (fun _ => 0))), (q17, .inl (cS, 122, .inl (fun _ => 0))), (q18, .inl (cS, 122, .inl (fun _ => 0))), (q19, .inl (cI, 6, .inl (fun _ => 0))), (q20, .inl (cI, 130, .inl (fun _ => 0)))] := ew20
  clear ef19 ew19
  refine lv_aload_n hx hb dX8_init_274 rfl (lv_at hl 0 rfl) ?_
  refine lv_bipush (v := 12) hx hb dX8_init_275 (by decide) ?_
  refine va_newa (D := D) (atype := .int) (ty := .int) (N' := 12) (a0 := (12, .inl (fun _ => 0))) hx hb (hts _ ac_I) rfl hK hP hD hS hA (fun _ => rfl) (by decide) (by decide) (by decide) (Nat.le_of_ble_eq_true rfl) (Nat.le_of_ble_eq_true rfl) dX8_init_277 (fun q21 cA H hK hP hD hS => ?_)
  obtain rfl : cI = cA := ka_uq (ty := .int) rfl (hK.2 0 _ rfl).2 (hK.2 3 _ rfl).2
  have hK : va_K D vwCl [(cI, .int), (cB, .byte), (cS, .short)] s := hK.sub [0, 1, 2] rfl
  have hP : va_P D vwCl ((h0, .inr (8, fs20)) :: (wr20 ++ [(q21, .inl (cI, 12, .inl (fun _ => 0)))])) H := hP
  have hD : va_D A ((h0, .inr (8, fs20)) :: (wr20 ++ [(q21, .inl (cI, 12, .inl (fun _ => 0)))])) := hD
  refine va_putF (D := D) (ci := 8) (v := .ref q21) (ty := .array .int) (C := RX8) (T := TX8) (N := 47) hx hb hts (zlayi 8 (by decide)) tyX8 tyX8_ok nmX8 hown hK hP hD hS 0 rfl rfl 32 (by decide) (hts _ f8_72) (fun _ h9 => h9) rfl hin rfl (by decide +kernel) rfl rfl (by rw [hfs]; decide) dX8_init_279 (fun H locs hP hD hS => ?_)
  have hP : va_P D vwCl ((h0, .inr (8, fs20.set 32 (.ref q21))) :: (wr20 ++ [(q21, .inl (cI, 12, .inl (fun _ => 0)))])) H := hP
  have hD : va_D A ((h0, .inr (8, fs20.set 32 (.ref q21))) :: (wr20 ++ [(q21, .inl (cI, 12, .inl (fun _ => 0)))])) := hD
  obtain ⟨fs21, ef21⟩ : ∃ z, z = fs20.set 32 (.ref q21) := ⟨_, rfl⟩
  have hfs : fs21.length = 47 := by rw [ef21, List.length_set]; exact hfs
  obtain ⟨wr21, ew21⟩ : ∃ z : va_W, z = wr20 ++ [(q21, .inl (cI, 12, .inl (fun _ => 0)))] := ⟨_, rfl⟩
  rw [← ef21, ← ew21] at hP hD
  rw [ef20] at ef21
  have ef21 : fs21 = [.int 0, .int 0, .ref q1, .ref q2, .ref q3, .int 0, .ref q4, .ref q5, .ref q6, .int 0, .ref q7, .ref q8, .int 0, .int 0, .ref q9, .ref q10, .ref q11, .ref q12, .ref q13, .int 0, .int 0, .int 0, .int 0, .int 0, .ref q14, .ref q15, .ref q16, .ref q17, .ref q18, .ref q19, .ref q20, .int 0, .ref q21, .null, .null, .null, .int 0, .int 0, .null, .int 0, .null, .int 0, .null, .null, .null, .null, .null] := ef21
  rw [ew20] at ew21
  have ew21 : wr21 = [(q1, .inl (cI, 12, .inl (fun _ => 0))), (q2, .inl (cI, 12, .inl (fun _ => 0))), (q3, .inl (cI, 12, .inl (flF (fun _ => 0) (-1) 12))), (q4, .inl (cI, 16, .inl (fun _ => 0))), (q5, .inl (cI, 16, .inl (fun _ => 0))), (q6, .inl (cI, 16, .inl (fun _ => 0))), (q7, .inl (cI, 12, .inl (flF (fun _ => 0) 1 12))), (q8, .inl (cI, 12, .inl (fun _ => 0))), (q9, .inl (cI, 40, .inl (fun _ => 0))), (q10, .inl (cI, 40, .inl (fun _ => 0))), (q11, .inl (cI, 40, .inl (fun _ => 0))), (q12, .inl (cI, 40, .inl (fun _ => 0))), (q13, .inl (cB, 120, .inl (fun _ => 0))), (q14, .inl (cB, 260, .inl (fun _ => 0))), (q15, .inl (cI, 260, .inl (fun _ => 0))), (q16, .inl (cI, 2, .inl (fun _ => 0))), (q17, .inl (cS, 122, .inl (fun _ => 0))), (q18, .inl (cS, 122, .inl (fun _ => 0))), (q19, .inl (cI, 6, .inl (fun _ => 0))), (q20, .inl (cI, 130, .inl (fun _ => 0))), (q21, .inl (cI, 12, .inl (fun _ => 0)))] := ew21
  clear ef20 ew20
  refine lv_aload_n hx hb dX8_init_282 rfl (lv_at hl 0 rfl) ?_
  refine lv_bipush (v := 16) hx hb dX8_init_283 (by decide) ?_
  refine va_newa (D := D) (atype := .boolean) (ty := .boolean) (N' := 16) (a0 := (16, .inl (fun _ => 0))) hx hb (hts _ ac_Z) rfl hK hP hD hS hA (fun _ => rfl) (by decide) (by decide) (by decide) (Nat.le_of_ble_eq_true rfl) (Nat.le_of_ble_eq_true rfl) dX8_init_285 (fun q22 cZ H hK hP hD hS => ?_)
  have hK : va_K D vwCl [(cI, .int), (cB, .byte), (cS, .short), (cZ, .boolean)] s := hK.sub [0, 1, 2, 3] rfl
  have hP : va_P D vwCl ((h0, .inr (8, fs21)) :: (wr21 ++ [(q22, .inl (cZ, 16, .inl (fun _ => 0)))])) H := hP
  have hD : va_D A ((h0, .inr (8, fs21)) :: (wr21 ++ [(q22, .inl (cZ, 16, .inl (fun _ => 0)))])) := hD
  refine va_putF (D := D) (ci := 8) (v := .ref q22) (ty := .array .boolean) (C := RX8) (T := TX8) (N := 47) hx hb hts (zlayi 8 (by decide)) tyX8 tyX8_ok nmX8 hown hK hP hD hS 0 rfl rfl 33 (by decide) (hts _ f8_75) (fun _ h9 => h9) rfl hin rfl (by decide +kernel) rfl rfl (by rw [hfs]; decide) dX8_init_287 (fun H locs hP hD hS => ?_)
  have hP : va_P D vwCl ((h0, .inr (8, fs21.set 33 (.ref q22))) :: (wr21 ++ [(q22, .inl (cZ, 16, .inl (fun _ => 0)))])) H := hP
  have hD : va_D A ((h0, .inr (8, fs21.set 33 (.ref q22))) :: (wr21 ++ [(q22, .inl (cZ, 16, .inl (fun _ => 0)))])) := hD
  obtain ⟨fs22, ef22⟩ : ∃ z, z = fs21.set 33 (.ref q22) := ⟨_, rfl⟩
  have hfs : fs22.length = 47 := by rw [ef22, List.length_set]; exact hfs
  obtain ⟨wr22, ew22⟩ : ∃ z : va_W, z = wr21 ++ [(q22, .inl (cZ, 16, .inl (fun _ => 0)))] := ⟨_, rfl⟩
  rw [← ef22, ← ew22] at hP hD
  rw [ef21] at ef22
  have ef22 : fs22 = [.int 0, .int 0, .ref q1, .ref q2, .ref q3, .int 0, .ref q4, .ref q5, .ref q6, .int 0, .ref q7, .ref q8, .int 0, .int 0, .ref q9, .ref q10, .ref q11, .ref q12, .ref q13, .int 0, .int 0, .int 0, .int 0, .int 0, .ref q14, .ref q15, .ref q16, .ref q17, .ref q18, .ref q19, .ref q20, .int 0, .ref q21, .ref q22, .null, .null, .int 0, .int 0, .null, .int 0, .null, .int 0, .null, .null, .null, .null, .null] := ef22
  rw [ew21] at ew22
  have ew22 : wr22 = [(q1, .inl (cI, 12, .inl (fun _ => 0))), (q2, .inl (cI, 12, .inl (fun _ => 0))), (q3, .inl (cI, 12, .inl (flF (fun _ => 0) (-1) 12))), (q4, .inl (cI, 16, .inl (fun _ => 0))), (q5, .inl (cI, 16, .inl (fun _ => 0))), (q6, .inl (cI, 16, .inl (fun _ => 0))), (q7, .inl (cI, 12, .inl (flF (fun _ => 0) 1 12))), (q8, .inl (cI, 12, .inl (fun _ => 0))), (q9, .inl (cI, 40, .inl (fun _ => 0))), (q10, .inl (cI, 40, .inl (fun _ => 0))), (q11, .inl (cI, 40, .inl (fun _ => 0))), (q12, .inl (cI, 40, .inl (fun _ => 0))), (q13, .inl (cB, 120, .inl (fun _ => 0))), (q14, .inl (cB, 260, .inl (fun _ => 0))), (q15, .inl (cI, 260, .inl (fun _ => 0))), (q16, .inl (cI, 2, .inl (fun _ => 0))), (q17, .inl (cS, 122, .inl (fun _ => 0))), (q18, .inl (cS, 122, .inl (fun _ => 0))), (q19, .inl (cI, 6, .inl (fun _ => 0))), (q20, .inl (cI, 130, .inl (fun _ => 0))), (q21, .inl (cI, 12, .inl (fun _ => 0))), (q22, .inl (cZ, 16, .inl (fun _ => 0)))] := ew22
  clear ef21 ew21
  refine lv_aload_n hx hb dX8_init_290 rfl (lv_at hl 0 rfl) ?_
  refine lv_bipush (v := 12) hx hb dX8_init_291 (by decide) ?_
  refine va_newa (D := D) (atype := .int) (ty := .int) (N' := 12) (a0 := (12, .inl (fun _ => 0))) hx hb (hts _ ac_I) rfl hK hP hD hS hA (fun _ => rfl) (by decide) (by decide) (by decide) (Nat.le_of_ble_eq_true rfl) (Nat.le_of_ble_eq_true rfl) dX8_init_293 (fun q23 cA H hK hP hD hS => ?_)
  obtain rfl : cI = cA := ka_uq (ty := .int) rfl (hK.2 0 _ rfl).2 (hK.2 4 _ rfl).2
  have hK : va_K D vwCl [(cI, .int), (cB, .byte), (cS, .short), (cZ, .boolean)] s := hK.sub [0, 1, 2, 3] rfl
  have hP : va_P D vwCl ((h0, .inr (8, fs22)) :: (wr22 ++ [(q23, .inl (cI, 12, .inl (fun _ => 0)))])) H := hP
  have hD : va_D A ((h0, .inr (8, fs22)) :: (wr22 ++ [(q23, .inl (cI, 12, .inl (fun _ => 0)))])) := hD
  refine va_putF (D := D) (ci := 8) (v := .ref q23) (ty := .array .int) (C := RX8) (T := TX8) (N := 47) hx hb hts (zlayi 8 (by decide)) tyX8 tyX8_ok nmX8 hown hK hP hD hS 0 rfl rfl 34 (by decide) (hts _ f8_79) (fun _ h9 => h9) rfl hin rfl (by decide +kernel) rfl rfl (by rw [hfs]; decide) dX8_init_295 (fun H locs hP hD hS => ?_)
  have hP : va_P D vwCl ((h0, .inr (8, fs22.set 34 (.ref q23))) :: (wr22 ++ [(q23, .inl (cI, 12, .inl (fun _ => 0)))])) H := hP
  have hD : va_D A ((h0, .inr (8, fs22.set 34 (.ref q23))) :: (wr22 ++ [(q23, .inl (cI, 12, .inl (fun _ => 0)))])) := hD
  obtain ⟨fs23, ef23⟩ : ∃ z, z = fs22.set 34 (.ref q23) := ⟨_, rfl⟩
  have hfs : fs23.length = 47 := by rw [ef23, List.length_set]; exact hfs
  obtain ⟨wr23, ew23⟩ : ∃ z : va_W, z = wr22 ++ [(q23, .inl (cI, 12, .inl (fun _ => 0)))] := ⟨_, rfl⟩
  rw [← ef23, ← ew23] at hP hD
  rw [ef22] at ef23
  have ef23 : fs23 = [.int 0, .int 0, .ref q1, .ref q2, .ref q3, .int 0, .ref q4, .ref q5, .ref q6, .int 0, .ref q7, .ref q8, .int 0, .int 0, .ref q9, .ref q10, .ref q11, .ref q12, .ref q13, .int 0, .int 0, .int 0, .int 0, .int 0, .ref q14, .ref q15, .ref q16, .ref q17, .ref q18, .ref q19, .ref q20, .int 0, .ref q21, .ref q22, .ref q23, .null, .int 0, .int 0, .null, .int 0, .null, .int 0, .null, .null, .null, .null, .null] := ef23
  rw [ew22] at ew23
  have ew23 : wr23 = [(q1, .inl (cI, 12, .inl (fun _ => 0))), (q2, .inl (cI, 12, .inl (fun _ => 0))), (q3, .inl (cI, 12, .inl (flF (fun _ => 0) (-1) 12))), (q4, .inl (cI, 16, .inl (fun _ => 0))), (q5, .inl (cI, 16, .inl (fun _ => 0))), (q6, .inl (cI, 16, .inl (fun _ => 0))), (q7, .inl (cI, 12, .inl (flF (fun _ => 0) 1 12))), (q8, .inl (cI, 12, .inl (fun _ => 0))), (q9, .inl (cI, 40, .inl (fun _ => 0))), (q10, .inl (cI, 40, .inl (fun _ => 0))), (q11, .inl (cI, 40, .inl (fun _ => 0))), (q12, .inl (cI, 40, .inl (fun _ => 0))), (q13, .inl (cB, 120, .inl (fun _ => 0))), (q14, .inl (cB, 260, .inl (fun _ => 0))), (q15, .inl (cI, 260, .inl (fun _ => 0))), (q16, .inl (cI, 2, .inl (fun _ => 0))), (q17, .inl (cS, 122, .inl (fun _ => 0))), (q18, .inl (cS, 122, .inl (fun _ => 0))), (q19, .inl (cI, 6, .inl (fun _ => 0))), (q20, .inl (cI, 130, .inl (fun _ => 0))), (q21, .inl (cI, 12, .inl (fun _ => 0))), (q22, .inl (cZ, 16, .inl (fun _ => 0))), (q23, .inl (cI, 12, .inl (fun _ => 0)))] := ew23
  clear ef22 ew22
  refine lv_aload_n hx hb dX8_init_298 rfl (lv_at hl 0 rfl) ?_
  refine lv_bipush (v := 12) hx hb dX8_init_299 (by decide) ?_
  refine va_newa (D := D) (atype := .int) (ty := .int) (N' := 12) (a0 := (12, .inl (fun _ => 0))) hx hb (hts _ ac_I) rfl hK hP hD hS hA (fun _ => rfl) (by decide) (by decide) (by decide) (Nat.le_of_ble_eq_true rfl) (Nat.le_of_ble_eq_true rfl) dX8_init_301 (fun q24 cA H hK hP hD hS => ?_)
  obtain rfl : cI = cA := ka_uq (ty := .int) rfl (hK.2 0 _ rfl).2 (hK.2 4 _ rfl).2
  have hK : va_K D vwCl [(cI, .int), (cB, .byte), (cS, .short), (cZ, .boolean)] s := hK.sub [0, 1, 2, 3] rfl
  have hP : va_P D vwCl ((h0, .inr (8, fs23)) :: (wr23 ++ [(q24, .inl (cI, 12, .inl (fun _ => 0)))])) H := hP
  have hD : va_D A ((h0, .inr (8, fs23)) :: (wr23 ++ [(q24, .inl (cI, 12, .inl (fun _ => 0)))])) := hD
  refine va_putF (D := D) (ci := 8) (v := .ref q24) (ty := .array .int) (C := RX8) (T := TX8) (N := 47) hx hb hts (zlayi 8 (by decide)) tyX8 tyX8_ok nmX8 hown hK hP hD hS 0 rfl rfl 35 (by decide) (hts _ f8_82) (fun _ h9 => h9) rfl hin rfl (by decide +kernel) rfl rfl (by rw [hfs]; decide) dX8_init_303 (fun H locs hP hD hS => ?_)
  have hP : va_P D vwCl ((h0, .inr (8, fs23.set 35 (.ref q24))) :: (wr23 ++ [(q24, .inl (cI, 12, .inl (fun _ => 0)))])) H := hP
  have hD : va_D A ((h0, .inr (8, fs23.set 35 (.ref q24))) :: (wr23 ++ [(q24, .inl (cI, 12, .inl (fun _ => 0)))])) := hD
  obtain ⟨fs24, ef24⟩ : ∃ z, z = fs23.set 35 (.ref q24) := ⟨_, rfl⟩
  have hfs : fs24.length = 47 := by rw [ef24, List.length_set]; exact hfs
  obtain ⟨wr24, ew24⟩ : ∃ z : va_W, z = wr23 ++ [(q24, .inl (cI, 12, .inl (fun _ => 0)))] := ⟨_, rfl⟩
  rw [← ef24, ← ew24] at hP hD
  rw [ef23] at ef24
  have ef24 : fs24 = [.int 0, .int 0, .ref q1, .ref q2, .ref q3, .int 0, .ref q4, .ref q5, .ref q6, .int 0, .ref q7, .ref q8, .int 0, .int 0, .ref q9, .ref q10, .ref q11, .ref q12, .ref q13, .int 0, .int 0, .int 0, .int 0, .int 0, .ref q14, .ref q15, .ref q16, .ref q17, .ref q18, .ref q19, .ref q20, .int 0, .ref q21, .ref q22, .ref q23, .ref q24, .int 0, .int 0, .null, .int 0, .null, .int 0, .null, .null, .null, .null, .null] := ef24
  rw [ew23] at ew24
  have ew24 : wr24 = [(q1, .inl (cI, 12, .inl (fun _ => 0))), (q2, .inl (cI, 12, .inl (fun _ => 0))), (q3, .inl (cI, 12, .inl (flF (fun _ => 0) (-1) 12))), (q4, .inl (cI, 16, .inl (fun _ => 0))), (q5, .inl (cI, 16, .inl (fun _ => 0))), (q6, .inl (cI, 16, .inl (fun _ => 0))), (q7, .inl (cI, 12, .inl (flF (fun _ => 0) 1 12))), (q8, .inl (cI, 12, .inl (fun _ => 0))), (q9, .inl (cI, 40, .inl (fun _ => 0))), (q10, .inl (cI, 40, .inl (fun _ => 0))), (q11, .inl (cI, 40, .inl (fun _ => 0))), (q12, .inl (cI, 40, .inl (fun _ => 0))), (q13, .inl (cB, 120, .inl (fun _ => 0))), (q14, .inl (cB, 260, .inl (fun _ => 0))), (q15, .inl (cI, 260, .inl (fun _ => 0))), (q16, .inl (cI, 2, .inl (fun _ => 0))), (q17, .inl (cS, 122, .inl (fun _ => 0))), (q18, .inl (cS, 122, .inl (fun _ => 0))), (q19, .inl (cI, 6, .inl (fun _ => 0))), (q20, .inl (cI, 130, .inl (fun _ => 0))), (q21, .inl (cI, 12, .inl (fun _ => 0))), (q22, .inl (cZ, 16, .inl (fun _ => 0))), (q23, .inl (cI, 12, .inl (fun _ => 0))), (q24, .inl (cI, 12, .inl (fun _ => 0)))] := ew24
  clear ef23 ew23
  refine lv_aload_n hx hb dX8_init_306 rfl (lv_at hl 0 rfl) ?_
  refine lv_bipush (v := 12) hx hb dX8_init_307 (by decide) ?_
  refine va_newa (D := D) (atype := .int) (ty := .int) (N' := 12) (a0 := (12, .inl (fun _ => 0))) hx hb (hts _ ac_I) rfl hK hP hD hS hA (fun _ => rfl) (by decide) (by decide) (by decide) (Nat.le_of_ble_eq_true rfl) (Nat.le_of_ble_eq_true rfl) dX8_init_309 (fun q25 cA H hK hP hD hS => ?_)
  obtain rfl : cI = cA := ka_uq (ty := .int) rfl (hK.2 0 _ rfl).2 (hK.2 4 _ rfl).2
  have hK : va_K D vwCl [(cI, .int), (cB, .byte), (cS, .short), (cZ, .boolean)] s := hK.sub [0, 1, 2, 3] rfl
  have hP : va_P D vwCl ((h0, .inr (8, fs24)) :: (wr24 ++ [(q25, .inl (cI, 12, .inl (fun _ => 0)))])) H := hP
  have hD : va_D A ((h0, .inr (8, fs24)) :: (wr24 ++ [(q25, .inl (cI, 12, .inl (fun _ => 0)))])) := hD
  refine va_putF (D := D) (ci := 8) (v := .ref q25) (ty := .array .int) (C := RX8) (T := TX8) (N := 47) hx hb hts (zlayi 8 (by decide)) tyX8 tyX8_ok nmX8 hown hK hP hD hS 0 rfl rfl 38 (by decide) (hts _ f8_85) (fun _ h9 => h9) rfl hin rfl (by decide +kernel) rfl rfl (by rw [hfs]; decide) dX8_init_311 (fun H locs hP hD hS => ?_)
  have hP : va_P D vwCl ((h0, .inr (8, fs24.set 38 (.ref q25))) :: (wr24 ++ [(q25, .inl (cI, 12, .inl (fun _ => 0)))])) H := hP
  have hD : va_D A ((h0, .inr (8, fs24.set 38 (.ref q25))) :: (wr24 ++ [(q25, .inl (cI, 12, .inl (fun _ => 0)))])) := hD
  obtain ⟨fs25, ef25⟩ : ∃ z, z = fs24.set 38 (.ref q25) := ⟨_, rfl⟩
  have hfs : fs25.length = 47 := by rw [ef25, List.length_set]; exact hfs
  obtain ⟨wr25, ew25⟩ : ∃ z : va_W, z = wr24 ++ [(q25, .inl (cI, 12, .inl (fun _ => 0)))] := ⟨_, rfl⟩
  rw [← ef25, ← ew25] at hP hD
  rw [ef24] at ef25
  have ef25 : fs25 = [.int 0, .int 0, .ref q1, .ref q2, .ref q3, .int 0, .ref q4, .ref q5, .ref q6, .int 0, .ref q7, .ref q8, .int 0, .int 0, .ref q9, .ref q10, .ref q11, .ref q12, .ref q13, .int 0, .int 0, .int 0, .int 0, .int 0, .ref q14, .ref q15, .ref q16, .ref q17, .ref q18, .ref q19, .ref q20, .int 0, .ref q21, .ref q22, .ref q23, .ref q24, .int 0, .int 0, .ref q25, .int 0, .null, .int 0, .null, .null, .null, .null, .null] := ef25
  rw [ew24] at ew25
  have ew25 : wr25 = [(q1, .inl (cI, 12, .inl (fun _ => 0))), (q2, .inl (cI, 12, .inl (fun _ => 0))), (q3, .inl (cI, 12, .inl (flF (fun _ => 0) (-1) 12))), (q4, .inl (cI, 16, .inl (fun _ => 0))), (q5, .inl (cI, 16, .inl (fun _ => 0))), (q6, .inl (cI, 16, .inl (fun _ => 0))), (q7, .inl (cI, 12, .inl (flF (fun _ => 0) 1 12))), (q8, .inl (cI, 12, .inl (fun _ => 0))), (q9, .inl (cI, 40, .inl (fun _ => 0))), (q10, .inl (cI, 40, .inl (fun _ => 0))), (q11, .inl (cI, 40, .inl (fun _ => 0))), (q12, .inl (cI, 40, .inl (fun _ => 0))), (q13, .inl (cB, 120, .inl (fun _ => 0))), (q14, .inl (cB, 260, .inl (fun _ => 0))), (q15, .inl (cI, 260, .inl (fun _ => 0))), (q16, .inl (cI, 2, .inl (fun _ => 0))), (q17, .inl (cS, 122, .inl (fun _ => 0))), (q18, .inl (cS, 122, .inl (fun _ => 0))), (q19, .inl (cI, 6, .inl (fun _ => 0))), (q20, .inl (cI, 130, .inl (fun _ => 0))), (q21, .inl (cI, 12, .inl (fun _ => 0))), (q22, .inl (cZ, 16, .inl (fun _ => 0))), (q23, .inl (cI, 12, .inl (fun _ => 0))), (q24, .inl (cI, 12, .inl (fun _ => 0))), (q25, .inl (cI, 12, .inl (fun _ => 0)))] := ew25
  clear ef24 ew24
  refine lv_aload_n hx hb dX8_init_314 rfl (lv_at hl 0 rfl) ?_
  refine lv_bipush (v := 50) hx hb dX8_init_315 (by decide) ?_
  refine va_newa (D := D) (atype := .int) (ty := .int) (N' := 50) (a0 := (50, .inl (fun _ => 0))) hx hb (hts _ ac_I) rfl hK hP hD hS hA (fun _ => rfl) (by decide) (by decide) (by decide) (Nat.le_of_ble_eq_true rfl) (Nat.le_of_ble_eq_true rfl) dX8_init_317 (fun q26 cA H hK hP hD hS => ?_)
  obtain rfl : cI = cA := ka_uq (ty := .int) rfl (hK.2 0 _ rfl).2 (hK.2 4 _ rfl).2
  have hK : va_K D vwCl [(cI, .int), (cB, .byte), (cS, .short), (cZ, .boolean)] s := hK.sub [0, 1, 2, 3] rfl
  have hP : va_P D vwCl ((h0, .inr (8, fs25)) :: (wr25 ++ [(q26, .inl (cI, 50, .inl (fun _ => 0)))])) H := hP
  have hD : va_D A ((h0, .inr (8, fs25)) :: (wr25 ++ [(q26, .inl (cI, 50, .inl (fun _ => 0)))])) := hD
  refine va_putF (D := D) (ci := 8) (v := .ref q26) (ty := .array .int) (C := RX8) (T := TX8) (N := 47) hx hb hts (zlayi 8 (by decide)) tyX8 tyX8_ok nmX8 hown hK hP hD hS 0 rfl rfl 40 (by decide) (hts _ f8_88) (fun _ h9 => h9) rfl hin rfl (by decide +kernel) rfl rfl (by rw [hfs]; decide) dX8_init_319 (fun H locs hP hD hS => ?_)
  have hP : va_P D vwCl ((h0, .inr (8, fs25.set 40 (.ref q26))) :: (wr25 ++ [(q26, .inl (cI, 50, .inl (fun _ => 0)))])) H := hP
  have hD : va_D A ((h0, .inr (8, fs25.set 40 (.ref q26))) :: (wr25 ++ [(q26, .inl (cI, 50, .inl (fun _ => 0)))])) := hD
  obtain ⟨fs26, ef26⟩ : ∃ z, z = fs25.set 40 (.ref q26) := ⟨_, rfl⟩
  have hfs : fs26.length = 47 := by rw [ef26, List.length_set]; exact hfs
  obtain ⟨wr26, ew26⟩ : ∃ z : va_W, z = wr25 ++ [(q26, .inl (cI, 50, .inl (fun _ => 0)))] := ⟨_, rfl⟩
  rw [← ef26, ← ew26] at hP hD
  rw [ef25] at ef26
  have ef26 : fs26 = [.int 0, .int 0, .ref q1, .ref q2, .ref q3, .int 0, .ref q4, .ref q5, .ref q6, .int 0, .ref q7, .ref q8, .int 0, .int 0, .ref q9, .ref q10, .ref q11, .ref q12, .ref q13, .int 0, .int 0, .int 0, .int 0, .int 0, .ref q14, .ref q15, .ref q16, .ref q17, .ref q18, .ref q19, .ref q20, .int 0, .ref q21, .ref q22, .ref q23, .ref q24, .int 0, .int 0, .ref q25, .int 0, .ref q26, .int 0, .null, .null, .null, .null, .null] := ef26
  rw [ew25] at ew26
  have ew26 : wr26 = [(q1, .inl (cI, 12, .inl (fun _ => 0))), (q2, .inl (cI, 12, .inl (fun _ => 0))), (q3, .inl (cI, 12, .inl (flF (fun _ => 0) (-1) 12))), (q4, .inl (cI, 16, .inl (fun _ => 0))), (q5, .inl (cI, 16, .inl (fun _ => 0))), (q6, .inl (cI, 16, .inl (fun _ => 0))), (q7, .inl (cI, 12, .inl (flF (fun _ => 0) 1 12))), (q8, .inl (cI, 12, .inl (fun _ => 0))), (q9, .inl (cI, 40, .inl (fun _ => 0))), (q10, .inl (cI, 40, .inl (fun _ => 0))), (q11, .inl (cI, 40, .inl (fun _ => 0))), (q12, .inl (cI, 40, .inl (fun _ => 0))), (q13, .inl (cB, 120, .inl (fun _ => 0))), (q14, .inl (cB, 260, .inl (fun _ => 0))), (q15, .inl (cI, 260, .inl (fun _ => 0))), (q16, .inl (cI, 2, .inl (fun _ => 0))), (q17, .inl (cS, 122, .inl (fun _ => 0))), (q18, .inl (cS, 122, .inl (fun _ => 0))), (q19, .inl (cI, 6, .inl (fun _ => 0))), (q20, .inl (cI, 130, .inl (fun _ => 0))), (q21, .inl (cI, 12, .inl (fun _ => 0))), (q22, .inl (cZ, 16, .inl (fun _ => 0))), (q23, .inl (cI, 12, .inl (fun _ => 0))), (q24, .inl (cI, 12, .inl (fun _ => 0))), (q25, .inl (cI, 12, .inl (fun _ => 0))), (q26, .inl (cI, 50, .inl (fun _ => 0)))] := ew26
  clear ef25 ew25
  refine lv_aload_n hx hb dX8_init_322 rfl (lv_at hl 0 rfl) ?_
  refine lv_bipush (v := 24) hx hb dX8_init_323 (by decide) ?_
  refine va_newa (D := D) (atype := .int) (ty := .int) (N' := 24) (a0 := (24, .inl (fun _ => 0))) hx hb (hts _ ac_I) rfl hK hP hD hS hA (fun _ => rfl) (by decide) (by decide) (by decide) (Nat.le_of_ble_eq_true rfl) (Nat.le_of_ble_eq_true rfl) dX8_init_325 (fun q27 cA H hK hP hD hS => ?_)
  obtain rfl : cI = cA := ka_uq (ty := .int) rfl (hK.2 0 _ rfl).2 (hK.2 4 _ rfl).2
  have hK : va_K D vwCl [(cI, .int), (cB, .byte), (cS, .short), (cZ, .boolean)] s := hK.sub [0, 1, 2, 3] rfl
  have hP : va_P D vwCl ((h0, .inr (8, fs26)) :: (wr26 ++ [(q27, .inl (cI, 24, .inl (fun _ => 0)))])) H := hP
  have hD : va_D A ((h0, .inr (8, fs26)) :: (wr26 ++ [(q27, .inl (cI, 24, .inl (fun _ => 0)))])) := hD
  refine va_putF (D := D) (ci := 8) (v := .ref q27) (ty := .array .int) (C := RX8) (T := TX8) (N := 47) hx hb hts (zlayi 8 (by decide)) tyX8 tyX8_ok nmX8 hown hK hP hD hS 0 rfl rfl 42 (by decide) (hts _ f8_91) (fun _ h9 => h9) rfl hin rfl (by decide +kernel) rfl rfl (by rw [hfs]; decide) dX8_init_327 (fun H locs hP hD hS => ?_)
  have hP : va_P D vwCl ((h0, .inr (8, fs26.set 42 (.ref q27))) :: (wr26 ++ [(q27, .inl (cI, 24, .inl (fun _ => 0)))])) H := hP
  have hD : va_D A ((h0, .inr (8, fs26.set 42 (.ref q27))) :: (wr26 ++ [(q27, .inl (cI, 24, .inl (fun _ => 0)))])) := hD
  obtain ⟨fs27, ef27⟩ : ∃ z, z = fs26.set 42 (.ref q27) := ⟨_, rfl⟩
  have hfs : fs27.length = 47 := by rw [ef27, List.length_set]; exact hfs
  obtain ⟨wr27, ew27⟩ : ∃ z : va_W, z = wr26 ++ [(q27, .inl (cI, 24, .inl (fun _ => 0)))] := ⟨_, rfl⟩
  rw [← ef27, ← ew27] at hP hD
  rw [ef26] at ef27
  have ef27 : fs27 = [.int 0, .int 0, .ref q1, .ref q2, .ref q3, .int 0, .ref q4, .ref q5, .ref q6, .int 0, .ref q7, .ref q8, .int 0, .int 0, .ref q9, .ref q10, .ref q11, .ref q12, .ref q13, .int 0, .int 0, .int 0, .int 0, .int 0, .ref q14, .ref q15, .ref q16, .ref q17, .ref q18, .ref q19, .ref q20, .int 0, .ref q21, .ref q22, .ref q23, .ref q24, .int 0, .int 0, .ref q25, .int 0, .ref q26, .int 0, .ref q27, .null, .null, .null, .null] := ef27
  rw [ew26] at ew27
  have ew27 : wr27 = [(q1, .inl (cI, 12, .inl (fun _ => 0))), (q2, .inl (cI, 12, .inl (fun _ => 0))), (q3, .inl (cI, 12, .inl (flF (fun _ => 0) (-1) 12))), (q4, .inl (cI, 16, .inl (fun _ => 0))), (q5, .inl (cI, 16, .inl (fun _ => 0))), (q6, .inl (cI, 16, .inl (fun _ => 0))), (q7, .inl (cI, 12, .inl (flF (fun _ => 0) 1 12))), (q8, .inl (cI, 12, .inl (fun _ => 0))), (q9, .inl (cI, 40, .inl (fun _ => 0))), (q10, .inl (cI, 40, .inl (fun _ => 0))), (q11, .inl (cI, 40, .inl (fun _ => 0))), (q12, .inl (cI, 40, .inl (fun _ => 0))), (q13, .inl (cB, 120, .inl (fun _ => 0))), (q14, .inl (cB, 260, .inl (fun _ => 0))), (q15, .inl (cI, 260, .inl (fun _ => 0))), (q16, .inl (cI, 2, .inl (fun _ => 0))), (q17, .inl (cS, 122, .inl (fun _ => 0))), (q18, .inl (cS, 122, .inl (fun _ => 0))), (q19, .inl (cI, 6, .inl (fun _ => 0))), (q20, .inl (cI, 130, .inl (fun _ => 0))), (q21, .inl (cI, 12, .inl (fun _ => 0))), (q22, .inl (cZ, 16, .inl (fun _ => 0))), (q23, .inl (cI, 12, .inl (fun _ => 0))), (q24, .inl (cI, 12, .inl (fun _ => 0))), (q25, .inl (cI, 12, .inl (fun _ => 0))), (q26, .inl (cI, 50, .inl (fun _ => 0))), (q27, .inl (cI, 24, .inl (fun _ => 0)))] := ew27
  clear ef26 ew26
  refine lv_aload_n hx hb dX8_init_330 rfl (lv_at hl 0 rfl) ?_
  refine lv_bipush (v := 6) hx hb dX8_init_331 (by decide) ?_
  refine va_newa (D := D) (atype := .int) (ty := .int) (N' := 6) (a0 := (6, .inl (fun _ => 0))) hx hb (hts _ ac_I) rfl hK hP hD hS hA (fun _ => rfl) (by decide) (by decide) (by decide) (Nat.le_of_ble_eq_true rfl) (Nat.le_of_ble_eq_true rfl) dX8_init_333 (fun q28 cA H hK hP hD hS => ?_)
  obtain rfl : cI = cA := ka_uq (ty := .int) rfl (hK.2 0 _ rfl).2 (hK.2 4 _ rfl).2
  have hK : va_K D vwCl [(cI, .int), (cB, .byte), (cS, .short), (cZ, .boolean)] s := hK.sub [0, 1, 2, 3] rfl
  have hP : va_P D vwCl ((h0, .inr (8, fs27)) :: (wr27 ++ [(q28, .inl (cI, 6, .inl (fun _ => 0)))])) H := hP
  have hD : va_D A ((h0, .inr (8, fs27)) :: (wr27 ++ [(q28, .inl (cI, 6, .inl (fun _ => 0)))])) := hD
  refine lv_dup hx hb dX8_init_335 rfl ?_
  refine lv_iconst (v := 0) hx hb dX8_init_336 (by decide) ?_
  refine lv_iconst (v := (-1)) hx hb dX8_init_337 (by decide) ?_
  rw [← flF_0 (fun _ => 0) (-1)] at hP hD
  refine va_iast hx hb hK hP hD hS (wr27.length + 1) 0 pl_get rfl (show vp_in (nI 0) 6 from vp_in_nI (by decide) (by decide)) dX8_init_338 (fun H locs hP hD hS => ?_)
  rw [pl_set, show (0 : Int32).toNatClampNeg = 0 from rfl, flF_s] at hP hD
  have hP : va_P D vwCl ((h0, .inr (8, fs27)) :: (wr27 ++ [(q28, .inl (cI, 6, .inl (flF (fun _ => 0) (-1) 1)))])) H := hP
  have hD : va_D A ((h0, .inr (8, fs27)) :: (wr27 ++ [(q28, .inl (cI, 6, .inl (flF (fun _ => 0) (-1) 1)))])) := hD
  refine lv_dup hx hb dX8_init_339 rfl ?_
  refine lv_iconst (v := 1) hx hb dX8_init_340 (by decide) ?_
  refine lv_iconst (v := (-1)) hx hb dX8_init_341 (by decide) ?_
  refine va_iast hx hb hK hP hD hS (wr27.length + 1) 0 pl_get rfl (show vp_in (nI 1) 6 from vp_in_nI (by decide) (by decide)) dX8_init_342 (fun H locs hP hD hS => ?_)
  rw [pl_set, show (1 : Int32).toNatClampNeg = 1 from rfl, flF_s] at hP hD
  have hP : va_P D vwCl ((h0, .inr (8, fs27)) :: (wr27 ++ [(q28, .inl (cI, 6, .inl (flF (fun _ => 0) (-1) 2)))])) H := hP
  have hD : va_D A ((h0, .inr (8, fs27)) :: (wr27 ++ [(q28, .inl (cI, 6, .inl (flF (fun _ => 0) (-1) 2)))])) := hD
  refine lv_dup hx hb dX8_init_343 rfl ?_
  refine lv_iconst (v := 2) hx hb dX8_init_344 (by decide) ?_
  refine lv_iconst (v := (-1)) hx hb dX8_init_345 (by decide) ?_
  refine va_iast hx hb hK hP hD hS (wr27.length + 1) 0 pl_get rfl (show vp_in (nI 2) 6 from vp_in_nI (by decide) (by decide)) dX8_init_346 (fun H locs hP hD hS => ?_)
  rw [pl_set, show (2 : Int32).toNatClampNeg = 2 from rfl, flF_s] at hP hD
  have hP : va_P D vwCl ((h0, .inr (8, fs27)) :: (wr27 ++ [(q28, .inl (cI, 6, .inl (flF (fun _ => 0) (-1) 3)))])) H := hP
  have hD : va_D A ((h0, .inr (8, fs27)) :: (wr27 ++ [(q28, .inl (cI, 6, .inl (flF (fun _ => 0) (-1) 3)))])) := hD
  refine lv_dup hx hb dX8_init_347 rfl ?_
  refine lv_iconst (v := 3) hx hb dX8_init_348 (by decide) ?_
  refine lv_iconst (v := (-1)) hx hb dX8_init_349 (by decide) ?_
  refine va_iast hx hb hK hP hD hS (wr27.length + 1) 0 pl_get rfl (show vp_in (nI 3) 6 from vp_in_nI (by decide) (by decide)) dX8_init_350 (fun H locs hP hD hS => ?_)
  rw [pl_set, show (3 : Int32).toNatClampNeg = 3 from rfl, flF_s] at hP hD
  have hP : va_P D vwCl ((h0, .inr (8, fs27)) :: (wr27 ++ [(q28, .inl (cI, 6, .inl (flF (fun _ => 0) (-1) 4)))])) H := hP
  have hD : va_D A ((h0, .inr (8, fs27)) :: (wr27 ++ [(q28, .inl (cI, 6, .inl (flF (fun _ => 0) (-1) 4)))])) := hD
  refine lv_dup hx hb dX8_init_351 rfl ?_
  refine lv_iconst (v := 4) hx hb dX8_init_352 (by decide) ?_
  refine lv_iconst (v := (-1)) hx hb dX8_init_353 (by decide) ?_
  refine va_iast hx hb hK hP hD hS (wr27.length + 1) 0 pl_get rfl (show vp_in (nI 4) 6 from vp_in_nI (by decide) (by decide)) dX8_init_354 (fun H locs hP hD hS => ?_)
  rw [pl_set, show (4 : Int32).toNatClampNeg = 4 from rfl, flF_s] at hP hD
  have hP : va_P D vwCl ((h0, .inr (8, fs27)) :: (wr27 ++ [(q28, .inl (cI, 6, .inl (flF (fun _ => 0) (-1) 5)))])) H := hP
  have hD : va_D A ((h0, .inr (8, fs27)) :: (wr27 ++ [(q28, .inl (cI, 6, .inl (flF (fun _ => 0) (-1) 5)))])) := hD
  refine lv_dup hx hb dX8_init_355 rfl ?_
  refine lv_iconst (v := 5) hx hb dX8_init_356 (by decide) ?_
  refine lv_iconst (v := (-1)) hx hb dX8_init_357 (by decide) ?_
  refine va_iast hx hb hK hP hD hS (wr27.length + 1) 0 pl_get rfl (show vp_in (nI 5) 6 from vp_in_nI (by decide) (by decide)) dX8_init_358 (fun H locs hP hD hS => ?_)
  rw [pl_set, show (5 : Int32).toNatClampNeg = 5 from rfl, flF_s] at hP hD
  have hP : va_P D vwCl ((h0, .inr (8, fs27)) :: (wr27 ++ [(q28, .inl (cI, 6, .inl (flF (fun _ => 0) (-1) 6)))])) H := hP
  have hD : va_D A ((h0, .inr (8, fs27)) :: (wr27 ++ [(q28, .inl (cI, 6, .inl (flF (fun _ => 0) (-1) 6)))])) := hD
  refine va_putF (D := D) (ci := 8) (v := .ref q28) (ty := .array .int) (C := RX8) (T := TX8) (N := 47) hx hb hts (zlayi 8 (by decide)) tyX8 tyX8_ok nmX8 hown hK hP hD hS 0 rfl rfl 43 (by decide) (hts _ f8_94) (fun _ h9 => h9) rfl hin rfl (by decide +kernel) rfl rfl (by rw [hfs]; decide) dX8_init_359 (fun H locs hP hD hS => ?_)
  have hP : va_P D vwCl ((h0, .inr (8, fs27.set 43 (.ref q28))) :: (wr27 ++ [(q28, .inl (cI, 6, .inl (flF (fun _ => 0) (-1) 6)))])) H := hP
  have hD : va_D A ((h0, .inr (8, fs27.set 43 (.ref q28))) :: (wr27 ++ [(q28, .inl (cI, 6, .inl (flF (fun _ => 0) (-1) 6)))])) := hD
  obtain ⟨fs28, ef28⟩ : ∃ z, z = fs27.set 43 (.ref q28) := ⟨_, rfl⟩
  have hfs : fs28.length = 47 := by rw [ef28, List.length_set]; exact hfs
  obtain ⟨wr28, ew28⟩ : ∃ z : va_W, z = wr27 ++ [(q28, .inl (cI, 6, .inl (flF (fun _ => 0) (-1) 6)))] := ⟨_, rfl⟩
  rw [← ef28, ← ew28] at hP hD
  rw [ef27] at ef28
  have ef28 : fs28 = [.int 0, .int 0, .ref q1, .ref q2, .ref q3, .int 0, .ref q4, .ref q5, .ref q6, .int 0, .ref q7, .ref q8, .int 0, .int 0, .ref q9, .ref q10, .ref q11, .ref q12, .ref q13, .int 0, .int 0, .int 0, .int 0, .int 0, .ref q14, .ref q15, .ref q16, .ref q17, .ref q18, .ref q19, .ref q20, .int 0, .ref q21, .ref q22, .ref q23, .ref q24, .int 0, .int 0, .ref q25, .int 0, .ref q26, .int 0, .ref q27, .ref q28, .null, .null, .null] := ef28
  rw [ew27] at ew28
  have ew28 : wr28 = [(q1, .inl (cI, 12, .inl (fun _ => 0))), (q2, .inl (cI, 12, .inl (fun _ => 0))), (q3, .inl (cI, 12, .inl (flF (fun _ => 0) (-1) 12))), (q4, .inl (cI, 16, .inl (fun _ => 0))), (q5, .inl (cI, 16, .inl (fun _ => 0))), (q6, .inl (cI, 16, .inl (fun _ => 0))), (q7, .inl (cI, 12, .inl (flF (fun _ => 0) 1 12))), (q8, .inl (cI, 12, .inl (fun _ => 0))), (q9, .inl (cI, 40, .inl (fun _ => 0))), (q10, .inl (cI, 40, .inl (fun _ => 0))), (q11, .inl (cI, 40, .inl (fun _ => 0))), (q12, .inl (cI, 40, .inl (fun _ => 0))), (q13, .inl (cB, 120, .inl (fun _ => 0))), (q14, .inl (cB, 260, .inl (fun _ => 0))), (q15, .inl (cI, 260, .inl (fun _ => 0))), (q16, .inl (cI, 2, .inl (fun _ => 0))), (q17, .inl (cS, 122, .inl (fun _ => 0))), (q18, .inl (cS, 122, .inl (fun _ => 0))), (q19, .inl (cI, 6, .inl (fun _ => 0))), (q20, .inl (cI, 130, .inl (fun _ => 0))), (q21, .inl (cI, 12, .inl (fun _ => 0))), (q22, .inl (cZ, 16, .inl (fun _ => 0))), (q23, .inl (cI, 12, .inl (fun _ => 0))), (q24, .inl (cI, 12, .inl (fun _ => 0))), (q25, .inl (cI, 12, .inl (fun _ => 0))), (q26, .inl (cI, 50, .inl (fun _ => 0))), (q27, .inl (cI, 24, .inl (fun _ => 0))), (q28, .inl (cI, 6, .inl (flF (fun _ => 0) (-1) 6)))] := ew28
  clear ef27 ew27
  refine lv_aload_n hx hb dX8_init_362 rfl (lv_at hl 0 rfl) ?_
  refine lv_bipush (v := 6) hx hb dX8_init_363 (by decide) ?_
  refine va_newa (D := D) (atype := .int) (ty := .int) (N' := 6) (a0 := (6, .inl (fun _ => 0))) hx hb (hts _ ac_I) rfl hK hP hD hS hA (fun _ => rfl) (by decide) (by decide) (by decide) (Nat.le_of_ble_eq_true rfl) (Nat.le_of_ble_eq_true rfl) dX8_init_365 (fun q29 cA H hK hP hD hS => ?_)
  obtain rfl : cI = cA := ka_uq (ty := .int) rfl (hK.2 0 _ rfl).2 (hK.2 4 _ rfl).2
  have hK : va_K D vwCl [(cI, .int), (cB, .byte), (cS, .short), (cZ, .boolean)] s := hK.sub [0, 1, 2, 3] rfl
  have hP : va_P D vwCl ((h0, .inr (8, fs28)) :: (wr28 ++ [(q29, .inl (cI, 6, .inl (fun _ => 0)))])) H := hP
  have hD : va_D A ((h0, .inr (8, fs28)) :: (wr28 ++ [(q29, .inl (cI, 6, .inl (fun _ => 0)))])) := hD
  refine va_putF (D := D) (ci := 8) (v := .ref q29) (ty := .array .int) (C := RX8) (T := TX8) (N := 47) hx hb hts (zlayi 8 (by decide)) tyX8 tyX8_ok nmX8 hown hK hP hD hS 0 rfl rfl 44 (by decide) (hts _ f8_97) (fun _ h9 => h9) rfl hin rfl (by decide +kernel) rfl rfl (by rw [hfs]; decide) dX8_init_367 (fun H locs hP hD hS => ?_)
  have hP : va_P D vwCl ((h0, .inr (8, fs28.set 44 (.ref q29))) :: (wr28 ++ [(q29, .inl (cI, 6, .inl (fun _ => 0)))])) H := hP
  have hD : va_D A ((h0, .inr (8, fs28.set 44 (.ref q29))) :: (wr28 ++ [(q29, .inl (cI, 6, .inl (fun _ => 0)))])) := hD
  obtain ⟨fs29, ef29⟩ : ∃ z, z = fs28.set 44 (.ref q29) := ⟨_, rfl⟩
  have hfs : fs29.length = 47 := by rw [ef29, List.length_set]; exact hfs
  obtain ⟨wr29, ew29⟩ : ∃ z : va_W, z = wr28 ++ [(q29, .inl (cI, 6, .inl (fun _ => 0)))] := ⟨_, rfl⟩
  rw [← ef29, ← ew29] at hP hD
  rw [ef28] at ef29
  have ef29 : fs29 = [.int 0, .int 0, .ref q1, .ref q2, .ref q3, .int 0, .ref q4, .ref q5, .ref q6, .int 0, .ref q7, .ref q8, .int 0, .int 0, .ref q9, .ref q10, .ref q11, .ref q12, .ref q13, .int 0, .int 0, .int 0, .int 0, .int 0, .ref q14, .ref q15, .ref q16, .ref q17, .ref q18, .ref q19, .ref q20, .int 0, .ref q21, .ref q22, .ref q23, .ref q24, .int 0, .int 0, .ref q25, .int 0, .ref q26, .int 0, .ref q27, .ref q28, .ref q29, .null, .null] := ef29
  rw [ew28] at ew29
  have ew29 : wr29 = [(q1, .inl (cI, 12, .inl (fun _ => 0))), (q2, .inl (cI, 12, .inl (fun _ => 0))), (q3, .inl (cI, 12, .inl (flF (fun _ => 0) (-1) 12))), (q4, .inl (cI, 16, .inl (fun _ => 0))), (q5, .inl (cI, 16, .inl (fun _ => 0))), (q6, .inl (cI, 16, .inl (fun _ => 0))), (q7, .inl (cI, 12, .inl (flF (fun _ => 0) 1 12))), (q8, .inl (cI, 12, .inl (fun _ => 0))), (q9, .inl (cI, 40, .inl (fun _ => 0))), (q10, .inl (cI, 40, .inl (fun _ => 0))), (q11, .inl (cI, 40, .inl (fun _ => 0))), (q12, .inl (cI, 40, .inl (fun _ => 0))), (q13, .inl (cB, 120, .inl (fun _ => 0))), (q14, .inl (cB, 260, .inl (fun _ => 0))), (q15, .inl (cI, 260, .inl (fun _ => 0))), (q16, .inl (cI, 2, .inl (fun _ => 0))), (q17, .inl (cS, 122, .inl (fun _ => 0))), (q18, .inl (cS, 122, .inl (fun _ => 0))), (q19, .inl (cI, 6, .inl (fun _ => 0))), (q20, .inl (cI, 130, .inl (fun _ => 0))), (q21, .inl (cI, 12, .inl (fun _ => 0))), (q22, .inl (cZ, 16, .inl (fun _ => 0))), (q23, .inl (cI, 12, .inl (fun _ => 0))), (q24, .inl (cI, 12, .inl (fun _ => 0))), (q25, .inl (cI, 12, .inl (fun _ => 0))), (q26, .inl (cI, 50, .inl (fun _ => 0))), (q27, .inl (cI, 24, .inl (fun _ => 0))), (q28, .inl (cI, 6, .inl (flF (fun _ => 0) (-1) 6))), (q29, .inl (cI, 6, .inl (fun _ => 0)))] := ew29
  clear ef28 ew28
  refine lv_aload_n hx hb dX8_init_370 rfl (lv_at hl 0 rfl) ?_
  refine lv_sipush (v := 360) hx hb dX8_init_371 (by decide) ?_
  refine va_newa (D := D) (atype := .long) (ty := .long) (N' := 360) (a0 := (360, .inr (.inl (fun _ => 0)))) hx hb (hts _ ac_J) rfl hK hP hD hS hA (fun _ => rfl) (by decide) (by decide) (by decide) (Nat.le_of_ble_eq_true rfl) (Nat.le_of_ble_eq_true rfl) dX8_init_374 (fun q30 cJ H hK hP hD hS => ?_)
  have hK : va_K D vwCl [(cI, .int), (cB, .byte), (cS, .short), (cZ, .boolean), (cJ, .long)] s := hK.sub [0, 1, 2, 3, 4] rfl
  have hP : va_P D vwCl ((h0, .inr (8, fs29)) :: (wr29 ++ [(q30, .inl (cJ, 360, .inr (.inl (fun _ => 0))))])) H := hP
  have hD : va_D A ((h0, .inr (8, fs29)) :: (wr29 ++ [(q30, .inl (cJ, 360, .inr (.inl (fun _ => 0))))])) := hD
  refine va_putF (D := D) (ci := 8) (v := .ref q30) (ty := .array .long) (C := RX8) (T := TX8) (N := 47) hx hb hts (zlayi 8 (by decide)) tyX8 tyX8_ok nmX8 hown hK hP hD hS 0 rfl rfl 45 (by decide) (hts _ f8_100) (fun _ h9 => h9) rfl hin rfl (by decide +kernel) rfl rfl (by rw [hfs]; decide) dX8_init_376 (fun H locs hP hD hS => ?_)
  have hP : va_P D vwCl ((h0, .inr (8, fs29.set 45 (.ref q30))) :: (wr29 ++ [(q30, .inl (cJ, 360, .inr (.inl (fun _ => 0))))])) H := hP
  have hD : va_D A ((h0, .inr (8, fs29.set 45 (.ref q30))) :: (wr29 ++ [(q30, .inl (cJ, 360, .inr (.inl (fun _ => 0))))])) := hD
  obtain ⟨fs30, ef30⟩ : ∃ z, z = fs29.set 45 (.ref q30) := ⟨_, rfl⟩
  have hfs : fs30.length = 47 := by rw [ef30, List.length_set]; exact hfs
  obtain ⟨wr30, ew30⟩ : ∃ z : va_W, z = wr29 ++ [(q30, .inl (cJ, 360, .inr (.inl (fun _ => 0))))] := ⟨_, rfl⟩
  rw [← ef30, ← ew30] at hP hD
  rw [ef29] at ef30
  have ef30 : fs30 = [.int 0, .int 0, .ref q1, .ref q2, .ref q3, .int 0, .ref q4, .ref q5, .ref q6, .int 0, .ref q7, .ref q8, .int 0, .int 0, .ref q9, .ref q10, .ref q11, .ref q12, .ref q13, .int 0, .int 0, .int 0, .int 0, .int 0, .ref q14, .ref q15, .ref q16, .ref q17, .ref q18, .ref q19, .ref q20, .int 0, .ref q21, .ref q22, .ref q23, .ref q24, .int 0, .int 0, .ref q25, .int 0, .ref q26, .int 0, .ref q27, .ref q28, .ref q29, .ref q30, .null] := ef30
  rw [ew29] at ew30
  have ew30 : wr30 = [(q1, .inl (cI, 12, .inl (fun _ => 0))), (q2, .inl (cI, 12, .inl (fun _ => 0))), (q3, .inl (cI, 12, .inl (flF (fun _ => 0) (-1) 12))), (q4, .inl (cI, 16, .inl (fun _ => 0))), (q5, .inl (cI, 16, .inl (fun _ => 0))), (q6, .inl (cI, 16, .inl (fun _ => 0))), (q7, .inl (cI, 12, .inl (flF (fun _ => 0) 1 12))), (q8, .inl (cI, 12, .inl (fun _ => 0))), (q9, .inl (cI, 40, .inl (fun _ => 0))), (q10, .inl (cI, 40, .inl (fun _ => 0))), (q11, .inl (cI, 40, .inl (fun _ => 0))), (q12, .inl (cI, 40, .inl (fun _ => 0))), (q13, .inl (cB, 120, .inl (fun _ => 0))), (q14, .inl (cB, 260, .inl (fun _ => 0))), (q15, .inl (cI, 260, .inl (fun _ => 0))), (q16, .inl (cI, 2, .inl (fun _ => 0))), (q17, .inl (cS, 122, .inl (fun _ => 0))), (q18, .inl (cS, 122, .inl (fun _ => 0))), (q19, .inl (cI, 6, .inl (fun _ => 0))), (q20, .inl (cI, 130, .inl (fun _ => 0))), (q21, .inl (cI, 12, .inl (fun _ => 0))), (q22, .inl (cZ, 16, .inl (fun _ => 0))), (q23, .inl (cI, 12, .inl (fun _ => 0))), (q24, .inl (cI, 12, .inl (fun _ => 0))), (q25, .inl (cI, 12, .inl (fun _ => 0))), (q26, .inl (cI, 50, .inl (fun _ => 0))), (q27, .inl (cI, 24, .inl (fun _ => 0))), (q28, .inl (cI, 6, .inl (flF (fun _ => 0) (-1) 6))), (q29, .inl (cI, 6, .inl (fun _ => 0))), (q30, .inl (cJ, 360, .inr (.inl (fun _ => 0))))] := ew30
  clear ef29 ew29
  refine lv_aload_n hx hb dX8_init_379 rfl (lv_at hl 0 rfl) ?_
  refine lv_bipush (v := 60) hx hb dX8_init_380 (by decide) ?_
  refine va_newa (D := D) (atype := .long) (ty := .long) (N' := 60) (a0 := (60, .inr (.inl (fun _ => 0)))) hx hb (hts _ ac_J) rfl hK hP hD hS hA (fun _ => rfl) (by decide) (by decide) (by decide) (Nat.le_of_ble_eq_true rfl) (Nat.le_of_ble_eq_true rfl) dX8_init_382 (fun q31 cA H hK hP hD hS => ?_)
  obtain rfl : cJ = cA := ka_uq (ty := .long) rfl (hK.2 4 _ rfl).2 (hK.2 5 _ rfl).2
  have hK : va_K D vwCl [(cI, .int), (cB, .byte), (cS, .short), (cZ, .boolean), (cJ, .long)] s := hK.sub [0, 1, 2, 3, 4] rfl
  have hP : va_P D vwCl ((h0, .inr (8, fs30)) :: (wr30 ++ [(q31, .inl (cJ, 60, .inr (.inl (fun _ => 0))))])) H := hP
  have hD : va_D A ((h0, .inr (8, fs30)) :: (wr30 ++ [(q31, .inl (cJ, 60, .inr (.inl (fun _ => 0))))])) := hD
  refine va_putF (D := D) (ci := 8) (v := .ref q31) (ty := .array .long) (C := RX8) (T := TX8) (N := 47) hx hb hts (zlayi 8 (by decide)) tyX8 tyX8_ok nmX8 hown hK hP hD hS 0 rfl rfl 46 (by decide) (hts _ f8_104) (fun _ h9 => h9) rfl hin rfl (by decide +kernel) rfl rfl (by rw [hfs]; decide) dX8_init_384 (fun H locs hP hD hS => ?_)
  have hP : va_P D vwCl ((h0, .inr (8, fs30.set 46 (.ref q31))) :: (wr30 ++ [(q31, .inl (cJ, 60, .inr (.inl (fun _ => 0))))])) H := hP
  have hD : va_D A ((h0, .inr (8, fs30.set 46 (.ref q31))) :: (wr30 ++ [(q31, .inl (cJ, 60, .inr (.inl (fun _ => 0))))])) := hD
  obtain ⟨fs31, ef31⟩ : ∃ z, z = fs30.set 46 (.ref q31) := ⟨_, rfl⟩
  have hfs : fs31.length = 47 := by rw [ef31, List.length_set]; exact hfs
  obtain ⟨wr31, ew31⟩ : ∃ z : va_W, z = wr30 ++ [(q31, .inl (cJ, 60, .inr (.inl (fun _ => 0))))] := ⟨_, rfl⟩
  rw [← ef31, ← ew31] at hP hD
  rw [ef30] at ef31
  have ef31 : fs31 = [.int 0, .int 0, .ref q1, .ref q2, .ref q3, .int 0, .ref q4, .ref q5, .ref q6, .int 0, .ref q7, .ref q8, .int 0, .int 0, .ref q9, .ref q10, .ref q11, .ref q12, .ref q13, .int 0, .int 0, .int 0, .int 0, .int 0, .ref q14, .ref q15, .ref q16, .ref q17, .ref q18, .ref q19, .ref q20, .int 0, .ref q21, .ref q22, .ref q23, .ref q24, .int 0, .int 0, .ref q25, .int 0, .ref q26, .int 0, .ref q27, .ref q28, .ref q29, .ref q30, .ref q31] := ef31
  rw [ew30] at ew31
  have ew31 : wr31 = [(q1, .inl (cI, 12, .inl (fun _ => 0))), (q2, .inl (cI, 12, .inl (fun _ => 0))), (q3, .inl (cI, 12, .inl (flF (fun _ => 0) (-1) 12))), (q4, .inl (cI, 16, .inl (fun _ => 0))), (q5, .inl (cI, 16, .inl (fun _ => 0))), (q6, .inl (cI, 16, .inl (fun _ => 0))), (q7, .inl (cI, 12, .inl (flF (fun _ => 0) 1 12))), (q8, .inl (cI, 12, .inl (fun _ => 0))), (q9, .inl (cI, 40, .inl (fun _ => 0))), (q10, .inl (cI, 40, .inl (fun _ => 0))), (q11, .inl (cI, 40, .inl (fun _ => 0))), (q12, .inl (cI, 40, .inl (fun _ => 0))), (q13, .inl (cB, 120, .inl (fun _ => 0))), (q14, .inl (cB, 260, .inl (fun _ => 0))), (q15, .inl (cI, 260, .inl (fun _ => 0))), (q16, .inl (cI, 2, .inl (fun _ => 0))), (q17, .inl (cS, 122, .inl (fun _ => 0))), (q18, .inl (cS, 122, .inl (fun _ => 0))), (q19, .inl (cI, 6, .inl (fun _ => 0))), (q20, .inl (cI, 130, .inl (fun _ => 0))), (q21, .inl (cI, 12, .inl (fun _ => 0))), (q22, .inl (cZ, 16, .inl (fun _ => 0))), (q23, .inl (cI, 12, .inl (fun _ => 0))), (q24, .inl (cI, 12, .inl (fun _ => 0))), (q25, .inl (cI, 12, .inl (fun _ => 0))), (q26, .inl (cI, 50, .inl (fun _ => 0))), (q27, .inl (cI, 24, .inl (fun _ => 0))), (q28, .inl (cI, 6, .inl (flF (fun _ => 0) (-1) 6))), (q29, .inl (cI, 6, .inl (fun _ => 0))), (q30, .inl (cJ, 360, .inr (.inl (fun _ => 0)))), (q31, .inl (cJ, 60, .inr (.inl (fun _ => 0))))] := ew31
  clear ef30 ew30
  refine W.widen (k := 31) (n := 1860) (by omega) (by omega) ?_
  rw [ew31, ef31] at hP hD
  exact W.vret hx hb hr (fun t ht hW => ⟨⟨(), rfl, trivial, cI, q1, q2, q3, q4, q5, q6, q7, q8, q9, q10, q11, q12, cB, q13, q14, q15, q16, cS, q17, q18, q19, q20, q21, cZ, q22, q23, q24, q25, q26, q27, q28, q29, cJ, q30, q31, by rw [ht]; exact hP, va_K.moved hW.alike hK, hD⟩, hS.F ht⟩) hS.2.2 dX8_init_387
