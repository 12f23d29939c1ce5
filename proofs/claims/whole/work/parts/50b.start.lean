/-! the start: the static arrays, the text of letters -/
def gvF : List Cond := flatC (Jvm.Cond.and given_1 narrow_1)
theorem gv_own : ∀ j : Nat, j < 32 → Cond.eq (.elem (.static RX1 "OWN_BODIES" "[I") (.int (Int32.ofNat j))) (.int (Int32.ofInt (zsv 2 j))) ∈ gvF := by decide +kernel
theorem gv_abv : ∀ j : Nat, j < 8 → Cond.eq (.elem (.static RX1 "ABOVE" "[I") (.int (Int32.ofNat j))) (.int (Int32.ofInt (zsv 1 j))) ∈ gvF := by decide +kernel
theorem gv_str : ∀ j : Nat, j < 6 → Cond.eq (.elem (.field (.string RX2 93) "java/lang/String" "value" "[B") (.int (Int32.ofNat j))) (.int (([97, 100, 102, 119, 105, 110] : List Int32).getD j 0)) ∈ gvF := by decide +kernel
theorem ls_own : Cond.laysStatic RX1 "OWN_BODIES" "[I" ∈ lw_tbl := List.mem_append_right _ (List.mem_append_right _ (List.mem_append_right _ (List.mem_append_right _ (List.mem_append_left _ (List.mem_of_getElem? (i := 157) (by decide +kernel))))))
theorem ls_abv : Cond.laysStatic RX1 "ABOVE" "[I" ∈ lw_tbl := List.mem_append_right _ (List.mem_append_right _ (List.mem_append_right _ (List.mem_append_right _ (List.mem_append_left _ (List.mem_of_getElem? (i := 163) (by decide +kernel))))))
theorem ls_cmp : Cond.laysStatic "java/lang/String" "COMPACT_STRINGS" "Z" ∈ lw_tbl := List.mem_append_right _ (List.mem_append_right _ (List.mem_append_right _ (List.mem_append_left _ (List.mem_of_getElem? (i := 12) (by decide +kernel)))))
theorem ls_str : Cond.stringRef RX2 93 "adfwin" ∈ lw_tbl := List.mem_append_right _ (List.mem_append_right _ (List.mem_append_left _ (List.mem_of_getElem? (i := 238) (by decide +kernel))))
theorem st_0 {s : State} {b : Nat} (hts : ∀ w ∈ lw_tbl, w.before #[Value.ref b] s = true) (hgv : (Jvm.Cond.and given_1 narrow_1).before #[Value.ref b] s = true) : ∃ (a1 a2 : Nat) (adK adV : Nat → Nat), ∀ adr : Nat → Nat, adr 1 = a1 → adr 2 = a2 → (∀ i ∈ zIDS, s.heap.size ≤ adr i) → zSt adr adK adV s s.heap := by
  have hs : ∀ c ∈ gvF, c.before #[Value.ref b] s = true := flat_of_before _ hgv
  have hA : ∀ a : Nat, a < s.heap.size → ¬ (fun q : Nat => s.heap.size ≤ q) a := fun a h => Nat.not_le.mpr h
  obtain ⟨a1, e1, t1⟩ := va_Tof (tm := .static RX1 "ABOVE" "[I") (ty := .int) (N := 8) (f := fun k => zI (zsv 1 k)) (Nat.le_of_ble_eq_true rfl) (hs _ (by decide +kernel)) (va_eqt (z := Int32.ofNat 8) (hs _ (by decide +kernel))) (fun j hj => va_eqt (hs _ (gv_abv j hj))) hA
  obtain ⟨a2, e2, t2⟩ := va_Tof (tm := .static RX1 "OWN_BODIES" "[I") (ty := .int) (N := 32) (f := fun k => zI (zsv 2 k)) (Nat.le_of_ble_eq_true rfl) (hs _ (by decide +kernel)) (va_eqt (z := Int32.ofNat 32) (hs _ (by decide +kernel))) (fun j hj => va_eqt (hs _ (gv_own j hj))) hA
  have z1 := va_Zof (A := fun q : Nat => s.heap.size ≤ q) (hts _ ls_abv) (hts _ (zTB_in ini_1)) e1 hA
  have z2 := va_Zof (A := fun q : Nat => s.heap.size ≤ q) (hts _ ls_own) (hts _ (zTB_in ini_1)) e2 hA
  have z3 := va_Zof (A := fun q : Nat => s.heap.size ≤ q) (hts _ ls_cmp) (hts _ (zTB_in ji_RJ0)) (va_eqi (z := 1) (hs _ (by decide +kernel))) hA
  obtain ⟨adK, adV, k1, k2⟩ := vk_Sof (args := #[Value.ref b]) (s := s) (N := 1) (tm := fun _ => .string RX2 93) (len := [6]) (byt := [[97, 100, 102, 119, 105, 110]]) (A := fun q : Nat => s.heap.size ≤ q) (fun i hi => by
    have : i = 0 := by omega
    subst this
    exact Nat.le_of_ble_eq_true rfl) (fun i _ => hs _ (by decide +kernel)) (fun i _ => hs _ (by decide +kernel)) (fun i _ => hs _ (by decide +kernel)) (fun i hi => by
    have : i = 0 := by omega
    subst this
    exact hs _ (by decide +kernel)) (fun i hi j hj => by
    have : i = 0 := by omega
    subst this
    exact hs _ (gv_str j hj)) (fun i j hi hj h => absurd (show i = j by omega) h) hA
  refine ⟨a1, a2, adK, adV, fun adr h1 h2 hn => ?_⟩
  have hB : ∀ q, zA adr q → s.heap.size ≤ q := by
    rintro q ⟨i, hi, e⟩
    rw [e]; exact hn i hi
  refine ⟨fun q hq => ?_, vk_R.of (A := #[Value.ref b]) (hts _ ls_str) (k2 0 (by omega)), k1.narrow hB, z3.narrow hB⟩
  rcases hq with rfl | rfl
  · rw [h1]; exact ⟨z1.narrow hB, t1.narrow hB⟩
  · rw [h2]; exact ⟨z2.narrow hB, t2.narrow hB⟩
