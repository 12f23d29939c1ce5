/-! letterOf: indexOf over a constant text -/
def SF (adK adV : Nat → Nat) (U : State) : Prop := vk_S 1 [6] [[97, 100, 102, 119, 105, 110]] adK adV (fun _ => False) U U.heap ∧ va_Z "java/lang/String" "COMPACT_STRINGS" "Z" (.int 1) (fun _ => False) U U.heap
theorem SF_warm {adK adV : Nat → Nat} {s U : State} (hW : s.WarmedH U.vm) (hq : ∀ a : Nat, a < s.heap.size → ¬ False → U.heap[a]? = s.heap[a]?) (h : SF adK adV s) : SF adK adV U := ⟨(h.1.moved hW.alike).kept hq, (h.2.moved hW.alike).kept hq⟩
theorem SF_call {adK adV : Nat → Nat} {U : State} {g : JFrame} {mk : MethodId} {a : Array Value} (h : SF adK adV U) : SF adK adV (U.calling g mk a) := ⟨h.1.moved (u := U) (U := U.calling g mk a) (Vm.Alike.refl U.vm), h.2.moved (u := U) (U := U.calling g mk a) (Vm.Alike.refl U.vm)⟩
theorem jw_ix1 : Cond.code yJ0_indexOf_0f7a4 cJ0_indexOf_0f7a4 2 (some .int) ∈ zTB := zin3 2 (by decide +kernel) rfl
theorem jn_ix1 : Cond.instanceMethod yJ0_indexOf_0f7a4 ∈ zTB ∧ Cond.selects RJ0 yJ0_indexOf_0f7a4 yJ0_indexOf_0f7a4 ∈ zTB := ⟨zin3 0 (by decide +kernel) rfl, zin3 1 (by decide +kernel) rfl⟩
theorem jw_ix2 : Cond.code yJ0_indexOf_7cf53 cJ0_indexOf_7cf53 3 (some .int) ∈ zTB := zin3 6 (by decide +kernel) rfl
theorem jn_ix2 : Cond.instanceMethod yJ0_indexOf_7cf53 ∈ zTB ∧ Cond.selects RJ0 yJ0_indexOf_7cf53 yJ0_indexOf_7cf53 ∈ zTB := ⟨zin3 4 (by decide +kernel) rfl, zin3 5 (by decide +kernel) rfl⟩
theorem jw_isL : Cond.code yJ0_isLatin1_aae02 cJ0_isLatin1_aae02 1 (some .boolean) ∈ zTB := zin3 10 (by decide +kernel) rfl
theorem jn_isL : Cond.instanceMethod yJ0_isLatin1_aae02 ∈ zTB ∧ Cond.selects RJ0 yJ0_isLatin1_aae02 yJ0_isLatin1_aae02 ∈ zTB := ⟨zin3 8 (by decide +kernel) rfl, zin3 9 (by decide +kernel) rfl⟩
theorem jw_len : Cond.code yJ0_length_8abf5 cJ0_length_8abf5 1 (some .int) ∈ zTB := zin3 16 (by decide +kernel) rfl
theorem jn_len : Cond.instanceMethod yJ0_length_8abf5 ∈ zTB ∧ Cond.selects RJ0 yJ0_length_8abf5 yJ0_length_8abf5 ∈ zTB := ⟨zin3 14 (by decide +kernel) rfl, zin3 15 (by decide +kernel) rfl⟩
theorem jw_cod : Cond.code yJ0_coder_7d493 cJ0_coder_7d493 1 (some .byte) ∈ zTB := zin3 20 (by decide +kernel) rfl
theorem jn_cod : Cond.instanceMethod yJ0_coder_7d493 ∈ zTB ∧ Cond.selects RJ0 yJ0_coder_7d493 yJ0_coder_7d493 ∈ zTB := ⟨zin3 18 (by decide +kernel) rfl, zin3 19 (by decide +kernel) rfl⟩
theorem jw_lix : Cond.code yJ1_indexOf_4cfef cJ1_indexOf_4cfef 4 (some .int) ∈ zTB := zin3 23 (by decide +kernel) rfl
theorem js_lix : Cond.static yJ1_indexOf_4cfef ∈ zTB := zin3 22 (by decide +kernel) rfl
theorem jw_can : Cond.code yJ1_canEncode_9a6ad cJ1_canEncode_9a6ad 1 (some .boolean) ∈ zTB := zin3 26 (by decide +kernel) rfl
theorem js_can : Cond.static yJ1_canEncode_9a6ad ∈ zTB := zin3 25 (by decide +kernel) rfl
theorem jw_ixc : Cond.code yJ1_indexOfChar_4cfef cJ1_indexOfChar_4cfef 6 (some .int) ∈ zTB := zin3 35 (by decide +kernel) rfl
theorem js_ixc : Cond.static yJ1_indexOfChar_4cfef ∈ zTB := zin3 34 (by decide +kernel) rfl
theorem ji_RJ0 : Cond.initialized RJ0 ∈ zTB := zin1 12 (by decide +kernel) rfl
theorem ji_RJ1 : Cond.initialized RJ1 ∈ zTB := zin1 13 (by decide +kernel) rfl
theorem ji_math : Cond.initialized "java/lang/Math" ∈ zTB := zin1 14 (by decide +kernel) rfl
theorem jl_633 : Cond.methodLink RJ0 633 yJ0_indexOf_7cf53 ∈ zTB := zin3 3 (by decide +kernel) rfl
theorem jl_492 : Cond.methodLink RJ0 492 yJ0_isLatin1_aae02 ∈ zTB := zin3 7 (by decide +kernel) rfl
theorem jl_505 : Cond.methodLink RJ0 505 yJ0_length_8abf5 ∈ zTB := zin3 13 (by decide +kernel) rfl
theorem jl_335 : Cond.methodLink RJ0 335 yJ0_coder_7d493 ∈ zTB := zin3 17 (by decide +kernel) rfl
theorem jl_637 : Cond.methodLink RJ0 637 yJ1_indexOf_4cfef ∈ zTB := zin3 21 (by decide +kernel) rfl
theorem jl_88 : Cond.methodLink RJ1 88 yJ1_canEncode_9a6ad ∈ zTB := zin3 24 (by decide +kernel) rfl
theorem jl_95 : Cond.methodLink RJ1 95 yJ1_indexOfChar_4cfef ∈ zTB := zin3 33 (by decide +kernel) rfl
theorem jl_92 : Cond.methodLink RJ1 92 Lib.Math.max.name ∈ zTB := zin3 27 (by decide +kernel) rfl
theorem jl_38 : Cond.methodLink RJ1 38 Lib.Math.min.name ∈ zTB := zin3 30 (by decide +kernel) rfl
theorem jl_l95 : Cond.methodLink RX2 95 yJ0_indexOf_0f7a4 ∈ zTB := zin2 239 (by decide +kernel) rfl
theorem jf_38 : Cond.fieldLink RJ0 38 RJ0 "COMPACT_STRINGS" "Z" ∈ zTB := zin3 11 (by decide +kernel) rfl
theorem jf_15 : Cond.fieldLink RJ0 15 RJ0 "coder" "B" ∈ zTB := zin7 72 (by decide +kernel) rfl
theorem jf_9 : Cond.fieldLink RJ0 9 RJ0 "value" "[B" ∈ zTB := zin7 73 (by decide +kernel) rfl
set_option maxHeartbeats 1000000 in
theorem q_can (l : Launch) (adK adV : Nat → Nat) (x : Int32) : Met l yJ1_canEncode_9a6ad (Cond.code yJ1_canEncode_9a6ad cJ1_canEncode_9a6ad 1 (some .boolean) :: zTB) ({ frames := 0, cells := 0, slots := 0, locals := 0 }) (va_Pc [.int x] (fun U => SF adK adV U)) (va_Qi (fun (r : Int32) (_ : Unit) => r = (if ¬ x < 0 ∧ ¬ 255 < x then 1 else 0)) (fun _ _ => True) (fun _ => False)) 0 0 (fun _ => False) := by
  refine Met.ofW (cc := cJ1_canEncode_9a6ad) (maxL := 1) (ret := some .boolean) (by decide) rfl ?_
  intro p e s m args below meth c s₁ B hml hv
  obtain ⟨rfl, hSF⟩ := hv
  have hx := B.exec
  have hb := B.bytes
  have hr := B.returns
  have hts0 := atoms_spec (ws := Cond.code yJ1_canEncode_9a6ad cJ1_canEncode_9a6ad 1 (some .boolean) :: zTB) B.pre
  have hts : ∀ w ∈ zTB, w.before ([.int x] : List Value).toArray s = true := fun w hw => hts0 w (List.mem_cons_of_mem _ hw)
  have hown : s.vm.findClass RJ1 = some m.cls := findClass_of_methodNamed B.named
  have hlocks := B.notSynchronized
  have hS : va_S (fun _ => False) s.heap s.heap [] := va_S.rf
  have hl := lv_entry ([.int x]) (n := 1) (Nat.le_of_ble_eq_true rfl)
  rw [lg_entry_eq]
  generalize (lg_sl ([.int x]) ++ List.replicate (1 - (lg_sl ([.int x])).length) Slot.unset).toArray = ls at hl ⊢
  have hl : lv_has ls 1 [(0, .int x)] := hl
  refine lv_iload_n hx hb dJ1_canEncode_9a6ad_0 rfl (lv_at hl 0 rfl) ?_
  refine lv_if_lt (tgt := 15) hx hb dJ1_canEncode_9a6ad_1 (by decide) (fun h => ?_) (fun h => ?_)
  · refine lv_iconst (v := 0) hx hb dJ1_canEncode_9a6ad_15 (by decide) ?_
    exact W.zret hx hb hr (by decide) (fun t ht hW => ⟨⟨_, (), rfl, by rw [if_neg (fun z => z.1 h)], trivial⟩, hS.F ht⟩) hS.2.2 dJ1_canEncode_9a6ad_16
  · refine lv_iload_n hx hb dJ1_canEncode_9a6ad_4 rfl (lv_at hl 0 rfl) ?_
    refine lv_sipush (v := 255) hx hb dJ1_canEncode_9a6ad_5 (by decide) ?_
    refine lv_icmp_gt (tgt := 15) hx hb dJ1_canEncode_9a6ad_8 (by decide) (fun h2 => ?_) (fun h2 => ?_)
    · refine lv_iconst (v := 0) hx hb dJ1_canEncode_9a6ad_15 (by decide) ?_
      exact W.zret hx hb hr (by decide) (fun t ht hW => ⟨⟨_, (), rfl, by rw [if_neg (fun z => z.2 h2)], trivial⟩, hS.F ht⟩) hS.2.2 dJ1_canEncode_9a6ad_16
    · refine lv_iconst (v := 1) hx hb dJ1_canEncode_9a6ad_11 (by decide) ?_
      refine lv_goto (tgt := 16) hx hb dJ1_canEncode_9a6ad_12 (by decide) ?_
      exact W.zret hx hb hr (by decide) (fun t ht hW => ⟨⟨_, (), rfl, by rw [if_pos ⟨h, h2⟩], trivial⟩, hS.F ht⟩) hS.2.2 dJ1_canEncode_9a6ad_16
def ixcF (x : Int32) : Int32 := if 97 = x then 0 else if 100 = x then 1 else if 102 = x then 2 else if 119 = x then 3 else if 105 = x then 4 else if 110 = x then 5 else -1
set_option maxHeartbeats 1000000 in
theorem q_ixc (l : Launch) (adK adV : Nat → Nat) (x : Int32) : Met l yJ1_indexOfChar_4cfef (Cond.code yJ1_indexOfChar_4cfef cJ1_indexOfChar_4cfef 6 (some .int) :: zTB) ({ frames := 0, cells := 0, slots := 0, locals := 0 }) (va_Pc [.ref (adV 0), .int x, .int 0, .int 6] (fun U => SF adK adV U)) (va_Qi (fun (r : Int32) (_ : Unit) => r = ixcF x.toInt8.toInt32) (fun _ _ => True) (fun _ => False)) 0 0 (fun _ => False) := by
  refine Met.ofW (cc := cJ1_indexOfChar_4cfef) (maxL := 6) (ret := some .int) (by decide) rfl ?_
  intro p e s m args below meth c s₁ B hml hv
  obtain ⟨rfl, hSF⟩ := hv
  have hx := B.exec
  have hb := B.bytes
  have hr := B.returns
  have hts0 := atoms_spec (ws := Cond.code yJ1_indexOfChar_4cfef cJ1_indexOfChar_4cfef 6 (some .int) :: zTB) B.pre
  have hts : ∀ w ∈ zTB, w.before ([.ref (adV 0), .int x, .int 0, .int 6] : List Value).toArray s = true := fun w hw => hts0 w (List.mem_cons_of_mem _ hw)
  have hown : s.vm.findClass RJ1 = some m.cls := findClass_of_methodNamed B.named
  have hlocks := B.notSynchronized
  have hS : va_S (fun _ => False) s.heap s.heap [] := va_S.rf
  have hl := lv_entry ([.ref (adV 0), .int x, .int 0, .int 6]) (n := 6) (Nat.le_of_ble_eq_true rfl)
  rw [lg_entry_eq]
  generalize (lg_sl ([.ref (adV 0), .int x, .int 0, .int 6]) ++ List.replicate (6 - (lg_sl ([.ref (adV 0), .int x, .int 0, .int 6])).length) Slot.unset).toArray = ls at hl ⊢
  have hl : lv_has ls 6 [(0, .ref (adV 0)), (1, .int x), (2, .int 0), (3, .int 6)] := hl
  obtain ⟨y, hy⟩ : ∃ y, y = x.toInt8.toInt32 := ⟨_, rfl⟩
  rw [← hy]
  refine lv_iload_n hx hb dJ1_indexOfChar_4cfef_0 rfl (lv_at hl 1 rfl) ?_
  refine lv_i2b (v := y) hx hb dJ1_indexOfChar_4cfef_1 hy.symm ?_
  refine lv_istore (lv' := [(4, .int y), (0, .ref (adV 0)), (1, .int x), (2, .int 0), (3, .int 6)]) hx hb dJ1_indexOfChar_4cfef_2 hl (by decide) rfl (fun ls hl => ?_)
  refine lv_iload_n hx hb dJ1_indexOfChar_4cfef_4 rfl (lv_at hl 3 rfl) ?_
  refine lv_istore (lv' := [(5, .int 0), (4, .int y), (0, .ref (adV 0)), (1, .int x), (2, .int 0), (3, .int 6)]) hx hb dJ1_indexOfChar_4cfef_5 hl (by decide) rfl (fun ls hl => ?_)
  refine lv_iload hx hb dJ1_indexOfChar_4cfef_7 (lv_at hl 0 rfl) ?_
  refine lv_iload_n hx hb dJ1_indexOfChar_4cfef_9 rfl (lv_at hl 5 rfl) ?_
  refine lv_icmp_ge (tgt := 31) hx hb dJ1_indexOfChar_4cfef_10 (by decide) (fun h => absurd h (by decide)) (fun _ => ?_)
  refine lv_aload_n hx hb dJ1_indexOfChar_4cfef_13 rfl (lv_at hl 2 rfl) ?_
  refine lv_iload hx hb dJ1_indexOfChar_4cfef_14 (lv_at hl 0 rfl) ?_
  refine va_tb hx hb (hSF.1.1 0 (by decide)).2.2.2 hS (show vp_in (nI 0) 6 from vp_in_nI (by decide) (by decide)) (v := .int 97) rfl dJ1_indexOfChar_4cfef_16 ?_
  refine lv_iload hx hb dJ1_indexOfChar_4cfef_17 (lv_at hl 1 rfl) ?_
  refine lv_icmp_ne (tgt := 25) hx hb dJ1_indexOfChar_4cfef_19 (by decide) (fun k0 => ?_) (fun k0 => ?_)
  rotate_left
  · refine lv_iload hx hb dJ1_indexOfChar_4cfef_22 (lv_at hl 0 rfl) ?_
    exact W.iret hx hb hr (fun t ht hW => ⟨⟨_, (), rfl, by rw [ixcF, if_pos k0], trivial⟩, hS.F ht⟩) hS.2.2 dJ1_indexOfChar_4cfef_24
  refine lv_iinc (k := 0) (v := 1) (lv' := [(5, .int 1), (4, .int y), (0, .ref (adV 0)), (1, .int x), (2, .int 0), (3, .int 6)]) hx hb dJ1_indexOfChar_4cfef_25 hl rfl (by decide) (by decide) rfl (fun ls hl => ?_)
  refine lv_goto (tgt := 7) hx hb dJ1_indexOfChar_4cfef_28 (by decide) ?_
  refine lv_iload hx hb dJ1_indexOfChar_4cfef_7 (lv_at hl 0 rfl) ?_
  refine lv_iload_n hx hb dJ1_indexOfChar_4cfef_9 rfl (lv_at hl 5 rfl) ?_
  refine lv_icmp_ge (tgt := 31) hx hb dJ1_indexOfChar_4cfef_10 (by decide) (fun h => absurd h (by decide)) (fun _ => ?_)
  refine lv_aload_n hx hb dJ1_indexOfChar_4cfef_13 rfl (lv_at hl 2 rfl) ?_
  refine lv_iload hx hb dJ1_indexOfChar_4cfef_14 (lv_at hl 0 rfl) ?_
  refine va_tb hx hb (hSF.1.1 0 (by decide)).2.2.2 hS (show vp_in (nI 1) 6 from vp_in_nI (by decide) (by decide)) (v := .int 100) rfl dJ1_indexOfChar_4cfef_16 ?_
  refine lv_iload hx hb dJ1_indexOfChar_4cfef_17 (lv_at hl 1 rfl) ?_
  refine lv_icmp_ne (tgt := 25) hx hb dJ1_indexOfChar_4cfef_19 (by decide) (fun k1 => ?_) (fun k1 => ?_)
  rotate_left
  · refine lv_iload hx hb dJ1_indexOfChar_4cfef_22 (lv_at hl 0 rfl) ?_
    exact W.iret hx hb hr (fun t ht hW => ⟨⟨_, (), rfl, by rw [ixcF, if_neg k0, if_pos k1], trivial⟩, hS.F ht⟩) hS.2.2 dJ1_indexOfChar_4cfef_24
  refine lv_iinc (k := 0) (v := 2) (lv' := [(5, .int 2), (4, .int y), (0, .ref (adV 0)), (1, .int x), (2, .int 0), (3, .int 6)]) hx hb dJ1_indexOfChar_4cfef_25 hl rfl (by decide) (by decide) rfl (fun ls hl => ?_)
  refine lv_goto (tgt := 7) hx hb dJ1_indexOfChar_4cfef_28 (by decide) ?_
  refine lv_iload hx hb dJ1_indexOfChar_4cfef_7 (lv_at hl 0 rfl) ?_
  refine lv_iload_n hx hb dJ1_indexOfChar_4cfef_9 rfl (lv_at hl 5 rfl) ?_
  refine lv_icmp_ge (tgt := 31) hx hb dJ1_indexOfChar_4cfef_10 (by decide) (fun h => absurd h (by decide)) (fun _ => ?_)
  refine lv_aload_n hx hb dJ1_indexOfChar_4cfef_13 rfl (lv_at hl 2 rfl) ?_
  refine lv_iload hx hb dJ1_indexOfChar_4cfef_14 (lv_at hl 0 rfl) ?_
  refine va_tb hx hb (hSF.1.1 0 (by decide)).2.2.2 hS (show vp_in (nI 2) 6 from vp_in_nI (by decide) (by decide)) (v := .int 102) rfl dJ1_indexOfChar_4cfef_16 ?_
  refine lv_iload hx hb dJ1_indexOfChar_4cfef_17 (lv_at hl 1 rfl) ?_
  refine lv_icmp_ne (tgt := 25) hx hb dJ1_indexOfChar_4cfef_19 (by decide) (fun k2 => ?_) (fun k2 => ?_)
  rotate_left
  · refine lv_iload hx hb dJ1_indexOfChar_4cfef_22 (lv_at hl 0 rfl) ?_
    exact W.iret hx hb hr (fun t ht hW => ⟨⟨_, (), rfl, by rw [ixcF, if_neg k0, if_neg k1, if_pos k2], trivial⟩, hS.F ht⟩) hS.2.2 dJ1_indexOfChar_4cfef_24
  refine lv_iinc (k := 0) (v := 3) (lv' := [(5, .int 3), (4, .int y), (0, .ref (adV 0)), (1, .int x), (2, .int 0), (3, .int 6)]) hx hb dJ1_indexOfChar_4cfef_25 hl rfl (by decide) (by decide) rfl (fun ls hl => ?_)
  refine lv_goto (tgt := 7) hx hb dJ1_indexOfChar_4cfef_28 (by decide) ?_
  refine lv_iload hx hb dJ1_indexOfChar_4cfef_7 (lv_at hl 0 rfl) ?_
  refine lv_iload_n hx hb dJ1_indexOfChar_4cfef_9 rfl (lv_at hl 5 rfl) ?_
  refine lv_icmp_ge (tgt := 31) hx hb dJ1_indexOfChar_4cfef_10 (by decide) (fun h => absurd h (by decide)) (fun _ => ?_)
  refine lv_aload_n hx hb dJ1_indexOfChar_4cfef_13 rfl (lv_at hl 2 rfl) ?_
  refine lv_iload hx hb dJ1_indexOfChar_4cfef_14 (lv_at hl 0 rfl) ?_
  refine va_tb hx hb (hSF.1.1 0 (by decide)).2.2.2 hS (show vp_in (nI 3) 6 from vp_in_nI (by decide) (by decide)) (v := .int 119) rfl dJ1_indexOfChar_4cfef_16 ?_
  refine lv_iload hx hb dJ1_indexOfChar_4cfef_17 (lv_at hl 1 rfl) ?_
  refine lv_icmp_ne (tgt := 25) hx hb dJ1_indexOfChar_4cfef_19 (by decide) (fun k3 => ?_) (fun k3 => ?_)
  rotate_left
  · refine lv_iload hx hb dJ1_indexOfChar_4cfef_22 (lv_at hl 0 rfl) ?_
    exact W.iret hx hb hr (fun t ht hW => ⟨⟨_, (), rfl, by rw [ixcF, if_neg k0, if_neg k1, if_neg k2, if_pos k3], trivial⟩, hS.F ht⟩) hS.2.2 dJ1_indexOfChar_4cfef_24
  refine lv_iinc (k := 0) (v := 4) (lv' := [(5, .int 4), (4, .int y), (0, .ref (adV 0)), (1, .int x), (2, .int 0), (3, .int 6)]) hx hb dJ1_indexOfChar_4cfef_25 hl rfl (by decide) (by decide) rfl (fun ls hl => ?_)
  refine lv_goto (tgt := 7) hx hb dJ1_indexOfChar_4cfef_28 (by decide) ?_
  refine lv_iload hx hb dJ1_indexOfChar_4cfef_7 (lv_at hl 0 rfl) ?_
  refine lv_iload_n hx hb dJ1_indexOfChar_4cfef_9 rfl (lv_at hl 5 rfl) ?_
  refine lv_icmp_ge (tgt := 31) hx hb dJ1_indexOfChar_4cfef_10 (by decide) (fun h => absurd h (by decide)) (fun _ => ?_)
  refine lv_aload_n hx hb dJ1_indexOfChar_4cfef_13 rfl (lv_at hl 2 rfl) ?_
  refine lv_iload hx hb dJ1_indexOfChar_4cfef_14 (lv_at hl 0 rfl) ?_
  refine va_tb hx hb (hSF.1.1 0 (by decide)).2.2.2 hS (show vp_in (nI 4) 6 from vp_in_nI (by decide) (by decide)) (v := .int 105) rfl dJ1_indexOfChar_4cfef_16 ?_
  refine lv_iload hx hb dJ1_indexOfChar_4cfef_17 (lv_at hl 1 rfl) ?_
  refine lv_icmp_ne (tgt := 25) hx hb dJ1_indexOfChar_4cfef_19 (by decide) (fun k4 => ?_) (fun k4 => ?_)
  rotate_left
  · refine lv_iload hx hb dJ1_indexOfChar_4cfef_22 (lv_at hl 0 rfl) ?_
    exact W.iret hx hb hr (fun t ht hW => ⟨⟨_, (), rfl, by rw [ixcF, if_neg k0, if_neg k1, if_neg k2, if_neg k3, if_pos k4], trivial⟩, hS.F ht⟩) hS.2.2 dJ1_indexOfChar_4cfef_24
  refine lv_iinc (k := 0) (v := 5) (lv' := [(5, .int 5), (4, .int y), (0, .ref (adV 0)), (1, .int x), (2, .int 0), (3, .int 6)]) hx hb dJ1_indexOfChar_4cfef_25 hl rfl (by decide) (by decide) rfl (fun ls hl => ?_)
  refine lv_goto (tgt := 7) hx hb dJ1_indexOfChar_4cfef_28 (by decide) ?_
  refine lv_iload hx hb dJ1_indexOfChar_4cfef_7 (lv_at hl 0 rfl) ?_
  refine lv_iload_n hx hb dJ1_indexOfChar_4cfef_9 rfl (lv_at hl 5 rfl) ?_
  refine lv_icmp_ge (tgt := 31) hx hb dJ1_indexOfChar_4cfef_10 (by decide) (fun h => absurd h (by decide)) (fun _ => ?_)
  refine lv_aload_n hx hb dJ1_indexOfChar_4cfef_13 rfl (lv_at hl 2 rfl) ?_
  refine lv_iload hx hb dJ1_indexOfChar_4cfef_14 (lv_at hl 0 rfl) ?_
  refine va_tb hx hb (hSF.1.1 0 (by decide)).2.2.2 hS (show vp_in (nI 5) 6 from vp_in_nI (by decide) (by decide)) (v := .int 110) rfl dJ1_indexOfChar_4cfef_16 ?_
  refine lv_iload hx hb dJ1_indexOfChar_4cfef_17 (lv_at hl 1 rfl) ?_
  refine lv_icmp_ne (tgt := 25) hx hb dJ1_indexOfChar_4cfef_19 (by decide) (fun k5 => ?_) (fun k5 => ?_)
  rotate_left
  · refine lv_iload hx hb dJ1_indexOfChar_4cfef_22 (lv_at hl 0 rfl) ?_
    exact W.iret hx hb hr (fun t ht hW => ⟨⟨_, (), rfl, by rw [ixcF, if_neg k0, if_neg k1, if_neg k2, if_neg k3, if_neg k4, if_pos k5], trivial⟩, hS.F ht⟩) hS.2.2 dJ1_indexOfChar_4cfef_24
  refine lv_iinc (k := 0) (v := 6) (lv' := [(5, .int 6), (4, .int y), (0, .ref (adV 0)), (1, .int x), (2, .int 0), (3, .int 6)]) hx hb dJ1_indexOfChar_4cfef_25 hl rfl (by decide) (by decide) rfl (fun ls hl => ?_)
  refine lv_goto (tgt := 7) hx hb dJ1_indexOfChar_4cfef_28 (by decide) ?_
  refine lv_iload hx hb dJ1_indexOfChar_4cfef_7 (lv_at hl 0 rfl) ?_
  refine lv_iload_n hx hb dJ1_indexOfChar_4cfef_9 rfl (lv_at hl 5 rfl) ?_
  refine lv_icmp_ge (tgt := 31) hx hb dJ1_indexOfChar_4cfef_10 (by decide) (fun _ => ?_) (fun h => absurd (by decide) h)
  refine lv_iconst (v := -1) hx hb dJ1_indexOfChar_4cfef_31 (by decide) ?_
  exact W.iret hx hb hr (fun t ht hW => ⟨⟨_, (), rfl, by rw [ixcF, if_neg k0, if_neg k1, if_neg k2, if_neg k3, if_neg k4, if_neg k5], trivial⟩, hS.F ht⟩) hS.2.2 dJ1_indexOfChar_4cfef_32
def lixF (x : Int32) : Int32 := if ¬ x < 0 ∧ ¬ 255 < x then ixcF x.toInt8.toInt32 else -1
set_option maxHeartbeats 1000000 in
theorem q_lix (l : Launch) (adK adV : Nat → Nat) (x : Int32) : Met l yJ1_indexOf_4cfef (Cond.code yJ1_indexOf_4cfef cJ1_indexOf_4cfef 4 (some .int) :: zTB) ({ frames := 3, cells := 0, slots := 0, locals := 100 }) (va_Pc [.ref (adV 0), .int x, .int 0, .int 6] (fun U => SF adK adV U)) (va_Qi (fun (r : Int32) (_ : Unit) => r = lixF x) (fun _ _ => True) (fun _ => False)) 0 0 (fun _ => False) := by
  refine Met.ofW (cc := cJ1_indexOf_4cfef) (maxL := 4) (ret := some .int) (by decide) rfl ?_
  intro p e s m args below meth c s₁ B hml hv
  obtain ⟨rfl, hSF⟩ := hv
  have hx := B.exec
  have hb := B.bytes
  have hr := B.returns
  have hts0 := atoms_spec (ws := Cond.code yJ1_indexOf_4cfef cJ1_indexOf_4cfef 4 (some .int) :: zTB) B.pre
  have hts : ∀ w ∈ zTB, w.before ([.ref (adV 0), .int x, .int 0, .int 6] : List Value).toArray s = true := fun w hw => hts0 w (List.mem_cons_of_mem _ hw)
  have hown : s.vm.findClass RJ1 = some m.cls := findClass_of_methodNamed B.named
  have hlocks := B.notSynchronized
  have hS : va_S (fun _ => False) s.heap s.heap [] := va_S.rf
  have hl := lv_entry ([.ref (adV 0), .int x, .int 0, .int 6]) (n := 4) (Nat.le_of_ble_eq_true rfl)
  rw [lg_entry_eq]
  generalize (lg_sl ([.ref (adV 0), .int x, .int 0, .int 6]) ++ List.replicate (4 - (lg_sl ([.ref (adV 0), .int x, .int 0, .int 6])).length) Slot.unset).toArray = ls at hl ⊢
  have hl : lv_has ls 4 [(0, .ref (adV 0)), (1, .int x), (2, .int 0), (3, .int 6)] := hl
  refine lv_iload_n hx hb dJ1_indexOf_4cfef_0 rfl (lv_at hl 1 rfl) ?_
  refine va_calli (va_runS (As := [.int x]) (rest := []) ⟨hx, hb, hml, hown, hts⟩ (q_can l adK adV x) ⟨callB_of 1 hts (fun w h => zgood (by rcases List.mem_cons.mp h with rfl | h; exact jw_can; exact h)) rfl rfl rfl (hts _ ji_RJ1) (hts _ jl_88) (by decide +kernel) ⟨Nat.le_of_ble_eq_true rfl, Nat.le_of_ble_eq_true rfl⟩, hts _ js_can⟩ ⟨fun a U g mk q => ⟨q.1, SF_call q.2⟩, fun U hU hW => ⟨rfl, SF_warm hW (fun a h1 h2 => (congrArg (fun z : Heap => z[a]?) hU).trans (hS.2.1 a h1 h2)) hSF⟩⟩ rfl rfl hl.1 rfl (lv_room (Nat.le_of_ble_eq_true rfl)) dJ1_indexOf_4cfef_1 ⟨Nat.le_of_ble_eq_true rfl, Nat.le_of_ble_eq_true rfl⟩) hS (fun q _ h => h.elim) (fun q h => h.elim) (fun r1 u t H1 locs ht hvm hw hB hz1 hk1 hS => ?_)
  subst hw
  refine lv_if_ne (tgt := 9) hx hb dJ1_indexOf_4cfef_4 (by decide) (fun h => ?_) (fun h => ?_)
  rotate_left
  · refine lv_iconst (v := -1) hx hb dJ1_indexOf_4cfef_7 (by decide) ?_
    have hc : ¬ (¬ x < 0 ∧ ¬ 255 < x) := fun z => by rw [if_pos z] at h; exact absurd h (by decide)
    exact W.iret hx hb hr (fun t ht hW => ⟨⟨_, (), rfl, by rw [lixF, if_neg hc], trivial⟩, hS.F ht⟩) hS.2.2 dJ1_indexOf_4cfef_8
  have hc : ¬ x < 0 ∧ ¬ 255 < x := Classical.not_not.mp (fun z => h (by rw [if_neg z]))
  refine lv_iload_n hx hb dJ1_indexOf_4cfef_9 rfl (lv_at hl 2 rfl) ?_
  refine lv_iconst (v := 0) hx hb dJ1_indexOf_4cfef_10 (by decide) ?_
  refine va_mmax hx hb (by rw [hml]; exact hl.1.symm) hown (hts _ jl_92) (hts _ zmm_max.2) (hts _ ji_math) (hts _ zmm_max.1) (Nat.le_of_ble_eq_true rfl) (Nat.le_of_ble_eq_true rfl) (Nat.le_of_ble_eq_true rfl) (Nat.le_of_ble_eq_true rfl) dJ1_indexOf_4cfef_11 ?_
  refine lv_istore_n (lv' := [(2, .int 0), (0, .ref (adV 0)), (1, .int x), (3, .int 6)]) hx hb dJ1_indexOf_4cfef_14 rfl hl (by decide) rfl (fun ls hl => ?_)
  refine lv_iload_n hx hb dJ1_indexOf_4cfef_15 rfl (lv_at hl 3 rfl) ?_
  refine lv_aload_n hx hb dJ1_indexOf_4cfef_16 rfl (lv_at hl 1 rfl) ?_
  refine va_tlen hx hb (hSF.1.1 0 (by decide)).2.2.2 hS (v := 6) (by decide) dJ1_indexOf_4cfef_17 ?_
  refine va_mmin hx hb (by rw [hml]; exact hl.1.symm) hown (hts _ jl_38) (hts _ zmm_min.2) (hts _ ji_math) (hts _ zmm_min.1) (Nat.le_of_ble_eq_true rfl) (Nat.le_of_ble_eq_true rfl) (Nat.le_of_ble_eq_true rfl) (Nat.le_of_ble_eq_true rfl) dJ1_indexOf_4cfef_18 ?_
  refine lv_istore_n (lv' := [(3, .int 6), (2, .int 0), (0, .ref (adV 0)), (1, .int x)]) hx hb dJ1_indexOf_4cfef_21 rfl hl (by decide) rfl (fun ls hl => ?_)
  refine lv_iload_n hx hb dJ1_indexOf_4cfef_22 rfl (lv_at hl 1 rfl) ?_
  refine lv_iload_n hx hb dJ1_indexOf_4cfef_23 rfl (lv_at hl 0 rfl) ?_
  refine lv_icmp_lt (tgt := 29) hx hb dJ1_indexOf_4cfef_24 (by decide) (fun _ => ?_) (fun h2 => absurd (by decide) h2)
  refine lv_aload_n hx hb dJ1_indexOf_4cfef_29 rfl (lv_at hl 2 rfl) ?_
  refine lv_iload_n hx hb dJ1_indexOf_4cfef_30 rfl (lv_at hl 3 rfl) ?_
  refine lv_iload_n hx hb dJ1_indexOf_4cfef_31 rfl (lv_at hl 1 rfl) ?_
  refine lv_iload_n hx hb dJ1_indexOf_4cfef_32 rfl (lv_at hl 0 rfl) ?_
  refine va_calli (va_runS (As := [.ref (adV 0), .int x, .int 0, .int 6]) (rest := []) ⟨hx, hb, hml, hown, hts⟩ (q_ixc l adK adV x) ⟨callB_of 4 hts (fun w h => zgood (by rcases List.mem_cons.mp h with rfl | h; exact jw_ixc; exact h)) rfl rfl rfl (hts _ ji_RJ1) (hts _ jl_95) (by decide +kernel) ⟨Nat.le_of_ble_eq_true rfl, Nat.le_of_ble_eq_true rfl⟩, hts _ js_ixc⟩ ⟨fun a U g mk q => ⟨q.1, SF_call q.2⟩, fun U hU hW => ⟨rfl, SF_warm hW (fun a h1 h2 => (congrArg (fun z : Heap => z[a]?) hU).trans (hS.2.1 a h1 h2)) hSF⟩⟩ rfl rfl hl.1 rfl (lv_room (Nat.le_of_ble_eq_true rfl)) dJ1_indexOf_4cfef_33 ⟨Nat.le_of_ble_eq_true rfl, Nat.le_of_ble_eq_true rfl⟩) hS (fun q _ h => h.elim) (fun q h => h.elim) (fun r2 u t H1 locs ht hvm hw hB hz1 hk1 hS => ?_)
  subst hw
  exact W.iret hx hb hr (fun t ht hW => ⟨⟨_, (), rfl, by rw [lixF, if_pos hc], trivial⟩, hS.F ht⟩) hS.2.2 dJ1_indexOf_4cfef_36
set_option maxHeartbeats 1000000 in
theorem q_cod (l : Launch) (adK adV : Nat → Nat) : Met l yJ0_coder_7d493 (Cond.code yJ0_coder_7d493 cJ0_coder_7d493 1 (some .byte) :: zTB) ({ frames := 0, cells := 0, slots := 0, locals := 0 }) (va_Pc [.ref (adK 0)] (fun U => SF adK adV U)) (va_Qi (fun (r : Int32) (_ : Unit) => r = 0) (fun _ _ => True) (fun _ => False)) 0 0 (fun _ => False) := by
  refine Met.ofW (cc := cJ0_coder_7d493) (maxL := 1) (ret := some .byte) (by decide) rfl ?_
  intro p e s m args below meth c s₁ B hml hv
  obtain ⟨rfl, hSF⟩ := hv
  have hx := B.exec
  have hb := B.bytes
  have hr := B.returns
  have hts0 := atoms_spec (ws := Cond.code yJ0_coder_7d493 cJ0_coder_7d493 1 (some .byte) :: zTB) B.pre
  have hts : ∀ w ∈ zTB, w.before ([.ref (adK 0)] : List Value).toArray s = true := fun w hw => hts0 w (List.mem_cons_of_mem _ hw)
  have hown : s.vm.findClass RJ0 = some m.cls := findClass_of_methodNamed B.named
  have hlocks := B.notSynchronized
  have hS : va_S (fun _ => False) s.heap s.heap [] := va_S.rf
  have hl := lv_entry ([.ref (adK 0)]) (n := 1) (Nat.le_of_ble_eq_true rfl)
  rw [lg_entry_eq]
  generalize (lg_sl ([.ref (adK 0)]) ++ List.replicate (1 - (lg_sl ([.ref (adK 0)])).length) Slot.unset).toArray = ls at hl ⊢
  have hl : lv_has ls 1 [(0, .ref (adK 0))] := hl
  refine va_gets hx hb hSF.2 hS hown (hts _ jf_38) (fun _ h9 => h9) dJ0_coder_7d493_0 ?_
  refine lv_if_eq (tgt := 13) hx hb dJ0_coder_7d493_3 (by decide) (fun h => absurd h (by decide)) (fun _ => ?_)
  refine lv_aload_n hx hb dJ0_coder_7d493_6 rfl (lv_at hl 0 rfl) ?_
  refine vk_getf hx hb (hSF.1.1 0 (by decide)).2.1 hS hown (hts _ jf_15) (fun _ h9 => h9) dJ0_coder_7d493_7 ?_
  refine lv_goto (tgt := 14) hx hb dJ0_coder_7d493_10 (by decide) ?_
  exact W.zret hx hb hr (by decide) (fun t ht hW => ⟨⟨_, (), rfl, rfl, trivial⟩, hS.F ht⟩) hS.2.2 dJ0_coder_7d493_14
set_option maxHeartbeats 1000000 in
theorem q_isL (l : Launch) (adK adV : Nat → Nat) : Met l yJ0_isLatin1_aae02 (Cond.code yJ0_isLatin1_aae02 cJ0_isLatin1_aae02 1 (some .boolean) :: zTB) ({ frames := 0, cells := 0, slots := 0, locals := 0 }) (va_Pc [.ref (adK 0)] (fun U => SF adK adV U)) (va_Qi (fun (r : Int32) (_ : Unit) => r = 1) (fun _ _ => True) (fun _ => False)) 0 0 (fun _ => False) := by
  refine Met.ofW (cc := cJ0_isLatin1_aae02) (maxL := 1) (ret := some .boolean) (by decide) rfl ?_
  intro p e s m args below meth c s₁ B hml hv
  obtain ⟨rfl, hSF⟩ := hv
  have hx := B.exec
  have hb := B.bytes
  have hr := B.returns
  have hts0 := atoms_spec (ws := Cond.code yJ0_isLatin1_aae02 cJ0_isLatin1_aae02 1 (some .boolean) :: zTB) B.pre
  have hts : ∀ w ∈ zTB, w.before ([.ref (adK 0)] : List Value).toArray s = true := fun w hw => hts0 w (List.mem_cons_of_mem _ hw)
  have hown : s.vm.findClass RJ0 = some m.cls := findClass_of_methodNamed B.named
  have hlocks := B.notSynchronized
  have hS : va_S (fun _ => False) s.heap s.heap [] := va_S.rf
  have hl := lv_entry ([.ref (adK 0)]) (n := 1) (Nat.le_of_ble_eq_true rfl)
  rw [lg_entry_eq]
  generalize (lg_sl ([.ref (adK 0)]) ++ List.replicate (1 - (lg_sl ([.ref (adK 0)])).length) Slot.unset).toArray = ls at hl ⊢
  have hl : lv_has ls 1 [(0, .ref (adK 0))] := hl
  refine va_gets hx hb hSF.2 hS hown (hts _ jf_38) (fun _ h9 => h9) dJ0_isLatin1_aae02_0 ?_
  refine lv_if_eq (tgt := 17) hx hb dJ0_isLatin1_aae02_3 (by decide) (fun h => absurd h (by decide)) (fun _ => ?_)
  refine lv_aload_n hx hb dJ0_isLatin1_aae02_6 rfl (lv_at hl 0 rfl) ?_
  refine vk_getf hx hb (hSF.1.1 0 (by decide)).2.1 hS hown (hts _ jf_15) (fun _ h9 => h9) dJ0_isLatin1_aae02_7 ?_
  refine lv_if_ne (tgt := 17) hx hb dJ0_isLatin1_aae02_10 (by decide) (fun h => absurd rfl h) (fun _ => ?_)
  refine lv_iconst (v := 1) hx hb dJ0_isLatin1_aae02_13 (by decide) ?_
  refine lv_goto (tgt := 18) hx hb dJ0_isLatin1_aae02_14 (by decide) ?_
  exact W.zret hx hb hr (by decide) (fun t ht hW => ⟨⟨_, (), rfl, rfl, trivial⟩, hS.F ht⟩) hS.2.2 dJ0_isLatin1_aae02_18
set_option maxHeartbeats 1000000 in
theorem q_len (l : Launch) (adK adV : Nat → Nat) : Met l yJ0_length_8abf5 (Cond.code yJ0_length_8abf5 cJ0_length_8abf5 1 (some .int) :: zTB) ({ frames := 1, cells := 0, slots := 0, locals := 60 }) (va_Pc [.ref (adK 0)] (fun U => SF adK adV U)) (va_Qi (fun (r : Int32) (_ : Unit) => r = 6) (fun _ _ => True) (fun _ => False)) 0 0 (fun _ => False) := by
  refine Met.ofW (cc := cJ0_length_8abf5) (maxL := 1) (ret := some .int) (by decide) rfl ?_
  intro p e s m args below meth c s₁ B hml hv
  obtain ⟨rfl, hSF⟩ := hv
  have hx := B.exec
  have hb := B.bytes
  have hr := B.returns
  have hts0 := atoms_spec (ws := Cond.code yJ0_length_8abf5 cJ0_length_8abf5 1 (some .int) :: zTB) B.pre
  have hts : ∀ w ∈ zTB, w.before ([.ref (adK 0)] : List Value).toArray s = true := fun w hw => hts0 w (List.mem_cons_of_mem _ hw)
  have hown : s.vm.findClass RJ0 = some m.cls := findClass_of_methodNamed B.named
  have hlocks := B.notSynchronized
  have hS : va_S (fun _ => False) s.heap s.heap [] := va_S.rf
  have hl := lv_entry ([.ref (adK 0)]) (n := 1) (Nat.le_of_ble_eq_true rfl)
  rw [lg_entry_eq]
  generalize (lg_sl ([.ref (adK 0)]) ++ List.replicate (1 - (lg_sl ([.ref (adK 0)])).length) Slot.unset).toArray = ls at hl ⊢
  have hl : lv_has ls 1 [(0, .ref (adK 0))] := hl
  refine lv_aload_n hx hb dJ0_length_8abf5_0 rfl (lv_at hl 0 rfl) ?_
  refine vk_getf hx hb (hSF.1.1 0 (by decide)).2.2.1 hS hown (hts _ jf_9) (fun _ h9 => h9) dJ0_length_8abf5_1 ?_
  refine va_tlen hx hb (hSF.1.1 0 (by decide)).2.2.2 hS (v := 6) (by decide) dJ0_length_8abf5_4 ?_
  refine lv_aload_n hx hb dJ0_length_8abf5_5 rfl (lv_at hl 0 rfl) ?_
  refine va_calli (va_runV (As := []) (rest := [.int 6]) ⟨hx, hb, hml, hown, hts⟩ (q_cod l adK adV) ⟨callB_of 0 hts (fun w h => zgood (by rcases List.mem_cons.mp h with rfl | h; exact jw_cod; exact h)) rfl rfl rfl (hts _ ji_RJ0) (hts _ jl_335) (by decide +kernel) ⟨Nat.le_of_ble_eq_true rfl, Nat.le_of_ble_eq_true rfl⟩, hts _ jn_cod.1, hts _ jn_cod.2⟩ ⟨fun a U g mk q => ⟨q.1, SF_call q.2⟩, vk_recv hSF.1 (i := 0) (by decide) hS, fun U hU hW => ⟨rfl, SF_warm hW (fun a h1 h2 => (congrArg (fun z : Heap => z[a]?) hU).trans (hS.2.1 a h1 h2)) hSF⟩⟩ rfl rfl hl.1 rfl (lv_room (Nat.le_of_ble_eq_true rfl)) dJ0_length_8abf5_6 ⟨Nat.le_of_ble_eq_true rfl, Nat.le_of_ble_eq_true rfl⟩) hS (fun q _ h => h.elim) (fun q h => h.elim) (fun r1 u t H1 locs ht hvm hw hB hz1 hk1 hS => ?_)
  subst hw
  refine lv_ishr hx hb dJ0_length_8abf5_9 ?_
  exact W.iret hx hb hr (fun t ht hW => ⟨⟨_, (), rfl, by decide, trivial⟩, hS.F ht⟩) hS.2.2 dJ0_length_8abf5_10
set_option maxHeartbeats 1000000 in
theorem q_ix2 (l : Launch) (adK adV : Nat → Nat) (x : Int32) : Met l yJ0_indexOf_7cf53 (Cond.code yJ0_indexOf_7cf53 cJ0_indexOf_7cf53 3 (some .int) :: zTB) ({ frames := 5, cells := 0, slots := 0, locals := 300 }) (va_Pc [.ref (adK 0), .int x, .int 0] (fun U => SF adK adV U)) (va_Qi (fun (r : Int32) (_ : Unit) => r = lixF x) (fun _ _ => True) (fun _ => False)) 0 0 (fun _ => False) := by
  refine Met.ofW (cc := cJ0_indexOf_7cf53) (maxL := 3) (ret := some .int) (by decide) rfl ?_
  intro p e s m args below meth c s₁ B hml hv
  obtain ⟨rfl, hSF⟩ := hv
  have hx := B.exec
  have hb := B.bytes
  have hr := B.returns
  have hts0 := atoms_spec (ws := Cond.code yJ0_indexOf_7cf53 cJ0_indexOf_7cf53 3 (some .int) :: zTB) B.pre
  have hts : ∀ w ∈ zTB, w.before ([.ref (adK 0), .int x, .int 0] : List Value).toArray s = true := fun w hw => hts0 w (List.mem_cons_of_mem _ hw)
  have hown : s.vm.findClass RJ0 = some m.cls := findClass_of_methodNamed B.named
  have hlocks := B.notSynchronized
  have hS : va_S (fun _ => False) s.heap s.heap [] := va_S.rf
  have hl := lv_entry ([.ref (adK 0), .int x, .int 0]) (n := 3) (Nat.le_of_ble_eq_true rfl)
  rw [lg_entry_eq]
  generalize (lg_sl ([.ref (adK 0), .int x, .int 0]) ++ List.replicate (3 - (lg_sl ([.ref (adK 0), .int x, .int 0])).length) Slot.unset).toArray = ls at hl ⊢
  have hl : lv_has ls 3 [(0, .ref (adK 0)), (1, .int x), (2, .int 0)] := hl
  refine lv_aload_n hx hb dJ0_indexOf_7cf53_0 rfl (lv_at hl 0 rfl) ?_
  refine va_calli (va_runV (As := []) (rest := []) ⟨hx, hb, hml, hown, hts⟩ (q_isL l adK adV) ⟨callB_of 0 hts (fun w h => zgood (by rcases List.mem_cons.mp h with rfl | h; exact jw_isL; exact h)) rfl rfl rfl (hts _ ji_RJ0) (hts _ jl_492) (by decide +kernel) ⟨Nat.le_of_ble_eq_true rfl, Nat.le_of_ble_eq_true rfl⟩, hts _ jn_isL.1, hts _ jn_isL.2⟩ ⟨fun a U g mk q => ⟨q.1, SF_call q.2⟩, vk_recv hSF.1 (i := 0) (by decide) hS, fun U hU hW => ⟨rfl, SF_warm hW (fun a h1 h2 => (congrArg (fun z : Heap => z[a]?) hU).trans (hS.2.1 a h1 h2)) hSF⟩⟩ rfl rfl hl.1 rfl (lv_room (Nat.le_of_ble_eq_true rfl)) dJ0_indexOf_7cf53_1 ⟨Nat.le_of_ble_eq_true rfl, Nat.le_of_ble_eq_true rfl⟩) hS (fun q _ h => h.elim) (fun q h => h.elim) (fun r1 u t H1 locs ht hvm hw hB hz1 hk1 hS => ?_)
  subst hw
  refine lv_if_eq (tgt := 23) hx hb dJ0_indexOf_7cf53_4 (by decide) (fun h => absurd h (by decide)) (fun _ => ?_)
  refine lv_aload_n hx hb dJ0_indexOf_7cf53_7 rfl (lv_at hl 0 rfl) ?_
  refine vk_getf hx hb (hSF.1.1 0 (by decide)).2.2.1 hS hown (hts _ jf_9) (fun _ h9 => h9) dJ0_indexOf_7cf53_8 ?_
  refine lv_iload_n hx hb dJ0_indexOf_7cf53_11 rfl (lv_at hl 1 rfl) ?_
  refine lv_iload_n hx hb dJ0_indexOf_7cf53_12 rfl (lv_at hl 2 rfl) ?_
  refine lv_aload_n hx hb dJ0_indexOf_7cf53_13 rfl (lv_at hl 0 rfl) ?_
  refine va_calli (va_runV (As := []) (rest := [.int 0, .int x, .ref (adV 0)]) ⟨hx, hb, hml, hown, hts⟩ (q_len l adK adV) ⟨callB_of 0 hts (fun w h => zgood (by rcases List.mem_cons.mp h with rfl | h; exact jw_len; exact h)) rfl rfl rfl (hts _ ji_RJ0) (hts _ jl_505) (by decide +kernel) ⟨Nat.le_of_ble_eq_true rfl, Nat.le_of_ble_eq_true rfl⟩, hts _ jn_len.1, hts _ jn_len.2⟩ ⟨fun a U g mk q => ⟨q.1, SF_call q.2⟩, vk_recv hSF.1 (i := 0) (by decide) hS, fun U hU hW => ⟨rfl, SF_warm hW (fun a h1 h2 => (congrArg (fun z : Heap => z[a]?) hU).trans (hS.2.1 a h1 h2)) hSF⟩⟩ rfl rfl hl.1 rfl (lv_room (Nat.le_of_ble_eq_true rfl)) dJ0_indexOf_7cf53_14 ⟨Nat.le_of_ble_eq_true rfl, Nat.le_of_ble_eq_true rfl⟩) hS (fun q _ h => h.elim) (fun q h => h.elim) (fun r2 u t H1 locs ht hvm hw hB hz1 hk1 hS => ?_)
  subst hw
  refine va_calli (va_runS (As := [.ref (adV 0), .int x, .int 0, .int 6]) (rest := []) ⟨hx, hb, hml, hown, hts⟩ (q_lix l adK adV x) ⟨callB_of 4 hts (fun w h => zgood (by rcases List.mem_cons.mp h with rfl | h; exact jw_lix; exact h)) rfl rfl rfl (hts _ ji_RJ1) (hts _ jl_637) (by decide +kernel) ⟨Nat.le_of_ble_eq_true rfl, Nat.le_of_ble_eq_true rfl⟩, hts _ js_lix⟩ ⟨fun a U g mk q => ⟨q.1, SF_call q.2⟩, fun U hU hW => ⟨rfl, SF_warm hW (fun a h1 h2 => (congrArg (fun z : Heap => z[a]?) hU).trans (hS.2.1 a h1 h2)) hSF⟩⟩ rfl rfl hl.1 rfl (lv_room (Nat.le_of_ble_eq_true rfl)) dJ0_indexOf_7cf53_17 ⟨Nat.le_of_ble_eq_true rfl, Nat.le_of_ble_eq_true rfl⟩) hS (fun q _ h => h.elim) (fun q h => h.elim) (fun r3 u t H1 locs ht hvm hw hB hz1 hk1 hS => ?_)
  subst hw
  refine lv_goto (tgt := 36) hx hb dJ0_indexOf_7cf53_20 (by decide) ?_
  exact W.iret hx hb hr (fun t ht hW => ⟨⟨_, (), rfl, rfl, trivial⟩, hS.F ht⟩) hS.2.2 dJ0_indexOf_7cf53_36
set_option maxHeartbeats 1000000 in
theorem q_ix1 (l : Launch) (adK adV : Nat → Nat) (x : Int32) : Met l yJ0_indexOf_0f7a4 (Cond.code yJ0_indexOf_0f7a4 cJ0_indexOf_0f7a4 2 (some .int) :: zTB) ({ frames := 7, cells := 0, slots := 0, locals := 400 }) (va_Pc [.ref (adK 0), .int x] (fun U => SF adK adV U)) (va_Qi (fun (r : Int32) (_ : Unit) => r = lixF x) (fun _ _ => True) (fun _ => False)) 0 0 (fun _ => False) := by
  refine Met.ofW (cc := cJ0_indexOf_0f7a4) (maxL := 2) (ret := some .int) (by decide) rfl ?_
  intro p e s m args below meth c s₁ B hml hv
  obtain ⟨rfl, hSF⟩ := hv
  have hx := B.exec
  have hb := B.bytes
  have hr := B.returns
  have hts0 := atoms_spec (ws := Cond.code yJ0_indexOf_0f7a4 cJ0_indexOf_0f7a4 2 (some .int) :: zTB) B.pre
  have hts : ∀ w ∈ zTB, w.before ([.ref (adK 0), .int x] : List Value).toArray s = true := fun w hw => hts0 w (List.mem_cons_of_mem _ hw)
  have hown : s.vm.findClass RJ0 = some m.cls := findClass_of_methodNamed B.named
  have hlocks := B.notSynchronized
  have hS : va_S (fun _ => False) s.heap s.heap [] := va_S.rf
  have hl := lv_entry ([.ref (adK 0), .int x]) (n := 2) (Nat.le_of_ble_eq_true rfl)
  rw [lg_entry_eq]
  generalize (lg_sl ([.ref (adK 0), .int x]) ++ List.replicate (2 - (lg_sl ([.ref (adK 0), .int x])).length) Slot.unset).toArray = ls at hl ⊢
  have hl : lv_has ls 2 [(0, .ref (adK 0)), (1, .int x)] := hl
  refine lv_aload_n hx hb dJ0_indexOf_0f7a4_0 rfl (lv_at hl 0 rfl) ?_
  refine lv_iload_n hx hb dJ0_indexOf_0f7a4_1 rfl (lv_at hl 1 rfl) ?_
  refine lv_iconst (v := 0) hx hb dJ0_indexOf_0f7a4_2 (by decide) ?_
  refine va_calli (va_runV (As := [.int x, .int 0]) (rest := []) ⟨hx, hb, hml, hown, hts⟩ (q_ix2 l adK adV x) ⟨callB_of 2 hts (fun w h => zgood (by rcases List.mem_cons.mp h with rfl | h; exact jw_ix2; exact h)) rfl rfl rfl (hts _ ji_RJ0) (hts _ jl_633) (by decide +kernel) ⟨Nat.le_of_ble_eq_true rfl, Nat.le_of_ble_eq_true rfl⟩, hts _ jn_ix2.1, hts _ jn_ix2.2⟩ ⟨fun a U g mk q => ⟨q.1, SF_call q.2⟩, vk_recv hSF.1 (i := 0) (by decide) hS, fun U hU hW => ⟨rfl, SF_warm hW (fun a h1 h2 => (congrArg (fun z : Heap => z[a]?) hU).trans (hS.2.1 a h1 h2)) hSF⟩⟩ rfl rfl hl.1 rfl (lv_room (Nat.le_of_ble_eq_true rfl)) dJ0_indexOf_0f7a4_3 ⟨Nat.le_of_ble_eq_true rfl, Nat.le_of_ble_eq_true rfl⟩) hS (fun q _ h => h.elim) (fun q h => h.elim) (fun r1 u t H1 locs ht hvm hw hB hz1 hk1 hS => ?_)
  subst hw
  exact W.iret hx hb hr (fun t ht hW => ⟨⟨_, (), rfl, rfl, trivial⟩, hS.F ht⟩) hS.2.2 dJ0_indexOf_0f7a4_6
theorem zlet_ix : ∀ k : Nat, k < 256 → lixF (nI k) = Int32.ofInt (zlet (k : Int)) ∧ zw (zlet (k : Int)) = zlet (k : Int) := by decide +kernel
theorem zlet_c : ∀ k : Nat, k < 256 → ((nI k).toUInt32 % 65536).toInt32 = nI k := by decide +kernel
set_option maxHeartbeats 1000000 in
theorem q_letterOf (l : Launch) {cy : Nat → ClassId} {adr adK adV : Nat → Nat} {D : va_G} (d : Nat) (a : Int) (M : zM) (Q : Int → zM → Prop) (hd : 12 ≤ d) (ha : zw a ≤ 255) (hQ : Q (zlet (zw a)) M) : Met l yX2_letterOf (zW mX2_letterOf) (zrm (d + 1)) (va_Pc ([zI a].map (zcv adr)) (zB cy adr adK adV D M)) (zQc cy adr D (some .int) Q) 0 0 (zA adr) := by
  have hqc : zQc cy adr D (some .int) Q = va_Qi (fun x M => Q x.toInt M) (zB2 cy adr D) (zA adr) := by simp [zQc]
  rw [hqc]
  refine Met.ofW (cc := cX2_letterOf) (maxL := 1) (ret := some .int) (by decide) rfl ?_
  intro p e s m args below meth c s₁ B hml hv
  obtain ⟨rfl, hP, hK, hSt⟩ := hv
  have hx := B.exec
  have hb := B.bytes
  have hr := B.returns
  have hts0 := atoms_spec (ws := zW mX2_letterOf) B.pre
  have hts : ∀ w ∈ zTB, w.before ([zI a].map (zcv adr)).toArray s = true := fun w hw => hts0 w (List.mem_cons_of_mem _ hw)
  have hown : s.vm.findClass RX2 = some m.cls := findClass_of_methodNamed B.named
  have hlocks := B.notSynchronized
  have hS : va_S (fun _ => False) s.heap s.heap [] := va_S.rf
  have hSF : SF adK adV s := ⟨hSt.2.2.1.narrow (fun _ h => h.elim), hSt.2.2.2.narrow (fun _ h => h.elim)⟩
  have fin : ∀ (H : Heap) (locs : List Loc) (r : Int32), va_S (fun _ => False) s.heap H locs → r.toInt = zlet (zw a) → ∀ (t : State), t.heap = H → s.WarmedH t.vm → (va_Qi (fun x M => Q x.toInt M) (zB2 cy adr D) (zA adr)) ([zI a].map (zcv adr)).toArray s (.returned (some (.int r))) t := by
    intro H locs r hS hr t ht hW
    refine ⟨⟨r, M, rfl, by show Q r.toInt M; rw [hr]; exact hQ, ?_⟩, ?_⟩
    · show va_P D vwCl (zws cy adr M) t.heap
      rw [ht]
      exact hP.kept (fun k q hk => hS.2.1 q.1 ((hP k q hk).lt) (fun z => z))
    · exact ⟨by rw [ht]; exact hS.1, fun q h1 _ => by rw [ht]; exact hS.2.1 q h1 (fun z => z)⟩
  have hl := lv_entry ([.int (Int32.ofInt a)]) (n := 1) (Nat.le_of_ble_eq_true rfl)
  rw [show ([zI a].map (zcv adr)) = [.int (Int32.ofInt a)] from rfl] at *
  rw [lg_entry_eq]
  generalize (lg_sl ([.int (Int32.ofInt a)]) ++ List.replicate (1 - (lg_sl ([.int (Int32.ofInt a)])).length) Slot.unset).toArray = ls at hl ⊢
  have hl : lv_has ls 1 [(0, .int (Int32.ofInt a))] := hl
  refine lv_iload_n hx hb dX2_letterOf_0 rfl (lv_at hl 0 rfl) ?_
  refine lv_if_ge (tgt := 8) hx hb dX2_letterOf_1 (by decide) (fun h => ?_) (fun h => ?_)
  · have h0 : ¬ zw a < 0 := (zt_ge0 a).mp h
    obtain ⟨k, hk, ek⟩ : ∃ k : Nat, k < 256 ∧ zw a = (k : Int) := ⟨(zw a).toNat, by omega, by omega⟩
    have ea : Int32.ofInt a = nI k := by
      apply Int32.toInt_inj.mp
      rw [nI_toInt (by omega)]
      exact ek
    refine va_ldcS hx hb hown hSt.2.1 dX2_letterOf_8 ?_
    refine lv_iload_n hx hb dX2_letterOf_10 rfl (lv_at hl 0 rfl) ?_
    refine lv_i2c (v := nI k) hx hb dX2_letterOf_11 (by rw [ea]; exact zlet_c k hk) ?_
    have hroom : ({ frames := 7, cells := 0, slots := 0, locals := 400 } : Room).frames + 1 ≤ (zrm (d + 1)).frames ∧ 8 + (2 + 11) + ({ frames := 7, cells := 0, slots := 0, locals := 400 } : Room).locals ≤ (zrm (d + 1)).locals := ⟨by show 7 + 1 ≤ d + 1; omega, by show 8 + (2 + 11) + 400 ≤ 64 * (d + 1); omega⟩
    refine va_calli (va_runV (As := [.int (nI k)]) (rest := []) ⟨hx, hb, hml, hown, hts⟩ (q_ix1 l adK adV (nI k)) ⟨callB_of 1 hts (fun w h => zgood (by rcases List.mem_cons.mp h with rfl | h; exact jw_ix1; exact h)) rfl rfl rfl (hts _ ji_RJ0) (hts _ jl_l95) (by decide +kernel) hroom, hts _ jn_ix1.1, hts _ jn_ix1.2⟩ ⟨fun a U g mk q => ⟨q.1, SF_call q.2⟩, vk_recv hSF.1 (i := 0) (by decide) hS, fun U hU hW => ⟨rfl, SF_warm hW (fun a h1 h2 => (congrArg (fun z : Heap => z[a]?) hU).trans (hS.2.1 a h1 h2)) hSF⟩⟩ rfl rfl hl.1 rfl (lv_room (Nat.le_of_ble_eq_true rfl)) dX2_letterOf_12 ⟨Nat.le_refl _, Nat.le_refl _⟩) hS (fun q _ h => h.elim) (fun q h => h.elim) (fun r u t H1 locs ht hvm hw hB hz1 hk1 hS => ?_)
    refine W.iret hx hb hr (fun t ht hW => fin H1 locs r hS ?_ t ht hW) (fun q hq => (hS.2.2 q hq).elim) dX2_letterOf_15
    rw [hw, (zlet_ix k hk).1, ek]
    exact (zlet_ix k hk).2
  · have h0 : zw a < 0 := Classical.not_not.mp (fun z => h ((zt_ge0 a).mpr z))
    refine lv_iconst (v := -1) hx hb dX2_letterOf_4 (by decide) ?_
    refine lv_goto (tgt := 15) hx hb dX2_letterOf_5 (by decide) ?_
    refine W.iret hx hb hr (fun t ht hW => fin s.heap [] (-1) hS ?_ t ht hW) (fun q hq => by cases hq) dX2_letterOf_15
    have : zlet (zw a) = -1 := by
      unfold zlet
      rw [if_neg (by omega), if_neg (by omega), if_neg (by omega), if_neg (by omega), if_neg (by omega), if_neg (by omega)]
    rw [this]; decide
