/-! the rules of the small machine hold of the real one -/
def zSt (adr adK adV : Nat → Nat) (U : State) (H : Heap) : Prop := (∀ q, q = 1 ∨ q = 2 → va_Z RX1 (zsn q) "[I" (.ref (adr q)) (zA adr) U H ∧ va_T .int (adr q) (zsl q) (fun k => zI (zsv q k)) (zA adr) U H) ∧ vk_R RX2 93 "adfwin" (adK 0) U ∧ vk_S 1 [6] [[97, 100, 102, 119, 105, 110]] adK adV (zA adr) U H ∧ va_Z "java/lang/String" "COMPACT_STRINGS" "Z" (.int 1) (zA adr) U H
theorem zSt_warm {adr adK adV : Nat → Nat} {s U : State} {H0 H : Heap} (hW : s.WarmedH U.vm) (hq : ∀ a : Nat, a < H0.size → ¬ zA adr a → H[a]? = H0[a]?) (h : zSt adr adK adV s H0) : zSt adr adK adV U H := ⟨fun q hq1 => ⟨((h.1 q hq1).1.moved hW.alike).kept hq, ((h.1 q hq1).2.moved hW.alike).kept hq⟩, h.2.1.warm hW, (h.2.2.1.moved hW.alike).kept hq, (h.2.2.2.moved hW.alike).kept hq⟩
theorem zSt_call {adr adK adV : Nat → Nat} {U U2 : State} {H : Heap} (hv : U2.vm = U.vm) (h : zSt adr adK adV U H) : zSt adr adK adV U2 H := by
  have hA : U.vm.Alike U2.vm := by rw [hv]; exact Vm.Alike.refl _
  exact ⟨fun q hq1 => ⟨(h.1 q hq1).1.moved hA, (h.1 q hq1).2.moved hA⟩, h.2.1.same hv, h.2.2.1.moved hA, h.2.2.2.moved hA⟩
def zC (p : Program) (s : State) (m : MethodId) (args : Array Value) (c0 : Code) (R : Room) (d c : Nat) (cc : ByteArray) (n0 : Nat) (cy : Nat → ClassId) (adr adK adV : Nat → Nat) (D : va_G) (kc ks : Nat) : Prop := p.tables.exec = Jvm.exec ∧ c0.code = cc ∧ c0.maxLocals = n0 ∧ s.vm.findClass (zR c) = some m.cls ∧ (∀ w ∈ zTB, w.before args s = true) ∧ va_K D vwCl (ztys cy) s ∧ (∀ i ∈ zIDS, ∀ j ∈ zIDS, adr i = adr j → i = j) ∧ zSt adr adK adV s s.heap ∧ d + 1 ≤ R.frames ∧ 64 * d + 64 ≤ R.locals ∧ kc ≤ R.cells ∧ ks ≤ R.slots
def zPP (p : Program) (l : Launch) (e : Env) (R : Room) (s : State) (m : MethodId) (args : Array Value) (below : List Frame) (meth : Method) (c0 : Code) (n0 : Nat) (cy : Nat → ClassId) (adr : Nat → Nat) (D : va_G) (kc ks : Nat) (Qf : State → Prop) : zP := fun pc L st M => ∀ (ls : Array Slot) (H : Heap) (locs : List Loc), L.length = n0 → lv_has ls n0 (zlv adr 0 L) → va_P D vwCl (zws cy adr M) H → va_S (zA adr) s.heap H locs → W p l e R s m args below meth c0 H locs kc ks Qf (F0 m pc ls (st.map (zcv adr)))
theorem zeq {m : MethodId} {pc : Nat} {ls : Array Slot} {st : List Value} {x y : Int32} (h : x = y) : F0 m pc ls (Value.int x :: st) = F0 m pc ls (Value.int y :: st) := by rw [h]
theorem zeqL {m : MethodId} {pc : Nat} {ls : Array Slot} {st : List Value} {x y : Int64} (h : x = y) : F0 m pc ls (Value.long x :: st) = F0 m pc ls (Value.long y :: st) := by rw [h]
theorem zofn (n : Nat) : Int32.ofNat n = Int32.ofInt (n : Int) := by first | rfl | (simp [Int32.ofInt, Int32.ofNat]; done) | (congr 1; simp; done) | exact (Int32.ofInt_eq_ofNat).symm
theorem zlc0 : ∀ k : Fin 2, Int64.ofNat (k : Nat) = Int64.ofInt ((k : Nat) : Int) := by decide
theorem zlayi (ci : Nat) (h : ci < 9) : ∀ w ∈ u_ws (zR ci) (zT ci) (zN ci), w ∈ zTB := by
  have key : ∀ l : List Cond, l.all (fun w => decide (w ∈ lw_tbl) && goodWord w) = true → ∀ w ∈ l, w ∈ zTB := by
    intro l hl w hw
    have h1 := List.all_eq_true.mp hl w hw
    simp only [Bool.and_eq_true, decide_eq_true_eq] at h1
    exact List.mem_filter.mpr h1
  match ci, h with
  | 0, _ => exact key _ (by decide +kernel)
  | 1, _ => exact key _ (by decide +kernel)
  | 2, _ => exact key _ (by decide +kernel)
  | 3, _ => exact key _ (by decide +kernel)
  | 4, _ => exact key _ (by decide +kernel)
  | 5, _ => exact key _ (by decide +kernel)
  | 6, _ => exact key _ (by decide +kernel)
  | 7, _ => exact key _ (by decide +kernel)
  | 8, _ => exact key _ (by decide +kernel)
theorem zcl_at {ci : Nat} (h : ci < 9) : vwCl[ci]? = some (zR ci, zT ci, zN ci) := by
  match ci, h with
  | 0, _ => rfl
  | 1, _ => rfl
  | 2, _ => rfl
  | 3, _ => rfl
  | 4, _ => rfl
  | 5, _ => rfl
  | 6, _ => rfl
  | 7, _ => rfl
  | 8, _ => rfl
theorem zty_ok {ci : Nat} (h : ci < 9) : ∀ k, k < zN ci → parseFieldDescriptor (zT ci k).2.2.1 = some (zty ci k) := by
  match ci, h with
  | 0, _ => exact tyX0_ok
  | 1, _ => exact tyX1_ok
  | 2, _ => exact tyX2_ok
  | 3, _ => exact tyX3_ok
  | 4, _ => exact tyX4_ok
  | 5, _ => exact tyX5_ok
  | 6, _ => exact tyX6_ok
  | 7, _ => exact tyX7_ok
  | 8, _ => exact tyX8_ok
theorem znm_ok {ci : Nat} (h : ci < 9) : ∀ a, a < zN ci → ∀ b, b < zN ci → a ≠ b → (zT ci a).2.1 ≠ (zT ci b).2.1 := by
  match ci, h with
  | 0, _ => exact nmX0
  | 1, _ => exact nmX1
  | 2, _ => exact nmX2
  | 3, _ => exact nmX3
  | 4, _ => exact nmX4
  | 5, _ => exact nmX5
  | 6, _ => exact nmX6
  | 7, _ => exact nmX7
  | 8, _ => exact nmX8
theorem zcp_nat : Cond.native arraycopyName ∈ zTB := zin 460 (by decide +kernel) rfl
theorem zcp_sta : Cond.static arraycopyName ∈ zTB := zin 459 (by decide +kernel) rfl
theorem zcp_ini : Cond.initialized "java/lang/System" ∈ zTB := zin 76 (by decide +kernel) rfl
theorem zsetA {cy : Nat → ClassId} {adr : Nat → Nat} {M M2 : zM} {o q0 : Nat} {x : va_E} (hq : zIDS[q0]? = some o) (hx : zcell cy adr M2 o = x) (h1 : ∀ i, i ≠ o → M2.1 i = M.1 i) (h2 : ∀ i, i ≠ o → M2.2 i = M.2 i) : (zws cy adr M).set q0 (adr o, x) = zws cy adr M2 := by
  subst hx
  exact zws_set cy adr M M2 hq (fun i hi => zcell_eq cy adr M M2 i (h1 i hi) (h2 i hi))
theorem zs_1 (M : zM) (o j : Nat) (v : Int) : (zs M o j v).1 o = upd (M.1 o) j (Int32.ofInt v) := by funext b; simp [zs, upd]
theorem zs_ne (M : zM) (o j : Nat) (v : Int) : ∀ i, i ≠ o → (zs M o j v).1 i = M.1 i := by intro i hi; funext b; simp [zs, hi]
theorem zt_1 (M : zM) (o j : Nat) (v : Int) : (zt M o j v).2 o = vp_updL (M.2 o) j (Int64.ofInt v) := by funext b; simp [zt, vp_updL]
theorem zt_ne (M : zM) (o j : Nat) (v : Int) : ∀ i, i ≠ o → (zt M o j v).2 i = M.2 i := by intro i hi; funext b; simp [zt, hi]
theorem zt_lt (a b : Int) : Int32.ofInt a < Int32.ofInt b ↔ zw a < zw b := Int32.lt_iff_toInt_lt
theorem zt_le (a b : Int) : Int32.ofInt a ≤ Int32.ofInt b ↔ ¬ zw b < zw a := by rw [Int32.le_iff_toInt_le]; simp only [zw]; omega
theorem zt_eq (a b : Int) : Int32.ofInt a = Int32.ofInt b ↔ zw a = zw b := Int32.toInt_inj.symm
theorem zt_e0 (a : Int) : Int32.ofInt a = 0 ↔ zw a = 0 := by rw [← Int32.toInt_inj]; rfl
theorem zt_l0 (a : Int) : Int32.ofInt a < 0 ↔ zw a < 0 := by rw [Int32.lt_iff_toInt_lt]; rfl
theorem zt_g0 (a : Int) : 0 < Int32.ofInt a ↔ 0 < zw a := by rw [Int32.lt_iff_toInt_lt]; rfl
theorem zt_le0 (a : Int) : Int32.ofInt a ≤ 0 ↔ ¬ 0 < zw a := by rw [Int32.le_iff_toInt_le]; show zw a ≤ 0 ↔ _; omega
theorem zt_ge0 (a : Int) : 0 ≤ Int32.ofInt a ↔ ¬ zw a < 0 := by rw [Int32.le_iff_toInt_le]; show 0 ≤ zw a ↔ _; omega
theorem zt_i2l (a : Int) : (Int32.ofInt a).toInt64 = Int64.ofInt (zw a) := rfl
theorem zt_l2i (a : Int) : (Int64.ofInt a).toInt32 = Int32.ofInt (zv a) := rfl
theorem zt_lc (a b : Int) : lg_cmp (Int64.ofInt a) (Int64.ofInt b) = Int32.ofInt (z_lc a b) := by
  unfold lg_cmp z_lc
  by_cases h1 : zv b < zv a
  · rw [if_pos h1, if_pos (show Int64.ofInt a > Int64.ofInt b from Int64.lt_iff_toInt_lt.mpr h1)]; rfl
  · rw [if_neg h1, if_neg (show ¬ Int64.ofInt a > Int64.ofInt b from fun h => h1 (Int64.lt_iff_toInt_lt.mp h))]
    by_cases h2 : zv a = zv b
    · rw [if_pos h2, if_pos (Int64.toInt_inj.mp h2)]; rfl
    · rw [if_neg h2, if_neg (fun h => h2 (Int64.toInt_inj.mpr h))]; rfl
theorem zmm_max : Cond.code Lib.Math.max.name Lib.Math.max.code 2 (some .int) ∈ zTB ∧ Cond.static Lib.Math.max.name ∈ zTB := ⟨zin 574 (by decide +kernel) rfl, zin 573 (by decide +kernel) rfl⟩
theorem zmm_min : Cond.code Lib.Math.min.name Lib.Math.min.code 2 (some .int) ∈ zTB ∧ Cond.static Lib.Math.min.name ∈ zTB := ⟨zin 577 (by decide +kernel) rfl, zin 576 (by decide +kernel) rfl⟩
theorem zmm_ini : Cond.initialized "java/lang/Math" ∈ zTB := zin 79 (by decide +kernel) rfl
theorem zcats (adr : Nat → Nat) (st : List Value) : ((st.map (zcv adr)).map fun v => v.category).sum = (st.map fun v => v.category).sum := by rw [List.map_map]; congr 1; apply List.map_congr_left; intro v _; exact zcat adr v
set_option maxHeartbeats 400000 in
theorem s_iconst {p : Program} {l : Launch} {e : Env} {R : Room} {s : State} {m : MethodId} {args : Array Value} {below : List Frame} {meth : Method} {c0 : Code} {Qf : State → Prop} {d c : Nat} {cc : ByteArray} {n0 : Nat} {cy : Nat → ClassId} {adr adK adV : Nat → Nat} {D : va_G} {kc ks : Nat} (C : zC p s m args c0 R d c cc n0 cy adr adK adV D kc ks) : ∀ (n : Int) (pc : Nat) (L : List (Option Value)) (st : List Value) (M : zM), (decode cc pc = .ok (.iconst n, 1)) → (zPP p l e R s m args below meth c0 n0 cy adr D kc ks Qf) (pc + 1) (L) (zI n :: st) (M) → (zPP p l e R s m args below meth c0 n0 cy adr D kc ks Qf) pc L (st) M := by
  obtain ⟨Cx, Cb, Cm, Co, Ct, CK, Ci, Cs, Cf, Cl, Ckc, Cks⟩ := C
  intro n pc L st M hd kk ls H locs hN hLoc hPw hSv
  exact lv_iconst Cx Cb hd rfl (kk ls H locs hN hLoc hPw hSv)
set_option maxHeartbeats 400000 in
theorem s_bipush {p : Program} {l : Launch} {e : Env} {R : Room} {s : State} {m : MethodId} {args : Array Value} {below : List Frame} {meth : Method} {c0 : Code} {Qf : State → Prop} {d c : Nat} {cc : ByteArray} {n0 : Nat} {cy : Nat → ClassId} {adr adK adV : Nat → Nat} {D : va_G} {kc ks : Nat} (C : zC p s m args c0 R d c cc n0 cy adr adK adV D kc ks) : ∀ (n : Int) (pc : Nat) (L : List (Option Value)) (st : List Value) (M : zM), (decode cc pc = .ok (.bipush n, 2)) → ((Int8.ofInt n).toInt32 = Int32.ofInt n) → (zPP p l e R s m args below meth c0 n0 cy adr D kc ks Qf) (pc + 2) (L) (zI n :: st) (M) → (zPP p l e R s m args below meth c0 n0 cy adr D kc ks Qf) pc L (st) M := by
  obtain ⟨Cx, Cb, Cm, Co, Ct, CK, Ci, Cs, Cf, Cl, Ckc, Cks⟩ := C
  intro n pc L st M hd hv kk ls H locs hN hLoc hPw hSv
  exact lv_bipush Cx Cb hd hv (kk ls H locs hN hLoc hPw hSv)
set_option maxHeartbeats 400000 in
theorem s_sipush {p : Program} {l : Launch} {e : Env} {R : Room} {s : State} {m : MethodId} {args : Array Value} {below : List Frame} {meth : Method} {c0 : Code} {Qf : State → Prop} {d c : Nat} {cc : ByteArray} {n0 : Nat} {cy : Nat → ClassId} {adr adK adV : Nat → Nat} {D : va_G} {kc ks : Nat} (C : zC p s m args c0 R d c cc n0 cy adr adK adV D kc ks) : ∀ (n : Int) (pc : Nat) (L : List (Option Value)) (st : List Value) (M : zM), (decode cc pc = .ok (.sipush n, 3)) → ((Int16.ofInt n).toInt32 = Int32.ofInt n) → (zPP p l e R s m args below meth c0 n0 cy adr D kc ks Qf) (pc + 3) (L) (zI n :: st) (M) → (zPP p l e R s m args below meth c0 n0 cy adr D kc ks Qf) pc L (st) M := by
  obtain ⟨Cx, Cb, Cm, Co, Ct, CK, Ci, Cs, Cf, Cl, Ckc, Cks⟩ := C
  intro n pc L st M hd hv kk ls H locs hN hLoc hPw hSv
  exact lv_sipush Cx Cb hd hv (kk ls H locs hN hLoc hPw hSv)
set_option maxHeartbeats 400000 in
theorem s_ldc {p : Program} {l : Launch} {e : Env} {R : Room} {s : State} {m : MethodId} {args : Array Value} {below : List Frame} {meth : Method} {c0 : Code} {Qf : State → Prop} {d c : Nat} {cc : ByteArray} {n0 : Nat} {cy : Nat → ClassId} {adr adK adV : Nat → Nat} {D : va_G} {kc ks : Nat} (C : zC p s m args c0 R d c cc n0 cy adr adK adV D kc ks) : ∀ (i : Nat) (n : Int) (pc : Nat) (L : List (Option Value)) (st : List Value) (M : zM), (decode cc pc = .ok (.ldc i, 2)) → (Cond.constant (zR c) i (Int32.ofInt n) ∈ zTB) → (zPP p l e R s m args below meth c0 n0 cy adr D kc ks Qf) (pc + 2) (L) (zI n :: st) (M) → (zPP p l e R s m args below meth c0 n0 cy adr D kc ks Qf) pc L (st) M := by
  obtain ⟨Cx, Cb, Cm, Co, Ct, CK, Ci, Cs, Cf, Cl, Ckc, Cks⟩ := C
  intro i n pc L st M hd hw kk ls H locs hN hLoc hPw hSv
  exact lv_ldc Cx Cb Co (Ct _ hw) hd (kk ls H locs hN hLoc hPw hSv)
set_option maxHeartbeats 400000 in
theorem s_ldcw {p : Program} {l : Launch} {e : Env} {R : Room} {s : State} {m : MethodId} {args : Array Value} {below : List Frame} {meth : Method} {c0 : Code} {Qf : State → Prop} {d c : Nat} {cc : ByteArray} {n0 : Nat} {cy : Nat → ClassId} {adr adK adV : Nat → Nat} {D : va_G} {kc ks : Nat} (C : zC p s m args c0 R d c cc n0 cy adr adK adV D kc ks) : ∀ (i : Nat) (n : Int) (pc : Nat) (L : List (Option Value)) (st : List Value) (M : zM), (decode cc pc = .ok (.ldc_w i, 3)) → (Cond.constant (zR c) i (Int32.ofInt n) ∈ zTB) → (zPP p l e R s m args below meth c0 n0 cy adr D kc ks Qf) (pc + 3) (L) (zI n :: st) (M) → (zPP p l e R s m args below meth c0 n0 cy adr D kc ks Qf) pc L (st) M := by
  obtain ⟨Cx, Cb, Cm, Co, Ct, CK, Ci, Cs, Cf, Cl, Ckc, Cks⟩ := C
  intro i n pc L st M hd hw kk ls H locs hN hLoc hPw hSv
  exact lv_ldcw Cx Cb Co (Ct _ hw) hd (kk ls H locs hN hLoc hPw hSv)
set_option maxHeartbeats 400000 in
theorem s_ldc2 {p : Program} {l : Launch} {e : Env} {R : Room} {s : State} {m : MethodId} {args : Array Value} {below : List Frame} {meth : Method} {c0 : Code} {Qf : State → Prop} {d c : Nat} {cc : ByteArray} {n0 : Nat} {cy : Nat → ClassId} {adr adK adV : Nat → Nat} {D : va_G} {kc ks : Nat} (C : zC p s m args c0 R d c cc n0 cy adr adK adV D kc ks) : ∀ (i : Nat) (n : Int) (pc : Nat) (L : List (Option Value)) (st : List Value) (M : zM), (decode cc pc = .ok (.ldc2_w i, 3)) → (Cond.constantLong (zR c) i (Int64.ofInt n) ∈ zTB) → (zPP p l e R s m args below meth c0 n0 cy adr D kc ks Qf) (pc + 3) (L) (zJ n :: st) (M) → (zPP p l e R s m args below meth c0 n0 cy adr D kc ks Qf) pc L (st) M := by
  obtain ⟨Cx, Cb, Cm, Co, Ct, CK, Ci, Cs, Cf, Cl, Ckc, Cks⟩ := C
  intro i n pc L st M hd hw kk ls H locs hN hLoc hPw hSv
  exact lv_ldc2 Cx Cb Co (Ct _ hw) hd (kk ls H locs hN hLoc hPw hSv)
set_option maxHeartbeats 400000 in
theorem s_lconst {p : Program} {l : Launch} {e : Env} {R : Room} {s : State} {m : MethodId} {args : Array Value} {below : List Frame} {meth : Method} {c0 : Code} {Qf : State → Prop} {d c : Nat} {cc : ByteArray} {n0 : Nat} {cy : Nat → ClassId} {adr adK adV : Nat → Nat} {D : va_G} {kc ks : Nat} (C : zC p s m args c0 R d c cc n0 cy adr adK adV D kc ks) : ∀ (k : Fin 2) (pc : Nat) (L : List (Option Value)) (st : List Value) (M : zM), (decode cc pc = .ok (.lconst k, 1)) → (zPP p l e R s m args below meth c0 n0 cy adr D kc ks Qf) (pc + 1) (L) (zJ ((k : Nat) : Int) :: st) (M) → (zPP p l e R s m args below meth c0 n0 cy adr D kc ks Qf) pc L (st) M := by
  obtain ⟨Cx, Cb, Cm, Co, Ct, CK, Ci, Cs, Cf, Cl, Ckc, Cks⟩ := C
  intro k pc L st M hd kk ls H locs hN hLoc hPw hSv
  exact lv_lconst Cx Cb hd (zlc0 k) (kk ls H locs hN hLoc hPw hSv)
set_option maxHeartbeats 400000 in
theorem s_iload_n {p : Program} {l : Launch} {e : Env} {R : Room} {s : State} {m : MethodId} {args : Array Value} {below : List Frame} {meth : Method} {c0 : Code} {Qf : State → Prop} {d c : Nat} {cc : ByteArray} {n0 : Nat} {cy : Nat → ClassId} {adr adK adV : Nat → Nat} {D : va_G} {kc ks : Nat} (C : zC p s m args c0 R d c cc n0 cy adr adK adV D kc ks) : ∀ (k : Fin 4) (a : Int) (pc : Nat) (L : List (Option Value)) (st : List Value) (M : zM), (decode cc pc = .ok (.iload_n k, 1)) → (L[(k : Nat)]? = some (some (zI a))) → (zPP p l e R s m args below meth c0 n0 cy adr D kc ks Qf) (pc + 1) (L) (zI a :: st) (M) → (zPP p l e R s m args below meth c0 n0 cy adr D kc ks Qf) pc L (st) M := by
  obtain ⟨Cx, Cb, Cm, Co, Ct, CK, Ci, Cs, Cf, Cl, Ckc, Cks⟩ := C
  intro k a pc L st M hd hl kk ls H locs hN hLoc hPw hSv
  exact lv_iload_n Cx Cb hd rfl (zl_get hLoc hl) (kk ls H locs hN hLoc hPw hSv)
set_option maxHeartbeats 400000 in
theorem s_iload {p : Program} {l : Launch} {e : Env} {R : Room} {s : State} {m : MethodId} {args : Array Value} {below : List Frame} {meth : Method} {c0 : Code} {Qf : State → Prop} {d c : Nat} {cc : ByteArray} {n0 : Nat} {cy : Nat → ClassId} {adr adK adV : Nat → Nat} {D : va_G} {kc ks : Nat} (C : zC p s m args c0 R d c cc n0 cy adr adK adV D kc ks) : ∀ (i : Nat) (a : Int) (pc : Nat) (L : List (Option Value)) (st : List Value) (M : zM), (decode cc pc = .ok (.iload i, 2)) → (L[i]? = some (some (zI a))) → (zPP p l e R s m args below meth c0 n0 cy adr D kc ks Qf) (pc + 2) (L) (zI a :: st) (M) → (zPP p l e R s m args below meth c0 n0 cy adr D kc ks Qf) pc L (st) M := by
  obtain ⟨Cx, Cb, Cm, Co, Ct, CK, Ci, Cs, Cf, Cl, Ckc, Cks⟩ := C
  intro i a pc L st M hd hl kk ls H locs hN hLoc hPw hSv
  exact lv_iload Cx Cb hd (zl_get hLoc hl) (kk ls H locs hN hLoc hPw hSv)
set_option maxHeartbeats 400000 in
theorem s_istore_n {p : Program} {l : Launch} {e : Env} {R : Room} {s : State} {m : MethodId} {args : Array Value} {below : List Frame} {meth : Method} {c0 : Code} {Qf : State → Prop} {d c : Nat} {cc : ByteArray} {n0 : Nat} {cy : Nat → ClassId} {adr adK adV : Nat → Nat} {D : va_G} {kc ks : Nat} (C : zC p s m args c0 R d c cc n0 cy adr adK adV D kc ks) : ∀ (k : Fin 4) (a : Int) (pc : Nat) (L : List (Option Value)) (st : List Value) (M : zM), (decode cc pc = .ok (.istore_n k, 1)) → ((k : Nat) < L.length) → (zpl L (k : Nat) = true) → (zPP p l e R s m args below meth c0 n0 cy adr D kc ks Qf) (pc + 1) (L.set (k : Nat) (some (zI a))) (st) (M) → (zPP p l e R s m args below meth c0 n0 cy adr D kc ks Qf) pc L (zI a :: st) M := by
  obtain ⟨Cx, Cb, Cm, Co, Ct, CK, Ci, Cs, Cf, Cl, Ckc, Cks⟩ := C
  intro k a pc L st M hd hi hp kk ls H locs hN hLoc hPw hSv
  exact lv_istore_n Cx Cb hd rfl hLoc (by rw [← hN]; exact hi) rfl (fun ls2 h2 => kk ls2 H locs (by rw [List.length_set]; exact hN) (zl_set (ls := ls) (v := zI a) hi hp h2) hPw hSv)
set_option maxHeartbeats 400000 in
theorem s_istore {p : Program} {l : Launch} {e : Env} {R : Room} {s : State} {m : MethodId} {args : Array Value} {below : List Frame} {meth : Method} {c0 : Code} {Qf : State → Prop} {d c : Nat} {cc : ByteArray} {n0 : Nat} {cy : Nat → ClassId} {adr adK adV : Nat → Nat} {D : va_G} {kc ks : Nat} (C : zC p s m args c0 R d c cc n0 cy adr adK adV D kc ks) : ∀ (i : Nat) (a : Int) (pc : Nat) (L : List (Option Value)) (st : List Value) (M : zM), (decode cc pc = .ok (.istore i, 2)) → (i < L.length) → (zpl L i = true) → (zPP p l e R s m args below meth c0 n0 cy adr D kc ks Qf) (pc + 2) (L.set i (some (zI a))) (st) (M) → (zPP p l e R s m args below meth c0 n0 cy adr D kc ks Qf) pc L (zI a :: st) M := by
  obtain ⟨Cx, Cb, Cm, Co, Ct, CK, Ci, Cs, Cf, Cl, Ckc, Cks⟩ := C
  intro i a pc L st M hd hi hp kk ls H locs hN hLoc hPw hSv
  exact lv_istore Cx Cb hd hLoc (by rw [← hN]; exact hi) rfl (fun ls2 h2 => kk ls2 H locs (by rw [List.length_set]; exact hN) (zl_set (ls := ls) (v := zI a) hi hp h2) hPw hSv)
set_option maxHeartbeats 400000 in
theorem s_lload_n {p : Program} {l : Launch} {e : Env} {R : Room} {s : State} {m : MethodId} {args : Array Value} {below : List Frame} {meth : Method} {c0 : Code} {Qf : State → Prop} {d c : Nat} {cc : ByteArray} {n0 : Nat} {cy : Nat → ClassId} {adr adK adV : Nat → Nat} {D : va_G} {kc ks : Nat} (C : zC p s m args c0 R d c cc n0 cy adr adK adV D kc ks) : ∀ (k : Fin 4) (a : Int) (pc : Nat) (L : List (Option Value)) (st : List Value) (M : zM), (decode cc pc = .ok (.lload_n k, 1)) → (L[(k : Nat)]? = some (some (zJ a))) → (zPP p l e R s m args below meth c0 n0 cy adr D kc ks Qf) (pc + 1) (L) (zJ a :: st) (M) → (zPP p l e R s m args below meth c0 n0 cy adr D kc ks Qf) pc L (st) M := by
  obtain ⟨Cx, Cb, Cm, Co, Ct, CK, Ci, Cs, Cf, Cl, Ckc, Cks⟩ := C
  intro k a pc L st M hd hl kk ls H locs hN hLoc hPw hSv
  exact lv_lload_n Cx Cb hd rfl (zl_get hLoc hl) (kk ls H locs hN hLoc hPw hSv)
set_option maxHeartbeats 400000 in
theorem s_lload {p : Program} {l : Launch} {e : Env} {R : Room} {s : State} {m : MethodId} {args : Array Value} {below : List Frame} {meth : Method} {c0 : Code} {Qf : State → Prop} {d c : Nat} {cc : ByteArray} {n0 : Nat} {cy : Nat → ClassId} {adr adK adV : Nat → Nat} {D : va_G} {kc ks : Nat} (C : zC p s m args c0 R d c cc n0 cy adr adK adV D kc ks) : ∀ (i : Nat) (a : Int) (pc : Nat) (L : List (Option Value)) (st : List Value) (M : zM), (decode cc pc = .ok (.lload i, 2)) → (L[i]? = some (some (zJ a))) → (zPP p l e R s m args below meth c0 n0 cy adr D kc ks Qf) (pc + 2) (L) (zJ a :: st) (M) → (zPP p l e R s m args below meth c0 n0 cy adr D kc ks Qf) pc L (st) M := by
  obtain ⟨Cx, Cb, Cm, Co, Ct, CK, Ci, Cs, Cf, Cl, Ckc, Cks⟩ := C
  intro i a pc L st M hd hl kk ls H locs hN hLoc hPw hSv
  exact lv_lload Cx Cb hd (zl_get hLoc hl) (kk ls H locs hN hLoc hPw hSv)
set_option maxHeartbeats 400000 in
theorem s_aload_n {p : Program} {l : Launch} {e : Env} {R : Room} {s : State} {m : MethodId} {args : Array Value} {below : List Frame} {meth : Method} {c0 : Code} {Qf : State → Prop} {d c : Nat} {cc : ByteArray} {n0 : Nat} {cy : Nat → ClassId} {adr adK adV : Nat → Nat} {D : va_G} {kc ks : Nat} (C : zC p s m args c0 R d c cc n0 cy adr adK adV D kc ks) : ∀ (k : Fin 4) (a : Nat) (pc : Nat) (L : List (Option Value)) (st : List Value) (M : zM), (decode cc pc = .ok (.aload_n k, 1)) → (L[(k : Nat)]? = some (some (.ref a))) → (zPP p l e R s m args below meth c0 n0 cy adr D kc ks Qf) (pc + 1) (L) (.ref a :: st) (M) → (zPP p l e R s m args below meth c0 n0 cy adr D kc ks Qf) pc L (st) M := by
  obtain ⟨Cx, Cb, Cm, Co, Ct, CK, Ci, Cs, Cf, Cl, Ckc, Cks⟩ := C
  intro k a pc L st M hd hl kk ls H locs hN hLoc hPw hSv
  exact lv_aload_n Cx Cb hd rfl (zl_get hLoc hl) (kk ls H locs hN hLoc hPw hSv)
set_option maxHeartbeats 400000 in
theorem s_aload {p : Program} {l : Launch} {e : Env} {R : Room} {s : State} {m : MethodId} {args : Array Value} {below : List Frame} {meth : Method} {c0 : Code} {Qf : State → Prop} {d c : Nat} {cc : ByteArray} {n0 : Nat} {cy : Nat → ClassId} {adr adK adV : Nat → Nat} {D : va_G} {kc ks : Nat} (C : zC p s m args c0 R d c cc n0 cy adr adK adV D kc ks) : ∀ (i : Nat) (a : Nat) (pc : Nat) (L : List (Option Value)) (st : List Value) (M : zM), (decode cc pc = .ok (.aload i, 2)) → (L[i]? = some (some (.ref a))) → (zPP p l e R s m args below meth c0 n0 cy adr D kc ks Qf) (pc + 2) (L) (.ref a :: st) (M) → (zPP p l e R s m args below meth c0 n0 cy adr D kc ks Qf) pc L (st) M := by
  obtain ⟨Cx, Cb, Cm, Co, Ct, CK, Ci, Cs, Cf, Cl, Ckc, Cks⟩ := C
  intro i a pc L st M hd hl kk ls H locs hN hLoc hPw hSv
  exact lv_aload Cx Cb hd (zl_get hLoc hl) (kk ls H locs hN hLoc hPw hSv)
set_option maxHeartbeats 400000 in
theorem s_astore_n {p : Program} {l : Launch} {e : Env} {R : Room} {s : State} {m : MethodId} {args : Array Value} {below : List Frame} {meth : Method} {c0 : Code} {Qf : State → Prop} {d c : Nat} {cc : ByteArray} {n0 : Nat} {cy : Nat → ClassId} {adr adK adV : Nat → Nat} {D : va_G} {kc ks : Nat} (C : zC p s m args c0 R d c cc n0 cy adr adK adV D kc ks) : ∀ (k : Fin 4) (a : Nat) (pc : Nat) (L : List (Option Value)) (st : List Value) (M : zM), (decode cc pc = .ok (.astore_n k, 1)) → ((k : Nat) < L.length) → (zpl L (k : Nat) = true) → (zPP p l e R s m args below meth c0 n0 cy adr D kc ks Qf) (pc + 1) (L.set (k : Nat) (some (.ref a))) (st) (M) → (zPP p l e R s m args below meth c0 n0 cy adr D kc ks Qf) pc L (.ref a :: st) M := by
  obtain ⟨Cx, Cb, Cm, Co, Ct, CK, Ci, Cs, Cf, Cl, Ckc, Cks⟩ := C
  intro k a pc L st M hd hi hp kk ls H locs hN hLoc hPw hSv
  exact lv_astore_n Cx Cb hd rfl hLoc (by rw [← hN]; exact hi) rfl (fun ls2 h2 => kk ls2 H locs (by rw [List.length_set]; exact hN) (zl_set (ls := ls) (v := .ref a) hi hp h2) hPw hSv)
set_option maxHeartbeats 400000 in
theorem s_astore {p : Program} {l : Launch} {e : Env} {R : Room} {s : State} {m : MethodId} {args : Array Value} {below : List Frame} {meth : Method} {c0 : Code} {Qf : State → Prop} {d c : Nat} {cc : ByteArray} {n0 : Nat} {cy : Nat → ClassId} {adr adK adV : Nat → Nat} {D : va_G} {kc ks : Nat} (C : zC p s m args c0 R d c cc n0 cy adr adK adV D kc ks) : ∀ (i : Nat) (a : Nat) (pc : Nat) (L : List (Option Value)) (st : List Value) (M : zM), (decode cc pc = .ok (.astore i, 2)) → (i < L.length) → (zpl L i = true) → (zPP p l e R s m args below meth c0 n0 cy adr D kc ks Qf) (pc + 2) (L.set i (some (.ref a))) (st) (M) → (zPP p l e R s m args below meth c0 n0 cy adr D kc ks Qf) pc L (.ref a :: st) M := by
  obtain ⟨Cx, Cb, Cm, Co, Ct, CK, Ci, Cs, Cf, Cl, Ckc, Cks⟩ := C
  intro i a pc L st M hd hi hp kk ls H locs hN hLoc hPw hSv
  exact lv_astore Cx Cb hd hLoc (by rw [← hN]; exact hi) rfl (fun ls2 h2 => kk ls2 H locs (by rw [List.length_set]; exact hN) (zl_set (ls := ls) (v := .ref a) hi hp h2) hPw hSv)
set_option maxHeartbeats 400000 in
theorem s_lstore {p : Program} {l : Launch} {e : Env} {R : Room} {s : State} {m : MethodId} {args : Array Value} {below : List Frame} {meth : Method} {c0 : Code} {Qf : State → Prop} {d c : Nat} {cc : ByteArray} {n0 : Nat} {cy : Nat → ClassId} {adr adK adV : Nat → Nat} {D : va_G} {kc ks : Nat} (C : zC p s m args c0 R d c cc n0 cy adr adK adV D kc ks) : ∀ (i : Nat) (a : Int) (pc : Nat) (L : List (Option Value)) (st : List Value) (M : zM), (decode cc pc = .ok (.lstore i, 2)) → (i + 1 < L.length) → (zpl L i = true) → (zPP p l e R s m args below meth c0 n0 cy adr D kc ks Qf) (pc + 2) ((L.set i (some (zJ a))).set (i + 1) none) (st) (M) → (zPP p l e R s m args below meth c0 n0 cy adr D kc ks Qf) pc L (zJ a :: st) M := by
  obtain ⟨Cx, Cb, Cm, Co, Ct, CK, Ci, Cs, Cf, Cl, Ckc, Cks⟩ := C
  intro i a pc L st M hd hi hp kk ls H locs hN hLoc hPw hSv
  exact lv_lstore Cx Cb hd hLoc (by rw [← hN]; exact hi) rfl (fun ls2 h2 => kk ls2 H locs (by rw [List.length_set, List.length_set]; exact hN) (zl_set2 (ls := ls) (v := zJ a) hi hp h2) hPw hSv)
set_option maxHeartbeats 400000 in
theorem s_iinc {p : Program} {l : Launch} {e : Env} {R : Room} {s : State} {m : MethodId} {args : Array Value} {below : List Frame} {meth : Method} {c0 : Code} {Qf : State → Prop} {d c : Nat} {cc : ByteArray} {n0 : Nat} {cy : Nat → ClassId} {adr adK adV : Nat → Nat} {D : va_G} {kc ks : Nat} (C : zC p s m args c0 R d c cc n0 cy adr adK adV D kc ks) : ∀ (i : Nat) (n a : Int) (pc : Nat) (L : List (Option Value)) (st : List Value) (M : zM), (decode cc pc = .ok (.iinc i n, 3)) → (L[i]? = some (some (zI a))) → (zpl L i = true) → (zPP p l e R s m args below meth c0 n0 cy adr D kc ks Qf) (pc + 3) (L.set i (some (zI (a + n)))) (st) (M) → (zPP p l e R s m args below meth c0 n0 cy adr D kc ks Qf) pc L (st) M := by
  obtain ⟨Cx, Cb, Cm, Co, Ct, CK, Ci, Cs, Cf, Cl, Ckc, Cks⟩ := C
  intro i n a pc L st M hd hl hp kk ls H locs hN hLoc hPw hSv
  obtain ⟨k, hk⟩ := List.getElem?_of_mem ((zl_mem adr L 0).mpr ⟨i, _, hl, rfl⟩)
  rw [Nat.zero_add] at hk
  have hi : i < L.length := (List.getElem?_eq_some_iff.mp hl).1
  exact lv_iinc Cx Cb hd hLoc hk (v := Int32.ofInt (a + n)) (Int32.ofInt_add a n).symm (by rw [← hN]; exact hi) rfl (fun ls2 h2 => kk ls2 H locs (by rw [List.length_set]; exact hN) (zl_set (ls := ls) (v := zI (a + n)) hi hp h2) hPw hSv)
set_option maxHeartbeats 400000 in
theorem s_dup {p : Program} {l : Launch} {e : Env} {R : Room} {s : State} {m : MethodId} {args : Array Value} {below : List Frame} {meth : Method} {c0 : Code} {Qf : State → Prop} {d c : Nat} {cc : ByteArray} {n0 : Nat} {cy : Nat → ClassId} {adr adK adV : Nat → Nat} {D : va_G} {kc ks : Nat} (C : zC p s m args c0 R d c cc n0 cy adr adK adV D kc ks) : ∀ (x : Value) (pc : Nat) (L : List (Option Value)) (st : List Value) (M : zM), (decode cc pc = .ok (.dup, 1)) → (x.category = 1) → (zPP p l e R s m args below meth c0 n0 cy adr D kc ks Qf) (pc + 1) (L) (x :: x :: st) (M) → (zPP p l e R s m args below meth c0 n0 cy adr D kc ks Qf) pc L (x :: st) M := by
  obtain ⟨Cx, Cb, Cm, Co, Ct, CK, Ci, Cs, Cf, Cl, Ckc, Cks⟩ := C
  intro x pc L st M hd hx kk ls H locs hN hLoc hPw hSv
  exact lv_dup Cx Cb hd ((zcat adr x).trans hx) (kk ls H locs hN hLoc hPw hSv)
set_option maxHeartbeats 400000 in
theorem s_dup_x1 {p : Program} {l : Launch} {e : Env} {R : Room} {s : State} {m : MethodId} {args : Array Value} {below : List Frame} {meth : Method} {c0 : Code} {Qf : State → Prop} {d c : Nat} {cc : ByteArray} {n0 : Nat} {cy : Nat → ClassId} {adr adK adV : Nat → Nat} {D : va_G} {kc ks : Nat} (C : zC p s m args c0 R d c cc n0 cy adr adK adV D kc ks) : ∀ (x y : Value) (pc : Nat) (L : List (Option Value)) (st : List Value) (M : zM), (decode cc pc = .ok (.dup_x1, 1)) → (x.category = 1) → (y.category = 1) → (zPP p l e R s m args below meth c0 n0 cy adr D kc ks Qf) (pc + 1) (L) (x :: y :: x :: st) (M) → (zPP p l e R s m args below meth c0 n0 cy adr D kc ks Qf) pc L (x :: y :: st) M := by
  obtain ⟨Cx, Cb, Cm, Co, Ct, CK, Ci, Cs, Cf, Cl, Ckc, Cks⟩ := C
  intro x y pc L st M hd hx hy kk ls H locs hN hLoc hPw hSv
  exact lv_dup_x1 Cx Cb hd ((zcat adr x).trans hx) ((zcat adr y).trans hy) (kk ls H locs hN hLoc hPw hSv)
set_option maxHeartbeats 400000 in
theorem s_dup_x2 {p : Program} {l : Launch} {e : Env} {R : Room} {s : State} {m : MethodId} {args : Array Value} {below : List Frame} {meth : Method} {c0 : Code} {Qf : State → Prop} {d c : Nat} {cc : ByteArray} {n0 : Nat} {cy : Nat → ClassId} {adr adK adV : Nat → Nat} {D : va_G} {kc ks : Nat} (C : zC p s m args c0 R d c cc n0 cy adr adK adV D kc ks) : ∀ (x y z : Value) (pc : Nat) (L : List (Option Value)) (st : List Value) (M : zM), (decode cc pc = .ok (.dup_x2, 1)) → (x.category = 1) → (y.category = 1) → (z.category = 1) → (zPP p l e R s m args below meth c0 n0 cy adr D kc ks Qf) (pc + 1) (L) (x :: y :: z :: x :: st) (M) → (zPP p l e R s m args below meth c0 n0 cy adr D kc ks Qf) pc L (x :: y :: z :: st) M := by
  obtain ⟨Cx, Cb, Cm, Co, Ct, CK, Ci, Cs, Cf, Cl, Ckc, Cks⟩ := C
  intro x y z pc L st M hd hx hy hz kk ls H locs hN hLoc hPw hSv
  exact lv_dup_x2 Cx Cb hd ((zcat adr x).trans hx) ((zcat adr y).trans hy) ((zcat adr z).trans hz) (kk ls H locs hN hLoc hPw hSv)
set_option maxHeartbeats 400000 in
theorem s_dup2 {p : Program} {l : Launch} {e : Env} {R : Room} {s : State} {m : MethodId} {args : Array Value} {below : List Frame} {meth : Method} {c0 : Code} {Qf : State → Prop} {d c : Nat} {cc : ByteArray} {n0 : Nat} {cy : Nat → ClassId} {adr adK adV : Nat → Nat} {D : va_G} {kc ks : Nat} (C : zC p s m args c0 R d c cc n0 cy adr adK adV D kc ks) : ∀ (x y : Value) (pc : Nat) (L : List (Option Value)) (st : List Value) (M : zM), (decode cc pc = .ok (.dup2, 1)) → (x.category = 1) → (y.category = 1) → (zPP p l e R s m args below meth c0 n0 cy adr D kc ks Qf) (pc + 1) (L) (x :: y :: x :: y :: st) (M) → (zPP p l e R s m args below meth c0 n0 cy adr D kc ks Qf) pc L (x :: y :: st) M := by
  obtain ⟨Cx, Cb, Cm, Co, Ct, CK, Ci, Cs, Cf, Cl, Ckc, Cks⟩ := C
  intro x y pc L st M hd hx hy kk ls H locs hN hLoc hPw hSv
  exact lv_dup2_11 Cx Cb hd ((zcat adr x).trans hx) ((zcat adr y).trans hy) (kk ls H locs hN hLoc hPw hSv)
set_option maxHeartbeats 400000 in
theorem s_pop {p : Program} {l : Launch} {e : Env} {R : Room} {s : State} {m : MethodId} {args : Array Value} {below : List Frame} {meth : Method} {c0 : Code} {Qf : State → Prop} {d c : Nat} {cc : ByteArray} {n0 : Nat} {cy : Nat → ClassId} {adr adK adV : Nat → Nat} {D : va_G} {kc ks : Nat} (C : zC p s m args c0 R d c cc n0 cy adr adK adV D kc ks) : ∀ (x : Value) (pc : Nat) (L : List (Option Value)) (st : List Value) (M : zM), (decode cc pc = .ok (.pop, 1)) → (x.category = 1) → (zPP p l e R s m args below meth c0 n0 cy adr D kc ks Qf) (pc + 1) (L) (st) (M) → (zPP p l e R s m args below meth c0 n0 cy adr D kc ks Qf) pc L (x :: st) M := by
  obtain ⟨Cx, Cb, Cm, Co, Ct, CK, Ci, Cs, Cf, Cl, Ckc, Cks⟩ := C
  intro x pc L st M hd hx kk ls H locs hN hLoc hPw hSv
  exact lv_pop Cx Cb hd ((zcat adr x).trans hx) (kk ls H locs hN hLoc hPw hSv)
set_option maxHeartbeats 400000 in
theorem s_iadd {p : Program} {l : Launch} {e : Env} {R : Room} {s : State} {m : MethodId} {args : Array Value} {below : List Frame} {meth : Method} {c0 : Code} {Qf : State → Prop} {d c : Nat} {cc : ByteArray} {n0 : Nat} {cy : Nat → ClassId} {adr adK adV : Nat → Nat} {D : va_G} {kc ks : Nat} (C : zC p s m args c0 R d c cc n0 cy adr adK adV D kc ks) : ∀ (a b : Int) (pc : Nat) (L : List (Option Value)) (st : List Value) (M : zM), (decode cc pc = .ok (.iadd, 1)) → (zPP p l e R s m args below meth c0 n0 cy adr D kc ks Qf) (pc + 1) (L) (zI (a + b) :: st) (M) → (zPP p l e R s m args below meth c0 n0 cy adr D kc ks Qf) pc L (zI b :: zI a :: st) M := by
  obtain ⟨Cx, Cb, Cm, Co, Ct, CK, Ci, Cs, Cf, Cl, Ckc, Cks⟩ := C
  intro a b pc L st M hd kk ls H locs hN hLoc hPw hSv
  exact lv_iadd Cx Cb hd (W.eq (zeq (Int32.ofInt_add a b).symm) (kk ls H locs hN hLoc hPw hSv))
set_option maxHeartbeats 400000 in
theorem s_isub {p : Program} {l : Launch} {e : Env} {R : Room} {s : State} {m : MethodId} {args : Array Value} {below : List Frame} {meth : Method} {c0 : Code} {Qf : State → Prop} {d c : Nat} {cc : ByteArray} {n0 : Nat} {cy : Nat → ClassId} {adr adK adV : Nat → Nat} {D : va_G} {kc ks : Nat} (C : zC p s m args c0 R d c cc n0 cy adr adK adV D kc ks) : ∀ (a b : Int) (pc : Nat) (L : List (Option Value)) (st : List Value) (M : zM), (decode cc pc = .ok (.isub, 1)) → (zPP p l e R s m args below meth c0 n0 cy adr D kc ks Qf) (pc + 1) (L) (zI (a - b) :: st) (M) → (zPP p l e R s m args below meth c0 n0 cy adr D kc ks Qf) pc L (zI b :: zI a :: st) M := by
  obtain ⟨Cx, Cb, Cm, Co, Ct, CK, Ci, Cs, Cf, Cl, Ckc, Cks⟩ := C
  intro a b pc L st M hd kk ls H locs hN hLoc hPw hSv
  exact lv_isub Cx Cb hd (W.eq (zeq (Int32.ofInt_sub a b).symm) (kk ls H locs hN hLoc hPw hSv))
set_option maxHeartbeats 400000 in
theorem s_imul {p : Program} {l : Launch} {e : Env} {R : Room} {s : State} {m : MethodId} {args : Array Value} {below : List Frame} {meth : Method} {c0 : Code} {Qf : State → Prop} {d c : Nat} {cc : ByteArray} {n0 : Nat} {cy : Nat → ClassId} {adr adK adV : Nat → Nat} {D : va_G} {kc ks : Nat} (C : zC p s m args c0 R d c cc n0 cy adr adK adV D kc ks) : ∀ (a b : Int) (pc : Nat) (L : List (Option Value)) (st : List Value) (M : zM), (decode cc pc = .ok (.imul, 1)) → (zPP p l e R s m args below meth c0 n0 cy adr D kc ks Qf) (pc + 1) (L) (zI (a * b) :: st) (M) → (zPP p l e R s m args below meth c0 n0 cy adr D kc ks Qf) pc L (zI b :: zI a :: st) M := by
  obtain ⟨Cx, Cb, Cm, Co, Ct, CK, Ci, Cs, Cf, Cl, Ckc, Cks⟩ := C
  intro a b pc L st M hd kk ls H locs hN hLoc hPw hSv
  exact lv_imul Cx Cb hd (W.eq (zeq (Int32.ofInt_mul a b).symm) (kk ls H locs hN hLoc hPw hSv))
set_option maxHeartbeats 400000 in
theorem s_ishl {p : Program} {l : Launch} {e : Env} {R : Room} {s : State} {m : MethodId} {args : Array Value} {below : List Frame} {meth : Method} {c0 : Code} {Qf : State → Prop} {d c : Nat} {cc : ByteArray} {n0 : Nat} {cy : Nat → ClassId} {adr adK adV : Nat → Nat} {D : va_G} {kc ks : Nat} (C : zC p s m args c0 R d c cc n0 cy adr adK adV D kc ks) : ∀ (a b : Int) (pc : Nat) (L : List (Option Value)) (st : List Value) (M : zM), (decode cc pc = .ok (.ishl, 1)) → (zPP p l e R s m args below meth c0 n0 cy adr D kc ks Qf) (pc + 1) (L) (zI (z_shl a b) :: st) (M) → (zPP p l e R s m args below meth c0 n0 cy adr D kc ks Qf) pc L (zI b :: zI a :: st) M := by
  obtain ⟨Cx, Cb, Cm, Co, Ct, CK, Ci, Cs, Cf, Cl, Ckc, Cks⟩ := C
  intro a b pc L st M hd kk ls H locs hN hLoc hPw hSv
  exact lv_ishl Cx Cb hd (W.eq (zeq (by simp [z_shl])) (kk ls H locs hN hLoc hPw hSv))
set_option maxHeartbeats 400000 in
theorem s_ishr {p : Program} {l : Launch} {e : Env} {R : Room} {s : State} {m : MethodId} {args : Array Value} {below : List Frame} {meth : Method} {c0 : Code} {Qf : State → Prop} {d c : Nat} {cc : ByteArray} {n0 : Nat} {cy : Nat → ClassId} {adr adK adV : Nat → Nat} {D : va_G} {kc ks : Nat} (C : zC p s m args c0 R d c cc n0 cy adr adK adV D kc ks) : ∀ (a b : Int) (pc : Nat) (L : List (Option Value)) (st : List Value) (M : zM), (decode cc pc = .ok (.ishr, 1)) → (zPP p l e R s m args below meth c0 n0 cy adr D kc ks Qf) (pc + 1) (L) (zI (z_shr a b) :: st) (M) → (zPP p l e R s m args below meth c0 n0 cy adr D kc ks Qf) pc L (zI b :: zI a :: st) M := by
  obtain ⟨Cx, Cb, Cm, Co, Ct, CK, Ci, Cs, Cf, Cl, Ckc, Cks⟩ := C
  intro a b pc L st M hd kk ls H locs hN hLoc hPw hSv
  exact lv_ishr Cx Cb hd (W.eq (zeq (by simp [z_shr])) (kk ls H locs hN hLoc hPw hSv))
set_option maxHeartbeats 400000 in
theorem s_iushr {p : Program} {l : Launch} {e : Env} {R : Room} {s : State} {m : MethodId} {args : Array Value} {below : List Frame} {meth : Method} {c0 : Code} {Qf : State → Prop} {d c : Nat} {cc : ByteArray} {n0 : Nat} {cy : Nat → ClassId} {adr adK adV : Nat → Nat} {D : va_G} {kc ks : Nat} (C : zC p s m args c0 R d c cc n0 cy adr adK adV D kc ks) : ∀ (a b : Int) (pc : Nat) (L : List (Option Value)) (st : List Value) (M : zM), (decode cc pc = .ok (.iushr, 1)) → (zPP p l e R s m args below meth c0 n0 cy adr D kc ks Qf) (pc + 1) (L) (zI (z_ushr a b) :: st) (M) → (zPP p l e R s m args below meth c0 n0 cy adr D kc ks Qf) pc L (zI b :: zI a :: st) M := by
  obtain ⟨Cx, Cb, Cm, Co, Ct, CK, Ci, Cs, Cf, Cl, Ckc, Cks⟩ := C
  intro a b pc L st M hd kk ls H locs hN hLoc hPw hSv
  exact lv_iushr Cx Cb hd (v := Int32.ofInt (z_ushr a b)) (by simp [z_ushr]) (kk ls H locs hN hLoc hPw hSv)
set_option maxHeartbeats 400000 in
theorem s_iand {p : Program} {l : Launch} {e : Env} {R : Room} {s : State} {m : MethodId} {args : Array Value} {below : List Frame} {meth : Method} {c0 : Code} {Qf : State → Prop} {d c : Nat} {cc : ByteArray} {n0 : Nat} {cy : Nat → ClassId} {adr adK adV : Nat → Nat} {D : va_G} {kc ks : Nat} (C : zC p s m args c0 R d c cc n0 cy adr adK adV D kc ks) : ∀ (a b : Int) (pc : Nat) (L : List (Option Value)) (st : List Value) (M : zM), (decode cc pc = .ok (.iand, 1)) → (zPP p l e R s m args below meth c0 n0 cy adr D kc ks Qf) (pc + 1) (L) (zI (z_and a b) :: st) (M) → (zPP p l e R s m args below meth c0 n0 cy adr D kc ks Qf) pc L (zI b :: zI a :: st) M := by
  obtain ⟨Cx, Cb, Cm, Co, Ct, CK, Ci, Cs, Cf, Cl, Ckc, Cks⟩ := C
  intro a b pc L st M hd kk ls H locs hN hLoc hPw hSv
  exact lv_iand Cx Cb hd (W.eq (zeq (by simp [z_and])) (kk ls H locs hN hLoc hPw hSv))
set_option maxHeartbeats 400000 in
theorem s_ior {p : Program} {l : Launch} {e : Env} {R : Room} {s : State} {m : MethodId} {args : Array Value} {below : List Frame} {meth : Method} {c0 : Code} {Qf : State → Prop} {d c : Nat} {cc : ByteArray} {n0 : Nat} {cy : Nat → ClassId} {adr adK adV : Nat → Nat} {D : va_G} {kc ks : Nat} (C : zC p s m args c0 R d c cc n0 cy adr adK adV D kc ks) : ∀ (a b : Int) (pc : Nat) (L : List (Option Value)) (st : List Value) (M : zM), (decode cc pc = .ok (.ior, 1)) → (zPP p l e R s m args below meth c0 n0 cy adr D kc ks Qf) (pc + 1) (L) (zI (z_or a b) :: st) (M) → (zPP p l e R s m args below meth c0 n0 cy adr D kc ks Qf) pc L (zI b :: zI a :: st) M := by
  obtain ⟨Cx, Cb, Cm, Co, Ct, CK, Ci, Cs, Cf, Cl, Ckc, Cks⟩ := C
  intro a b pc L st M hd kk ls H locs hN hLoc hPw hSv
  exact lv_ior Cx Cb hd (W.eq (zeq (by simp [z_or])) (kk ls H locs hN hLoc hPw hSv))
set_option maxHeartbeats 400000 in
theorem s_ixor {p : Program} {l : Launch} {e : Env} {R : Room} {s : State} {m : MethodId} {args : Array Value} {below : List Frame} {meth : Method} {c0 : Code} {Qf : State → Prop} {d c : Nat} {cc : ByteArray} {n0 : Nat} {cy : Nat → ClassId} {adr adK adV : Nat → Nat} {D : va_G} {kc ks : Nat} (C : zC p s m args c0 R d c cc n0 cy adr adK adV D kc ks) : ∀ (a b : Int) (pc : Nat) (L : List (Option Value)) (st : List Value) (M : zM), (decode cc pc = .ok (.ixor, 1)) → (zPP p l e R s m args below meth c0 n0 cy adr D kc ks Qf) (pc + 1) (L) (zI (z_xor a b) :: st) (M) → (zPP p l e R s m args below meth c0 n0 cy adr D kc ks Qf) pc L (zI b :: zI a :: st) M := by
  obtain ⟨Cx, Cb, Cm, Co, Ct, CK, Ci, Cs, Cf, Cl, Ckc, Cks⟩ := C
  intro a b pc L st M hd kk ls H locs hN hLoc hPw hSv
  exact lv_ixor Cx Cb hd (W.eq (zeq (by simp [z_xor])) (kk ls H locs hN hLoc hPw hSv))
set_option maxHeartbeats 400000 in
theorem s_idiv {p : Program} {l : Launch} {e : Env} {R : Room} {s : State} {m : MethodId} {args : Array Value} {below : List Frame} {meth : Method} {c0 : Code} {Qf : State → Prop} {d c : Nat} {cc : ByteArray} {n0 : Nat} {cy : Nat → ClassId} {adr adK adV : Nat → Nat} {D : va_G} {kc ks : Nat} (C : zC p s m args c0 R d c cc n0 cy adr adK adV D kc ks) : ∀ (a b : Int) (pc : Nat) (L : List (Option Value)) (st : List Value) (M : zM), (decode cc pc = .ok (.idiv, 1)) → (¬ zw b = 0) → (zPP p l e R s m args below meth c0 n0 cy adr D kc ks Qf) (pc + 1) (L) (zI (z_div a b) :: st) (M) → (zPP p l e R s m args below meth c0 n0 cy adr D kc ks Qf) pc L (zI b :: zI a :: st) M := by
  obtain ⟨Cx, Cb, Cm, Co, Ct, CK, Ci, Cs, Cf, Cl, Ckc, Cks⟩ := C
  intro a b pc L st M hd hz kk ls H locs hN hLoc hPw hSv
  exact lv_idiv Cx Cb hd (fun q => hz ((zt_e0 b).mp q)) (W.eq (zeq (Int32.ofInt_toInt _).symm) (kk ls H locs hN hLoc hPw hSv))
set_option maxHeartbeats 400000 in
theorem s_irem {p : Program} {l : Launch} {e : Env} {R : Room} {s : State} {m : MethodId} {args : Array Value} {below : List Frame} {meth : Method} {c0 : Code} {Qf : State → Prop} {d c : Nat} {cc : ByteArray} {n0 : Nat} {cy : Nat → ClassId} {adr adK adV : Nat → Nat} {D : va_G} {kc ks : Nat} (C : zC p s m args c0 R d c cc n0 cy adr adK adV D kc ks) : ∀ (a b : Int) (pc : Nat) (L : List (Option Value)) (st : List Value) (M : zM), (decode cc pc = .ok (.irem, 1)) → (¬ zw b = 0) → (zPP p l e R s m args below meth c0 n0 cy adr D kc ks Qf) (pc + 1) (L) (zI (z_rem a b) :: st) (M) → (zPP p l e R s m args below meth c0 n0 cy adr D kc ks Qf) pc L (zI b :: zI a :: st) M := by
  obtain ⟨Cx, Cb, Cm, Co, Ct, CK, Ci, Cs, Cf, Cl, Ckc, Cks⟩ := C
  intro a b pc L st M hd hz kk ls H locs hN hLoc hPw hSv
  exact lv_irem Cx Cb hd (fun q => hz ((zt_e0 b).mp q)) (W.eq (zeq (Int32.ofInt_toInt _).symm) (kk ls H locs hN hLoc hPw hSv))
set_option maxHeartbeats 400000 in
theorem s_ineg {p : Program} {l : Launch} {e : Env} {R : Room} {s : State} {m : MethodId} {args : Array Value} {below : List Frame} {meth : Method} {c0 : Code} {Qf : State → Prop} {d c : Nat} {cc : ByteArray} {n0 : Nat} {cy : Nat → ClassId} {adr adK adV : Nat → Nat} {D : va_G} {kc ks : Nat} (C : zC p s m args c0 R d c cc n0 cy adr adK adV D kc ks) : ∀ (a : Int) (pc : Nat) (L : List (Option Value)) (st : List Value) (M : zM), (decode cc pc = .ok (.ineg, 1)) → (zPP p l e R s m args below meth c0 n0 cy adr D kc ks Qf) (pc + 1) (L) (zI (-a) :: st) (M) → (zPP p l e R s m args below meth c0 n0 cy adr D kc ks Qf) pc L (zI a :: st) M := by
  obtain ⟨Cx, Cb, Cm, Co, Ct, CK, Ci, Cs, Cf, Cl, Ckc, Cks⟩ := C
  intro a pc L st M hd kk ls H locs hN hLoc hPw hSv
  exact lv_ineg Cx Cb hd (W.eq (zeq (Int32.ofInt_neg a).symm) (kk ls H locs hN hLoc hPw hSv))
set_option maxHeartbeats 400000 in
theorem s_ladd {p : Program} {l : Launch} {e : Env} {R : Room} {s : State} {m : MethodId} {args : Array Value} {below : List Frame} {meth : Method} {c0 : Code} {Qf : State → Prop} {d c : Nat} {cc : ByteArray} {n0 : Nat} {cy : Nat → ClassId} {adr adK adV : Nat → Nat} {D : va_G} {kc ks : Nat} (C : zC p s m args c0 R d c cc n0 cy adr adK adV D kc ks) : ∀ (a b : Int) (pc : Nat) (L : List (Option Value)) (st : List Value) (M : zM), (decode cc pc = .ok (.ladd, 1)) → (zPP p l e R s m args below meth c0 n0 cy adr D kc ks Qf) (pc + 1) (L) (zJ (a + b) :: st) (M) → (zPP p l e R s m args below meth c0 n0 cy adr D kc ks Qf) pc L (zJ b :: zJ a :: st) M := by
  obtain ⟨Cx, Cb, Cm, Co, Ct, CK, Ci, Cs, Cf, Cl, Ckc, Cks⟩ := C
  intro a b pc L st M hd kk ls H locs hN hLoc hPw hSv
  exact lv_ladd Cx Cb hd (W.eq (zeqL (Int64.ofInt_add a b).symm) (kk ls H locs hN hLoc hPw hSv))
set_option maxHeartbeats 400000 in
theorem s_land {p : Program} {l : Launch} {e : Env} {R : Room} {s : State} {m : MethodId} {args : Array Value} {below : List Frame} {meth : Method} {c0 : Code} {Qf : State → Prop} {d c : Nat} {cc : ByteArray} {n0 : Nat} {cy : Nat → ClassId} {adr adK adV : Nat → Nat} {D : va_G} {kc ks : Nat} (C : zC p s m args c0 R d c cc n0 cy adr adK adV D kc ks) : ∀ (a b : Int) (pc : Nat) (L : List (Option Value)) (st : List Value) (M : zM), (decode cc pc = .ok (.land, 1)) → (zPP p l e R s m args below meth c0 n0 cy adr D kc ks Qf) (pc + 1) (L) (zJ (z_land a b) :: st) (M) → (zPP p l e R s m args below meth c0 n0 cy adr D kc ks Qf) pc L (zJ b :: zJ a :: st) M := by
  obtain ⟨Cx, Cb, Cm, Co, Ct, CK, Ci, Cs, Cf, Cl, Ckc, Cks⟩ := C
  intro a b pc L st M hd kk ls H locs hN hLoc hPw hSv
  exact lv_land Cx Cb hd (W.eq (zeqL (Int64.ofInt_toInt _).symm) (kk ls H locs hN hLoc hPw hSv))
set_option maxHeartbeats 400000 in
theorem s_lor {p : Program} {l : Launch} {e : Env} {R : Room} {s : State} {m : MethodId} {args : Array Value} {below : List Frame} {meth : Method} {c0 : Code} {Qf : State → Prop} {d c : Nat} {cc : ByteArray} {n0 : Nat} {cy : Nat → ClassId} {adr adK adV : Nat → Nat} {D : va_G} {kc ks : Nat} (C : zC p s m args c0 R d c cc n0 cy adr adK adV D kc ks) : ∀ (a b : Int) (pc : Nat) (L : List (Option Value)) (st : List Value) (M : zM), (decode cc pc = .ok (.lor, 1)) → (zPP p l e R s m args below meth c0 n0 cy adr D kc ks Qf) (pc + 1) (L) (zJ (z_lor a b) :: st) (M) → (zPP p l e R s m args below meth c0 n0 cy adr D kc ks Qf) pc L (zJ b :: zJ a :: st) M := by
  obtain ⟨Cx, Cb, Cm, Co, Ct, CK, Ci, Cs, Cf, Cl, Ckc, Cks⟩ := C
  intro a b pc L st M hd kk ls H locs hN hLoc hPw hSv
  exact lv_lor Cx Cb hd (W.eq (zeqL (Int64.ofInt_toInt _).symm) (kk ls H locs hN hLoc hPw hSv))
set_option maxHeartbeats 400000 in
theorem s_lshl {p : Program} {l : Launch} {e : Env} {R : Room} {s : State} {m : MethodId} {args : Array Value} {below : List Frame} {meth : Method} {c0 : Code} {Qf : State → Prop} {d c : Nat} {cc : ByteArray} {n0 : Nat} {cy : Nat → ClassId} {adr adK adV : Nat → Nat} {D : va_G} {kc ks : Nat} (C : zC p s m args c0 R d c cc n0 cy adr adK adV D kc ks) : ∀ (a b : Int) (pc : Nat) (L : List (Option Value)) (st : List Value) (M : zM), (decode cc pc = .ok (.lshl, 1)) → (zPP p l e R s m args below meth c0 n0 cy adr D kc ks Qf) (pc + 1) (L) (zJ (z_lshl a b) :: st) (M) → (zPP p l e R s m args below meth c0 n0 cy adr D kc ks Qf) pc L (zI b :: zJ a :: st) M := by
  obtain ⟨Cx, Cb, Cm, Co, Ct, CK, Ci, Cs, Cf, Cl, Ckc, Cks⟩ := C
  intro a b pc L st M hd kk ls H locs hN hLoc hPw hSv
  exact lv_lshl Cx Cb hd (v := Int64.ofInt (z_lshl a b)) (Int64.ofInt_toInt _).symm (kk ls H locs hN hLoc hPw hSv)
set_option maxHeartbeats 400000 in
theorem s_lcmp {p : Program} {l : Launch} {e : Env} {R : Room} {s : State} {m : MethodId} {args : Array Value} {below : List Frame} {meth : Method} {c0 : Code} {Qf : State → Prop} {d c : Nat} {cc : ByteArray} {n0 : Nat} {cy : Nat → ClassId} {adr adK adV : Nat → Nat} {D : va_G} {kc ks : Nat} (C : zC p s m args c0 R d c cc n0 cy adr adK adV D kc ks) : ∀ (a b : Int) (pc : Nat) (L : List (Option Value)) (st : List Value) (M : zM), (decode cc pc = .ok (.lcmp, 1)) → (zPP p l e R s m args below meth c0 n0 cy adr D kc ks Qf) (pc + 1) (L) (zI (z_lc a b) :: st) (M) → (zPP p l e R s m args below meth c0 n0 cy adr D kc ks Qf) pc L (zJ b :: zJ a :: st) M := by
  obtain ⟨Cx, Cb, Cm, Co, Ct, CK, Ci, Cs, Cf, Cl, Ckc, Cks⟩ := C
  intro a b pc L st M hd kk ls H locs hN hLoc hPw hSv
  exact W.lcmp Cx Cb hd (W.eq (zeq (zt_lc a b)) (kk ls H locs hN hLoc hPw hSv))
set_option maxHeartbeats 400000 in
theorem s_i2l {p : Program} {l : Launch} {e : Env} {R : Room} {s : State} {m : MethodId} {args : Array Value} {below : List Frame} {meth : Method} {c0 : Code} {Qf : State → Prop} {d c : Nat} {cc : ByteArray} {n0 : Nat} {cy : Nat → ClassId} {adr adK adV : Nat → Nat} {D : va_G} {kc ks : Nat} (C : zC p s m args c0 R d c cc n0 cy adr adK adV D kc ks) : ∀ (a : Int) (pc : Nat) (L : List (Option Value)) (st : List Value) (M : zM), (decode cc pc = .ok (.i2l, 1)) → (zPP p l e R s m args below meth c0 n0 cy adr D kc ks Qf) (pc + 1) (L) (zJ (zw a) :: st) (M) → (zPP p l e R s m args below meth c0 n0 cy adr D kc ks Qf) pc L (zI a :: st) M := by
  obtain ⟨Cx, Cb, Cm, Co, Ct, CK, Ci, Cs, Cf, Cl, Ckc, Cks⟩ := C
  intro a pc L st M hd kk ls H locs hN hLoc hPw hSv
  exact lv_i2l Cx Cb hd (zt_i2l a) (kk ls H locs hN hLoc hPw hSv)
set_option maxHeartbeats 400000 in
theorem s_l2i {p : Program} {l : Launch} {e : Env} {R : Room} {s : State} {m : MethodId} {args : Array Value} {below : List Frame} {meth : Method} {c0 : Code} {Qf : State → Prop} {d c : Nat} {cc : ByteArray} {n0 : Nat} {cy : Nat → ClassId} {adr adK adV : Nat → Nat} {D : va_G} {kc ks : Nat} (C : zC p s m args c0 R d c cc n0 cy adr adK adV D kc ks) : ∀ (a : Int) (pc : Nat) (L : List (Option Value)) (st : List Value) (M : zM), (decode cc pc = .ok (.l2i, 1)) → (zPP p l e R s m args below meth c0 n0 cy adr D kc ks Qf) (pc + 1) (L) (zI (zv a) :: st) (M) → (zPP p l e R s m args below meth c0 n0 cy adr D kc ks Qf) pc L (zJ a :: st) M := by
  obtain ⟨Cx, Cb, Cm, Co, Ct, CK, Ci, Cs, Cf, Cl, Ckc, Cks⟩ := C
  intro a pc L st M hd kk ls H locs hN hLoc hPw hSv
  exact lv_l2i Cx Cb hd (zt_l2i a) (kk ls H locs hN hLoc hPw hSv)
set_option maxHeartbeats 400000 in
theorem s_i2b {p : Program} {l : Launch} {e : Env} {R : Room} {s : State} {m : MethodId} {args : Array Value} {below : List Frame} {meth : Method} {c0 : Code} {Qf : State → Prop} {d c : Nat} {cc : ByteArray} {n0 : Nat} {cy : Nat → ClassId} {adr adK adV : Nat → Nat} {D : va_G} {kc ks : Nat} (C : zC p s m args c0 R d c cc n0 cy adr adK adV D kc ks) : ∀ (a : Int) (pc : Nat) (L : List (Option Value)) (st : List Value) (M : zM), (decode cc pc = .ok (.i2b, 1)) → (zPP p l e R s m args below meth c0 n0 cy adr D kc ks Qf) (pc + 1) (L) (zI (z_b a) :: st) (M) → (zPP p l e R s m args below meth c0 n0 cy adr D kc ks Qf) pc L (zI a :: st) M := by
  obtain ⟨Cx, Cb, Cm, Co, Ct, CK, Ci, Cs, Cf, Cl, Ckc, Cks⟩ := C
  intro a pc L st M hd kk ls H locs hN hLoc hPw hSv
  exact lv_i2b Cx Cb hd (v := Int32.ofInt (z_b a)) (Int32.ofInt_toInt _).symm (kk ls H locs hN hLoc hPw hSv)
set_option maxHeartbeats 400000 in
theorem s_i2s {p : Program} {l : Launch} {e : Env} {R : Room} {s : State} {m : MethodId} {args : Array Value} {below : List Frame} {meth : Method} {c0 : Code} {Qf : State → Prop} {d c : Nat} {cc : ByteArray} {n0 : Nat} {cy : Nat → ClassId} {adr adK adV : Nat → Nat} {D : va_G} {kc ks : Nat} (C : zC p s m args c0 R d c cc n0 cy adr adK adV D kc ks) : ∀ (a : Int) (pc : Nat) (L : List (Option Value)) (st : List Value) (M : zM), (decode cc pc = .ok (.i2s, 1)) → (zPP p l e R s m args below meth c0 n0 cy adr D kc ks Qf) (pc + 1) (L) (zI (z_s a) :: st) (M) → (zPP p l e R s m args below meth c0 n0 cy adr D kc ks Qf) pc L (zI a :: st) M := by
  obtain ⟨Cx, Cb, Cm, Co, Ct, CK, Ci, Cs, Cf, Cl, Ckc, Cks⟩ := C
  intro a pc L st M hd kk ls H locs hN hLoc hPw hSv
  exact lv_i2s Cx Cb hd (v := Int32.ofInt (z_s a)) (Int32.ofInt_toInt _).symm (kk ls H locs hN hLoc hPw hSv)
set_option maxHeartbeats 400000 in
theorem s_goto {p : Program} {l : Launch} {e : Env} {R : Room} {s : State} {m : MethodId} {args : Array Value} {below : List Frame} {meth : Method} {c0 : Code} {Qf : State → Prop} {d c : Nat} {cc : ByteArray} {n0 : Nat} {cy : Nat → ClassId} {adr adK adV : Nat → Nat} {D : va_G} {kc ks : Nat} (C : zC p s m args c0 R d c cc n0 cy adr adK adV D kc ks) : ∀ (off : Int) (tgt : Nat) (pc : Nat) (L : List (Option Value)) (st : List Value) (M : zM), (decode cc pc = .ok (.goto off, 3)) → ((pc : Int) + off = (tgt : Int)) → (zPP p l e R s m args below meth c0 n0 cy adr D kc ks Qf) (tgt) (L) (st) (M) → (zPP p l e R s m args below meth c0 n0 cy adr D kc ks Qf) pc L (st) M := by
  obtain ⟨Cx, Cb, Cm, Co, Ct, CK, Ci, Cs, Cf, Cl, Ckc, Cks⟩ := C
  intro off tgt pc L st M hd ht kk ls H locs hN hLoc hPw hSv
  exact lv_goto Cx Cb hd ht (kk ls H locs hN hLoc hPw hSv)
set_option maxHeartbeats 400000 in
theorem s_if_eq {p : Program} {l : Launch} {e : Env} {R : Room} {s : State} {m : MethodId} {args : Array Value} {below : List Frame} {meth : Method} {c0 : Code} {Qf : State → Prop} {d c : Nat} {cc : ByteArray} {n0 : Nat} {cy : Nat → ClassId} {adr adK adV : Nat → Nat} {D : va_G} {kc ks : Nat} (C : zC p s m args c0 R d c cc n0 cy adr adK adV D kc ks) : ∀ (a a1 : Int) (off : Int) (tgt : Nat) (pc : Nat) (L : List (Option Value)) (st : List Value) (M : zM), (decode cc pc = .ok (.ifCond .eq off, 3)) → ((pc : Int) + off = (tgt : Int)) → (zw a = a1) → ((a1 = 0) → (zPP p l e R s m args below meth c0 n0 cy adr D kc ks Qf) (tgt) (L) (st) (M)) → ((¬ a1 = 0) → (zPP p l e R s m args below meth c0 n0 cy adr D kc ks Qf) (pc + 3) (L) (st) (M)) → (zPP p l e R s m args below meth c0 n0 cy adr D kc ks Qf) pc L (zI a :: st) M := by
  obtain ⟨Cx, Cb, Cm, Co, Ct, CK, Ci, Cs, Cf, Cl, Ckc, Cks⟩ := C
  intro a a1 off tgt pc L st M hd ht ha kt kf ls H locs hN hLoc hPw hSv
  subst ha
  exact lv_if_eq Cx Cb hd ht (fun q => kt ((zt_e0 a).mp q) ls H locs hN hLoc hPw hSv) (fun q => kf (fun q2 => q ((zt_e0 a).mpr q2)) ls H locs hN hLoc hPw hSv)
set_option maxHeartbeats 400000 in
theorem s_icmp_eq {p : Program} {l : Launch} {e : Env} {R : Room} {s : State} {m : MethodId} {args : Array Value} {below : List Frame} {meth : Method} {c0 : Code} {Qf : State → Prop} {d c : Nat} {cc : ByteArray} {n0 : Nat} {cy : Nat → ClassId} {adr adK adV : Nat → Nat} {D : va_G} {kc ks : Nat} (C : zC p s m args c0 R d c cc n0 cy adr adK adV D kc ks) : ∀ (a a1 b b1 : Int) (off : Int) (tgt : Nat) (pc : Nat) (L : List (Option Value)) (st : List Value) (M : zM), (decode cc pc = .ok (.if_icmp .eq off, 3)) → ((pc : Int) + off = (tgt : Int)) → (zw a = a1) → (zw b = b1) → ((a1 = b1) → (zPP p l e R s m args below meth c0 n0 cy adr D kc ks Qf) (tgt) (L) (st) (M)) → ((¬ a1 = b1) → (zPP p l e R s m args below meth c0 n0 cy adr D kc ks Qf) (pc + 3) (L) (st) (M)) → (zPP p l e R s m args below meth c0 n0 cy adr D kc ks Qf) pc L (zI b :: zI a :: st) M := by
  obtain ⟨Cx, Cb, Cm, Co, Ct, CK, Ci, Cs, Cf, Cl, Ckc, Cks⟩ := C
  intro a a1 b b1 off tgt pc L st M hd ht ha hb kt kf ls H locs hN hLoc hPw hSv
  subst ha; subst hb
  exact lv_icmp_eq Cx Cb hd ht (fun q => kt ((zt_eq a b).mp q) ls H locs hN hLoc hPw hSv) (fun q => kf (fun q2 => q ((zt_eq a b).mpr q2)) ls H locs hN hLoc hPw hSv)
set_option maxHeartbeats 400000 in
theorem s_if_ne {p : Program} {l : Launch} {e : Env} {R : Room} {s : State} {m : MethodId} {args : Array Value} {below : List Frame} {meth : Method} {c0 : Code} {Qf : State → Prop} {d c : Nat} {cc : ByteArray} {n0 : Nat} {cy : Nat → ClassId} {adr adK adV : Nat → Nat} {D : va_G} {kc ks : Nat} (C : zC p s m args c0 R d c cc n0 cy adr adK adV D kc ks) : ∀ (a a1 : Int) (off : Int) (tgt : Nat) (pc : Nat) (L : List (Option Value)) (st : List Value) (M : zM), (decode cc pc = .ok (.ifCond .ne off, 3)) → ((pc : Int) + off = (tgt : Int)) → (zw a = a1) → ((¬ a1 = 0) → (zPP p l e R s m args below meth c0 n0 cy adr D kc ks Qf) (tgt) (L) (st) (M)) → ((a1 = 0) → (zPP p l e R s m args below meth c0 n0 cy adr D kc ks Qf) (pc + 3) (L) (st) (M)) → (zPP p l e R s m args below meth c0 n0 cy adr D kc ks Qf) pc L (zI a :: st) M := by
  obtain ⟨Cx, Cb, Cm, Co, Ct, CK, Ci, Cs, Cf, Cl, Ckc, Cks⟩ := C
  intro a a1 off tgt pc L st M hd ht ha kt kf ls H locs hN hLoc hPw hSv
  subst ha
  exact lv_if_ne Cx Cb hd ht (fun q => kt (fun q2 => q ((zt_e0 a).mpr q2)) ls H locs hN hLoc hPw hSv) (fun q => kf ((zt_e0 a).mp q) ls H locs hN hLoc hPw hSv)
set_option maxHeartbeats 400000 in
theorem s_icmp_ne {p : Program} {l : Launch} {e : Env} {R : Room} {s : State} {m : MethodId} {args : Array Value} {below : List Frame} {meth : Method} {c0 : Code} {Qf : State → Prop} {d c : Nat} {cc : ByteArray} {n0 : Nat} {cy : Nat → ClassId} {adr adK adV : Nat → Nat} {D : va_G} {kc ks : Nat} (C : zC p s m args c0 R d c cc n0 cy adr adK adV D kc ks) : ∀ (a a1 b b1 : Int) (off : Int) (tgt : Nat) (pc : Nat) (L : List (Option Value)) (st : List Value) (M : zM), (decode cc pc = .ok (.if_icmp .ne off, 3)) → ((pc : Int) + off = (tgt : Int)) → (zw a = a1) → (zw b = b1) → ((¬ a1 = b1) → (zPP p l e R s m args below meth c0 n0 cy adr D kc ks Qf) (tgt) (L) (st) (M)) → ((a1 = b1) → (zPP p l e R s m args below meth c0 n0 cy adr D kc ks Qf) (pc + 3) (L) (st) (M)) → (zPP p l e R s m args below meth c0 n0 cy adr D kc ks Qf) pc L (zI b :: zI a :: st) M := by
  obtain ⟨Cx, Cb, Cm, Co, Ct, CK, Ci, Cs, Cf, Cl, Ckc, Cks⟩ := C
  intro a a1 b b1 off tgt pc L st M hd ht ha hb kt kf ls H locs hN hLoc hPw hSv
  subst ha; subst hb
  exact lv_icmp_ne Cx Cb hd ht (fun q => kt (fun q2 => q ((zt_eq a b).mpr q2)) ls H locs hN hLoc hPw hSv) (fun q => kf ((zt_eq a b).mp q) ls H locs hN hLoc hPw hSv)
set_option maxHeartbeats 400000 in
theorem s_if_lt {p : Program} {l : Launch} {e : Env} {R : Room} {s : State} {m : MethodId} {args : Array Value} {below : List Frame} {meth : Method} {c0 : Code} {Qf : State → Prop} {d c : Nat} {cc : ByteArray} {n0 : Nat} {cy : Nat → ClassId} {adr adK adV : Nat → Nat} {D : va_G} {kc ks : Nat} (C : zC p s m args c0 R d c cc n0 cy adr adK adV D kc ks) : ∀ (a a1 : Int) (off : Int) (tgt : Nat) (pc : Nat) (L : List (Option Value)) (st : List Value) (M : zM), (decode cc pc = .ok (.ifCond .lt off, 3)) → ((pc : Int) + off = (tgt : Int)) → (zw a = a1) → ((a1 < 0) → (zPP p l e R s m args below meth c0 n0 cy adr D kc ks Qf) (tgt) (L) (st) (M)) → ((¬ a1 < 0) → (zPP p l e R s m args below meth c0 n0 cy adr D kc ks Qf) (pc + 3) (L) (st) (M)) → (zPP p l e R s m args below meth c0 n0 cy adr D kc ks Qf) pc L (zI a :: st) M := by
  obtain ⟨Cx, Cb, Cm, Co, Ct, CK, Ci, Cs, Cf, Cl, Ckc, Cks⟩ := C
  intro a a1 off tgt pc L st M hd ht ha kt kf ls H locs hN hLoc hPw hSv
  subst ha
  exact lv_if_lt Cx Cb hd ht (fun q => kt ((zt_l0 a).mp q) ls H locs hN hLoc hPw hSv) (fun q => kf (fun q2 => q ((zt_l0 a).mpr q2)) ls H locs hN hLoc hPw hSv)
set_option maxHeartbeats 400000 in
theorem s_icmp_lt {p : Program} {l : Launch} {e : Env} {R : Room} {s : State} {m : MethodId} {args : Array Value} {below : List Frame} {meth : Method} {c0 : Code} {Qf : State → Prop} {d c : Nat} {cc : ByteArray} {n0 : Nat} {cy : Nat → ClassId} {adr adK adV : Nat → Nat} {D : va_G} {kc ks : Nat} (C : zC p s m args c0 R d c cc n0 cy adr adK adV D kc ks) : ∀ (a a1 b b1 : Int) (off : Int) (tgt : Nat) (pc : Nat) (L : List (Option Value)) (st : List Value) (M : zM), (decode cc pc = .ok (.if_icmp .lt off, 3)) → ((pc : Int) + off = (tgt : Int)) → (zw a = a1) → (zw b = b1) → ((a1 < b1) → (zPP p l e R s m args below meth c0 n0 cy adr D kc ks Qf) (tgt) (L) (st) (M)) → ((¬ a1 < b1) → (zPP p l e R s m args below meth c0 n0 cy adr D kc ks Qf) (pc + 3) (L) (st) (M)) → (zPP p l e R s m args below meth c0 n0 cy adr D kc ks Qf) pc L (zI b :: zI a :: st) M := by
  obtain ⟨Cx, Cb, Cm, Co, Ct, CK, Ci, Cs, Cf, Cl, Ckc, Cks⟩ := C
  intro a a1 b b1 off tgt pc L st M hd ht ha hb kt kf ls H locs hN hLoc hPw hSv
  subst ha; subst hb
  exact lv_icmp_lt Cx Cb hd ht (fun q => kt ((zt_lt a b).mp q) ls H locs hN hLoc hPw hSv) (fun q => kf (fun q2 => q ((zt_lt a b).mpr q2)) ls H locs hN hLoc hPw hSv)
set_option maxHeartbeats 400000 in
theorem s_if_ge {p : Program} {l : Launch} {e : Env} {R : Room} {s : State} {m : MethodId} {args : Array Value} {below : List Frame} {meth : Method} {c0 : Code} {Qf : State → Prop} {d c : Nat} {cc : ByteArray} {n0 : Nat} {cy : Nat → ClassId} {adr adK adV : Nat → Nat} {D : va_G} {kc ks : Nat} (C : zC p s m args c0 R d c cc n0 cy adr adK adV D kc ks) : ∀ (a a1 : Int) (off : Int) (tgt : Nat) (pc : Nat) (L : List (Option Value)) (st : List Value) (M : zM), (decode cc pc = .ok (.ifCond .ge off, 3)) → ((pc : Int) + off = (tgt : Int)) → (zw a = a1) → ((¬ a1 < 0) → (zPP p l e R s m args below meth c0 n0 cy adr D kc ks Qf) (tgt) (L) (st) (M)) → ((a1 < 0) → (zPP p l e R s m args below meth c0 n0 cy adr D kc ks Qf) (pc + 3) (L) (st) (M)) → (zPP p l e R s m args below meth c0 n0 cy adr D kc ks Qf) pc L (zI a :: st) M := by
  obtain ⟨Cx, Cb, Cm, Co, Ct, CK, Ci, Cs, Cf, Cl, Ckc, Cks⟩ := C
  intro a a1 off tgt pc L st M hd ht ha kt kf ls H locs hN hLoc hPw hSv
  subst ha
  exact lv_if_ge Cx Cb hd ht (fun q => kt ((zt_ge0 a).mp q) ls H locs hN hLoc hPw hSv) (fun q => kf (Classical.not_not.mp (fun q2 => q ((zt_ge0 a).mpr q2))) ls H locs hN hLoc hPw hSv)
set_option maxHeartbeats 400000 in
theorem s_icmp_ge {p : Program} {l : Launch} {e : Env} {R : Room} {s : State} {m : MethodId} {args : Array Value} {below : List Frame} {meth : Method} {c0 : Code} {Qf : State → Prop} {d c : Nat} {cc : ByteArray} {n0 : Nat} {cy : Nat → ClassId} {adr adK adV : Nat → Nat} {D : va_G} {kc ks : Nat} (C : zC p s m args c0 R d c cc n0 cy adr adK adV D kc ks) : ∀ (a a1 b b1 : Int) (off : Int) (tgt : Nat) (pc : Nat) (L : List (Option Value)) (st : List Value) (M : zM), (decode cc pc = .ok (.if_icmp .ge off, 3)) → ((pc : Int) + off = (tgt : Int)) → (zw a = a1) → (zw b = b1) → ((¬ a1 < b1) → (zPP p l e R s m args below meth c0 n0 cy adr D kc ks Qf) (tgt) (L) (st) (M)) → ((a1 < b1) → (zPP p l e R s m args below meth c0 n0 cy adr D kc ks Qf) (pc + 3) (L) (st) (M)) → (zPP p l e R s m args below meth c0 n0 cy adr D kc ks Qf) pc L (zI b :: zI a :: st) M := by
  obtain ⟨Cx, Cb, Cm, Co, Ct, CK, Ci, Cs, Cf, Cl, Ckc, Cks⟩ := C
  intro a a1 b b1 off tgt pc L st M hd ht ha hb kt kf ls H locs hN hLoc hPw hSv
  subst ha; subst hb
  exact lv_icmp_ge Cx Cb hd ht (fun q => kt ((zt_le b a).mp q) ls H locs hN hLoc hPw hSv) (fun q => kf (Classical.not_not.mp (fun q2 => q ((zt_le b a).mpr q2))) ls H locs hN hLoc hPw hSv)
set_option maxHeartbeats 400000 in
theorem s_if_gt {p : Program} {l : Launch} {e : Env} {R : Room} {s : State} {m : MethodId} {args : Array Value} {below : List Frame} {meth : Method} {c0 : Code} {Qf : State → Prop} {d c : Nat} {cc : ByteArray} {n0 : Nat} {cy : Nat → ClassId} {adr adK adV : Nat → Nat} {D : va_G} {kc ks : Nat} (C : zC p s m args c0 R d c cc n0 cy adr adK adV D kc ks) : ∀ (a a1 : Int) (off : Int) (tgt : Nat) (pc : Nat) (L : List (Option Value)) (st : List Value) (M : zM), (decode cc pc = .ok (.ifCond .gt off, 3)) → ((pc : Int) + off = (tgt : Int)) → (zw a = a1) → ((0 < a1) → (zPP p l e R s m args below meth c0 n0 cy adr D kc ks Qf) (tgt) (L) (st) (M)) → ((¬ 0 < a1) → (zPP p l e R s m args below meth c0 n0 cy adr D kc ks Qf) (pc + 3) (L) (st) (M)) → (zPP p l e R s m args below meth c0 n0 cy adr D kc ks Qf) pc L (zI a :: st) M := by
  obtain ⟨Cx, Cb, Cm, Co, Ct, CK, Ci, Cs, Cf, Cl, Ckc, Cks⟩ := C
  intro a a1 off tgt pc L st M hd ht ha kt kf ls H locs hN hLoc hPw hSv
  subst ha
  exact lv_if_gt Cx Cb hd ht (fun q => kt ((zt_g0 a).mp q) ls H locs hN hLoc hPw hSv) (fun q => kf (fun q2 => q ((zt_g0 a).mpr q2)) ls H locs hN hLoc hPw hSv)
set_option maxHeartbeats 400000 in
theorem s_icmp_gt {p : Program} {l : Launch} {e : Env} {R : Room} {s : State} {m : MethodId} {args : Array Value} {below : List Frame} {meth : Method} {c0 : Code} {Qf : State → Prop} {d c : Nat} {cc : ByteArray} {n0 : Nat} {cy : Nat → ClassId} {adr adK adV : Nat → Nat} {D : va_G} {kc ks : Nat} (C : zC p s m args c0 R d c cc n0 cy adr adK adV D kc ks) : ∀ (a a1 b b1 : Int) (off : Int) (tgt : Nat) (pc : Nat) (L : List (Option Value)) (st : List Value) (M : zM), (decode cc pc = .ok (.if_icmp .gt off, 3)) → ((pc : Int) + off = (tgt : Int)) → (zw a = a1) → (zw b = b1) → ((b1 < a1) → (zPP p l e R s m args below meth c0 n0 cy adr D kc ks Qf) (tgt) (L) (st) (M)) → ((¬ b1 < a1) → (zPP p l e R s m args below meth c0 n0 cy adr D kc ks Qf) (pc + 3) (L) (st) (M)) → (zPP p l e R s m args below meth c0 n0 cy adr D kc ks Qf) pc L (zI b :: zI a :: st) M := by
  obtain ⟨Cx, Cb, Cm, Co, Ct, CK, Ci, Cs, Cf, Cl, Ckc, Cks⟩ := C
  intro a a1 b b1 off tgt pc L st M hd ht ha hb kt kf ls H locs hN hLoc hPw hSv
  subst ha; subst hb
  exact lv_icmp_gt Cx Cb hd ht (fun q => kt ((zt_lt b a).mp q) ls H locs hN hLoc hPw hSv) (fun q => kf (fun q2 => q ((zt_lt b a).mpr q2)) ls H locs hN hLoc hPw hSv)
set_option maxHeartbeats 400000 in
theorem s_if_le {p : Program} {l : Launch} {e : Env} {R : Room} {s : State} {m : MethodId} {args : Array Value} {below : List Frame} {meth : Method} {c0 : Code} {Qf : State → Prop} {d c : Nat} {cc : ByteArray} {n0 : Nat} {cy : Nat → ClassId} {adr adK adV : Nat → Nat} {D : va_G} {kc ks : Nat} (C : zC p s m args c0 R d c cc n0 cy adr adK adV D kc ks) : ∀ (a a1 : Int) (off : Int) (tgt : Nat) (pc : Nat) (L : List (Option Value)) (st : List Value) (M : zM), (decode cc pc = .ok (.ifCond .le off, 3)) → ((pc : Int) + off = (tgt : Int)) → (zw a = a1) → ((¬ 0 < a1) → (zPP p l e R s m args below meth c0 n0 cy adr D kc ks Qf) (tgt) (L) (st) (M)) → ((0 < a1) → (zPP p l e R s m args below meth c0 n0 cy adr D kc ks Qf) (pc + 3) (L) (st) (M)) → (zPP p l e R s m args below meth c0 n0 cy adr D kc ks Qf) pc L (zI a :: st) M := by
  obtain ⟨Cx, Cb, Cm, Co, Ct, CK, Ci, Cs, Cf, Cl, Ckc, Cks⟩ := C
  intro a a1 off tgt pc L st M hd ht ha kt kf ls H locs hN hLoc hPw hSv
  subst ha
  exact lv_if_le Cx Cb hd ht (fun q => kt ((zt_le0 a).mp q) ls H locs hN hLoc hPw hSv) (fun q => kf (Classical.not_not.mp (fun q2 => q ((zt_le0 a).mpr q2))) ls H locs hN hLoc hPw hSv)
set_option maxHeartbeats 400000 in
theorem s_icmp_le {p : Program} {l : Launch} {e : Env} {R : Room} {s : State} {m : MethodId} {args : Array Value} {below : List Frame} {meth : Method} {c0 : Code} {Qf : State → Prop} {d c : Nat} {cc : ByteArray} {n0 : Nat} {cy : Nat → ClassId} {adr adK adV : Nat → Nat} {D : va_G} {kc ks : Nat} (C : zC p s m args c0 R d c cc n0 cy adr adK adV D kc ks) : ∀ (a a1 b b1 : Int) (off : Int) (tgt : Nat) (pc : Nat) (L : List (Option Value)) (st : List Value) (M : zM), (decode cc pc = .ok (.if_icmp .le off, 3)) → ((pc : Int) + off = (tgt : Int)) → (zw a = a1) → (zw b = b1) → ((¬ b1 < a1) → (zPP p l e R s m args below meth c0 n0 cy adr D kc ks Qf) (tgt) (L) (st) (M)) → ((b1 < a1) → (zPP p l e R s m args below meth c0 n0 cy adr D kc ks Qf) (pc + 3) (L) (st) (M)) → (zPP p l e R s m args below meth c0 n0 cy adr D kc ks Qf) pc L (zI b :: zI a :: st) M := by
  obtain ⟨Cx, Cb, Cm, Co, Ct, CK, Ci, Cs, Cf, Cl, Ckc, Cks⟩ := C
  intro a a1 b b1 off tgt pc L st M hd ht ha hb kt kf ls H locs hN hLoc hPw hSv
  subst ha; subst hb
  exact lv_icmp_le Cx Cb hd ht (fun q => kt ((zt_le a b).mp q) ls H locs hN hLoc hPw hSv) (fun q => kf (Classical.not_not.mp (fun q2 => q ((zt_le a b).mpr q2))) ls H locs hN hLoc hPw hSv)
set_option maxHeartbeats 400000 in
theorem s_tsw {p : Program} {l : Launch} {e : Env} {R : Room} {s : State} {m : MethodId} {args : Array Value} {below : List Frame} {meth : Method} {c0 : Code} {Qf : State → Prop} {d c : Nat} {cc : ByteArray} {n0 : Nat} {cy : Nat → ClassId} {adr adK adV : Nat → Nat} {D : va_G} {kc ks : Nat} (C : zC p s m args c0 R d c cc n0 cy adr adK adV D kc ks) : ∀ (a : Int) (d lo hi : Int) (offs : Array Int) (len : Nat) (tgt : Nat) (pc : Nat) (L : List (Option Value)) (st : List Value) (M : zM), (decode cc pc = .ok (.tableswitch d lo hi offs, len)) → ((pc : Int) + zts d lo hi offs (zw a) = (tgt : Int)) → (¬ (zw a < lo ∨ hi < zw a) → ((zw a - lo).toNat) < offs.size) → (zPP p l e R s m args below meth c0 n0 cy adr D kc ks Qf) (tgt) (L) (st) (M) → (zPP p l e R s m args below meth c0 n0 cy adr D kc ks Qf) pc L (zI a :: st) M := by
  obtain ⟨Cx, Cb, Cm, Co, Ct, CK, Ci, Cs, Cf, Cl, Ckc, Cks⟩ := C
  intro a d lo hi offs len tgt pc L st M hd ht hn kk ls H locs hN hLoc hPw hSv
  by_cases h : zw a < lo ∨ hi < zw a
  · rw [zts, if_pos h] at ht
    exact lv_tableOut Cx Cb hd h ht (kk ls H locs hN hLoc hPw hSv)
  · have hz := hn h
    rw [zts, if_neg h, Array.getElem?_eq_getElem hz] at ht
    exact lv_tableIn Cx Cb hd (fun q => h (Or.inl q)) (fun q => h (Or.inr q)) (Array.getElem?_eq_getElem hz) ht (kk ls H locs hN hLoc hPw hSv)
set_option maxHeartbeats 400000 in
theorem s_lsw {p : Program} {l : Launch} {e : Env} {R : Room} {s : State} {m : MethodId} {args : Array Value} {below : List Frame} {meth : Method} {c0 : Code} {Qf : State → Prop} {d c : Nat} {cc : ByteArray} {n0 : Nat} {cy : Nat → ClassId} {adr adK adV : Nat → Nat} {D : va_G} {kc ks : Nat} (C : zC p s m args c0 R d c cc n0 cy adr adK adV D kc ks) : ∀ (a : Int) (d : Int) (ps : Array (Int × Int)) (len : Nat) (tgt : Nat) (pc : Nat) (L : List (Option Value)) (st : List Value) (M : zM), (decode cc pc = .ok (.lookupswitch d ps, len)) → ((ps.toList.zip (ps.toList.drop 1)).all (fun (a, next) => a.1 < next.1) = true) → ((pc : Int) + Op.lookupswitch.offset ps.toList d (zw a) = (tgt : Int)) → (zPP p l e R s m args below meth c0 n0 cy adr D kc ks Qf) (tgt) (L) (st) (M) → (zPP p l e R s m args below meth c0 n0 cy adr D kc ks Qf) pc L (zI a :: st) M := by
  obtain ⟨Cx, Cb, Cm, Co, Ct, CK, Ci, Cs, Cf, Cl, Ckc, Cks⟩ := C
  intro a d ps len tgt pc L st M hd hs ht kk ls H locs hN hLoc hPw hSv
  exact lv_lookup Cx Cb hd hs rfl ht (kk ls H locs hN hLoc hPw hSv)
set_option maxHeartbeats 400000 in
theorem s_gfI {p : Program} {l : Launch} {e : Env} {R : Room} {s : State} {m : MethodId} {args : Array Value} {below : List Frame} {meth : Method} {c0 : Code} {Qf : State → Prop} {d c : Nat} {cc : ByteArray} {n0 : Nat} {cy : Nat → ClassId} {adr adK adV : Nat → Nat} {D : va_G} {kc ks : Nat} (C : zC p s m args c0 R d c cc n0 cy adr adK adV D kc ks) : ∀ (i o ci k : Nat) (pc : Nat) (L : List (Option Value)) (st : List Value) (M : zM), (decode cc pc = .ok (.getfield i, 3)) → (Cond.fieldLink (zR c) i (zT ci k).1 (zT ci k).2.1 (zT ci k).2.2.1 ∈ zTB) → (zob o ci) → (zfk ci k = 0) → (zPP p l e R s m args below meth c0 n0 cy adr D kc ks Qf) (pc + 3) (L) (zI (zg M o k) :: st) (M) → (zPP p l e R s m args below meth c0 n0 cy adr D kc ks Qf) pc L (.ref o :: st) M := by
  obtain ⟨Cx, Cb, Cm, Co, Ct, CK, Ci, Cs, Cf, Cl, Ckc, Cks⟩ := C
  intro i o ci k pc L st M hd hw ho hk kk ls H locs hN hLoc hPw hSv
  obtain ⟨q0, hq0, he⟩ := zw_obj cy adr M ho
  have hkl := zfk_lt hk (by omega)
  have hf : zfv adr M o k = .int (M.1 o k) := by simp [zfv, ho.2.2.1, hk]
  have hv := zw_fld adr M (o := o) hkl
  rw [hf] at hv
  exact va_get (C := zR ci) (T := zT ci) (N := zN ci) Cx Cb Ct (zlayi ci ho.2.2.2) Co CK hPw q0 he (zcl_at ho.2.2.2) k hkl (Ct _ hw) (fun _ h9 => h9) hv hd (W.eq (zeq (by simp [zg])) (kk ls H locs hN hLoc hPw hSv))
set_option maxHeartbeats 400000 in
theorem s_gfA {p : Program} {l : Launch} {e : Env} {R : Room} {s : State} {m : MethodId} {args : Array Value} {below : List Frame} {meth : Method} {c0 : Code} {Qf : State → Prop} {d c : Nat} {cc : ByteArray} {n0 : Nat} {cy : Nat → ClassId} {adr adK adV : Nat → Nat} {D : va_G} {kc ks : Nat} (C : zC p s m args c0 R d c cc n0 cy adr adK adV D kc ks) : ∀ (i o ci k : Nat) (pc : Nat) (L : List (Option Value)) (st : List Value) (M : zM), (decode cc pc = .ok (.getfield i, 3)) → (Cond.fieldLink (zR c) i (zT ci k).1 (zT ci k).2.1 (zT ci k).2.2.1 ∈ zTB) → (zob o ci) → (zfk ci k = 1) → (zPP p l e R s m args below meth c0 n0 cy adr D kc ks Qf) (pc + 3) (L) (.ref (o + (k + 1)) :: st) (M) → (zPP p l e R s m args below meth c0 n0 cy adr D kc ks Qf) pc L (.ref o :: st) M := by
  obtain ⟨Cx, Cb, Cm, Co, Ct, CK, Ci, Cs, Cf, Cl, Ckc, Cks⟩ := C
  intro i o ci k pc L st M hd hw ho hk kk ls H locs hN hLoc hPw hSv
  obtain ⟨q0, hq0, he⟩ := zw_obj cy adr M ho
  have hkl := zfk_lt hk (by omega)
  have hf : zfv adr M o k = .ref (adr (o + (k + 1))) := by simp [zfv, ho.2.2.1, hk]
  have hv := zw_fld adr M (o := o) hkl
  rw [hf] at hv
  exact va_get (C := zR ci) (T := zT ci) (N := zN ci) Cx Cb Ct (zlayi ci ho.2.2.2) Co CK hPw q0 he (zcl_at ho.2.2.2) k hkl (Ct _ hw) (fun _ h9 => h9) hv hd (kk ls H locs hN hLoc hPw hSv)
set_option maxHeartbeats 400000 in
theorem s_gfO {p : Program} {l : Launch} {e : Env} {R : Room} {s : State} {m : MethodId} {args : Array Value} {below : List Frame} {meth : Method} {c0 : Code} {Qf : State → Prop} {d c : Nat} {cc : ByteArray} {n0 : Nat} {cy : Nat → ClassId} {adr adK adV : Nat → Nat} {D : va_G} {kc ks : Nat} (C : zC p s m args c0 R d c cc n0 cy adr adK adV D kc ks) : ∀ (i o ci k q : Nat) (pc : Nat) (L : List (Option Value)) (st : List Value) (M : zM), (decode cc pc = .ok (.getfield i, 3)) → (Cond.fieldLink (zR c) i (zT ci k).1 (zT ci k).2.1 (zT ci k).2.2.1 ∈ zTB) → (zob o ci) → (zfk ci k = 2) → (ztg ci k = q) → (zPP p l e R s m args below meth c0 n0 cy adr D kc ks Qf) (pc + 3) (L) (.ref q :: st) (M) → (zPP p l e R s m args below meth c0 n0 cy adr D kc ks Qf) pc L (.ref o :: st) M := by
  obtain ⟨Cx, Cb, Cm, Co, Ct, CK, Ci, Cs, Cf, Cl, Ckc, Cks⟩ := C
  intro i o ci k q pc L st M hd hw ho hk hq kk ls H locs hN hLoc hPw hSv
  subst hq
  obtain ⟨q0, hq0, he⟩ := zw_obj cy adr M ho
  have hkl := zfk_lt hk (by omega)
  have hf : zfv adr M o k = .ref (adr (ztg ci k)) := by simp [zfv, ho.2.2.1, hk]
  have hv := zw_fld adr M (o := o) hkl
  rw [hf] at hv
  exact va_get (C := zR ci) (T := zT ci) (N := zN ci) Cx Cb Ct (zlayi ci ho.2.2.2) Co CK hPw q0 he (zcl_at ho.2.2.2) k hkl (Ct _ hw) (fun _ h9 => h9) hv hd (kk ls H locs hN hLoc hPw hSv)
set_option maxHeartbeats 400000 in
theorem s_pfI {p : Program} {l : Launch} {e : Env} {R : Room} {s : State} {m : MethodId} {args : Array Value} {below : List Frame} {meth : Method} {c0 : Code} {Qf : State → Prop} {d c : Nat} {cc : ByteArray} {n0 : Nat} {cy : Nat → ClassId} {adr adK adV : Nat → Nat} {D : va_G} {kc ks : Nat} (C : zC p s m args c0 R d c cc n0 cy adr adK adV D kc ks) : ∀ (i o ci k : Nat) (v : Int) (pc : Nat) (L : List (Option Value)) (st : List Value) (M : zM), (decode cc pc = .ok (.putfield i, 3)) → (Cond.fieldLink (zR c) i (zT ci k).1 (zT ci k).2.1 (zT ci k).2.2.1 ∈ zTB) → (zob o ci) → (zfk ci k = 0) → (zty ci k = .int) → ((zT ci k).2.2.2 = false) → (zPP p l e R s m args below meth c0 n0 cy adr D kc ks Qf) (pc + 3) (L) (st) (zs M o k v) → (zPP p l e R s m args below meth c0 n0 cy adr D kc ks Qf) pc L (zI v :: .ref o :: st) M := by
  obtain ⟨Cx, Cb, Cm, Co, Ct, CK, Ci, Cs, Cf, Cl, Ckc, Cks⟩ := C
  intro i o ci k v pc L st M hd hw ho hk hy hf kk ls H locs hN hLoc hPw hSv
  obtain ⟨q0, hq0, he⟩ := zw_obj cy adr M ho
  have hkl := zfk_lt hk (by omega)
  have hd0 := zty_ok ho.2.2.2 k hkl
  rw [hy] at hd0
  refine va_put (C := zR ci) (T := zT ci) (N := zN ci) (v := .int (Int32.ofInt v)) Cx Cb Ct (zlayi ci ho.2.2.2) (zty ci) (zty_ok ho.2.2.2) (znm_ok ho.2.2.2) Co CK hPw (zD cy adr Ci M) hSv q0 he (zcl_at ho.2.2.2) k hkl (Ct _ hw) (fun _ h9 => h9) hf hd0 rfl rfl (by simp [hkl]) hd (fun H1 locs1 hP1 hD1 hS1 => ?_)
  rw [zw_objs cy adr M v ho hk hq0] at hP1
  exact kk ls H1 locs1 hN hLoc hP1 hS1
set_option maxHeartbeats 400000 in
theorem s_pfZ {p : Program} {l : Launch} {e : Env} {R : Room} {s : State} {m : MethodId} {args : Array Value} {below : List Frame} {meth : Method} {c0 : Code} {Qf : State → Prop} {d c : Nat} {cc : ByteArray} {n0 : Nat} {cy : Nat → ClassId} {adr adK adV : Nat → Nat} {D : va_G} {kc ks : Nat} (C : zC p s m args c0 R d c cc n0 cy adr adK adV D kc ks) : ∀ (i o ci k : Nat) (v : Int) (pc : Nat) (L : List (Option Value)) (st : List Value) (M : zM), (decode cc pc = .ok (.putfield i, 3)) → (Cond.fieldLink (zR c) i (zT ci k).1 (zT ci k).2.1 (zT ci k).2.2.1 ∈ zTB) → (zob o ci) → (zfk ci k = 0) → (zty ci k = .boolean) → ((zT ci k).2.2.2 = false) → (v = 0 ∨ v = 1) → (zPP p l e R s m args below meth c0 n0 cy adr D kc ks Qf) (pc + 3) (L) (st) (zs M o k v) → (zPP p l e R s m args below meth c0 n0 cy adr D kc ks Qf) pc L (zI v :: .ref o :: st) M := by
  obtain ⟨Cx, Cb, Cm, Co, Ct, CK, Ci, Cs, Cf, Cl, Ckc, Cks⟩ := C
  intro i o ci k v pc L st M hd hw ho hk hy hf hv kk ls H locs hN hLoc hPw hSv
  obtain ⟨q0, hq0, he⟩ := zw_obj cy adr M ho
  have hkl := zfk_lt hk (by omega)
  have hd0 := zty_ok ho.2.2.2 k hkl
  rw [hy] at hd0
  refine va_put (C := zR ci) (T := zT ci) (N := zN ci) (v := .int (Int32.ofInt v)) Cx Cb Ct (zlayi ci ho.2.2.2) (zty ci) (zty_ok ho.2.2.2) (znm_ok ho.2.2.2) Co CK hPw (zD cy adr Ci M) hSv q0 he (zcl_at ho.2.2.2) k hkl (Ct _ hw) (fun _ h9 => h9) hf hd0 (by rcases hv with rfl | rfl <;> decide) (by rcases hv with rfl | rfl <;> decide) (by simp [hkl]) hd (fun H1 locs1 hP1 hD1 hS1 => ?_)
  rw [zw_objs cy adr M v ho hk hq0] at hP1
  exact kk ls H1 locs1 hN hLoc hP1 hS1
set_option maxHeartbeats 400000 in
theorem s_gs {p : Program} {l : Launch} {e : Env} {R : Room} {s : State} {m : MethodId} {args : Array Value} {below : List Frame} {meth : Method} {c0 : Code} {Qf : State → Prop} {d c : Nat} {cc : ByteArray} {n0 : Nat} {cy : Nat → ClassId} {adr adK adV : Nat → Nat} {D : va_G} {kc ks : Nat} (C : zC p s m args c0 R d c cc n0 cy adr adK adV D kc ks) : ∀ (i q : Nat) (pc : Nat) (L : List (Option Value)) (st : List Value) (M : zM), (decode cc pc = .ok (.getstatic i, 3)) → (Cond.fieldLink (zR c) i RX1 (zsn q) "[I" ∈ zTB) → (q = 1 ∨ q = 2) → (zPP p l e R s m args below meth c0 n0 cy adr D kc ks Qf) (pc + 3) (L) (.ref q :: st) (M) → (zPP p l e R s m args below meth c0 n0 cy adr D kc ks Qf) pc L (st) M := by
  obtain ⟨Cx, Cb, Cm, Co, Ct, CK, Ci, Cs, Cf, Cl, Ckc, Cks⟩ := C
  intro i q pc L st M hd hw hq kk ls H locs hN hLoc hPw hSv
  exact va_gets Cx Cb (Cs.1 q hq).1 hSv Co (Ct _ hw) (fun _ h9 => h9) hd (kk ls H locs hN hLoc hPw hSv)
set_option maxHeartbeats 400000 in
theorem s_iald {p : Program} {l : Launch} {e : Env} {R : Room} {s : State} {m : MethodId} {args : Array Value} {below : List Frame} {meth : Method} {c0 : Code} {Qf : State → Prop} {d c : Nat} {cc : ByteArray} {n0 : Nat} {cy : Nat → ClassId} {adr adK adV : Nat → Nat} {D : va_G} {kc ks : Nat} (C : zC p s m args c0 R d c cc n0 cy adr adK adV D kc ks) : ∀ (o n : Nat) (a a1 : Int) (pc : Nat) (L : List (Option Value)) (st : List Value) (M : zM), (decode cc pc = .ok (.iaload, 1)) → (zw a = a1) → (zar o .int n) → (0 ≤ a1) → (a1 < (n : Int)) → (zPP p l e R s m args below meth c0 n0 cy adr D kc ks Qf) (pc + 1) (L) (zI (zg M o a1.toNat) :: st) (M) → (zPP p l e R s m args below meth c0 n0 cy adr D kc ks Qf) pc L (zI a :: .ref o :: st) M := by
  obtain ⟨Cx, Cb, Cm, Co, Ct, CK, Ci, Cs, Cf, Cl, Ckc, Cks⟩ := C
  intro o n a a1 pc L st M hd ha ho h0 h1 kk ls H locs hN hLoc hPw hSv
  obtain ⟨q0, hq0, he⟩ := zw_ar cy adr M ho
  rw [zc_int cy adr M ho] at he
  obtain ⟨hin, hix⟩ := zidx ha h0 h1
  refine va_iald Cx Cb CK hPw q0 0 he rfl hin hd ?_
  rw [hix]
  exact W.eq (zeq (by simp [zg])) (kk ls H locs hN hLoc hPw hSv)
set_option maxHeartbeats 400000 in
theorem s_bald {p : Program} {l : Launch} {e : Env} {R : Room} {s : State} {m : MethodId} {args : Array Value} {below : List Frame} {meth : Method} {c0 : Code} {Qf : State → Prop} {d c : Nat} {cc : ByteArray} {n0 : Nat} {cy : Nat → ClassId} {adr adK adV : Nat → Nat} {D : va_G} {kc ks : Nat} (C : zC p s m args c0 R d c cc n0 cy adr adK adV D kc ks) : ∀ (o n : Nat) (a a1 : Int) (pc : Nat) (L : List (Option Value)) (st : List Value) (M : zM), (decode cc pc = .ok (.baload, 1)) → (zw a = a1) → (zar o .byte n) → (0 ≤ a1) → (a1 < (n : Int)) → (zPP p l e R s m args below meth c0 n0 cy adr D kc ks Qf) (pc + 1) (L) (zI (zg M o a1.toNat) :: st) (M) → (zPP p l e R s m args below meth c0 n0 cy adr D kc ks Qf) pc L (zI a :: .ref o :: st) M := by
  obtain ⟨Cx, Cb, Cm, Co, Ct, CK, Ci, Cs, Cf, Cl, Ckc, Cks⟩ := C
  intro o n a a1 pc L st M hd ha ho h0 h1 kk ls H locs hN hLoc hPw hSv
  obtain ⟨q0, hq0, he⟩ := zw_ar cy adr M ho
  rw [zc_byte cy adr M ho] at he
  obtain ⟨hin, hix⟩ := zidx ha h0 h1
  refine va_bald Cx Cb CK hPw q0 1 he rfl hin hd ?_
  rw [hix]
  exact W.eq (zeq (by simp [zg])) (kk ls H locs hN hLoc hPw hSv)
set_option maxHeartbeats 400000 in
theorem s_zald {p : Program} {l : Launch} {e : Env} {R : Room} {s : State} {m : MethodId} {args : Array Value} {below : List Frame} {meth : Method} {c0 : Code} {Qf : State → Prop} {d c : Nat} {cc : ByteArray} {n0 : Nat} {cy : Nat → ClassId} {adr adK adV : Nat → Nat} {D : va_G} {kc ks : Nat} (C : zC p s m args c0 R d c cc n0 cy adr adK adV D kc ks) : ∀ (o n : Nat) (a a1 : Int) (pc : Nat) (L : List (Option Value)) (st : List Value) (M : zM), (decode cc pc = .ok (.baload, 1)) → (zw a = a1) → (zar o .boolean n) → (0 ≤ a1) → (a1 < (n : Int)) → (zPP p l e R s m args below meth c0 n0 cy adr D kc ks Qf) (pc + 1) (L) (zI (zg M o a1.toNat) :: st) (M) → (zPP p l e R s m args below meth c0 n0 cy adr D kc ks Qf) pc L (zI a :: .ref o :: st) M := by
  obtain ⟨Cx, Cb, Cm, Co, Ct, CK, Ci, Cs, Cf, Cl, Ckc, Cks⟩ := C
  intro o n a a1 pc L st M hd ha ho h0 h1 kk ls H locs hN hLoc hPw hSv
  obtain ⟨q0, hq0, he⟩ := zw_ar cy adr M ho
  rw [zc_bool cy adr M ho] at he
  obtain ⟨hin, hix⟩ := zidx ha h0 h1
  refine va_zald Cx Cb CK hPw q0 3 he rfl hin hd ?_
  rw [hix]
  exact W.eq (zeq (by simp [zg])) (kk ls H locs hN hLoc hPw hSv)
set_option maxHeartbeats 400000 in
theorem s_sald {p : Program} {l : Launch} {e : Env} {R : Room} {s : State} {m : MethodId} {args : Array Value} {below : List Frame} {meth : Method} {c0 : Code} {Qf : State → Prop} {d c : Nat} {cc : ByteArray} {n0 : Nat} {cy : Nat → ClassId} {adr adK adV : Nat → Nat} {D : va_G} {kc ks : Nat} (C : zC p s m args c0 R d c cc n0 cy adr adK adV D kc ks) : ∀ (o n : Nat) (a a1 : Int) (pc : Nat) (L : List (Option Value)) (st : List Value) (M : zM), (decode cc pc = .ok (.saload, 1)) → (zw a = a1) → (zar o .short n) → (0 ≤ a1) → (a1 < (n : Int)) → (zPP p l e R s m args below meth c0 n0 cy adr D kc ks Qf) (pc + 1) (L) (zI (zg M o a1.toNat) :: st) (M) → (zPP p l e R s m args below meth c0 n0 cy adr D kc ks Qf) pc L (zI a :: .ref o :: st) M := by
  obtain ⟨Cx, Cb, Cm, Co, Ct, CK, Ci, Cs, Cf, Cl, Ckc, Cks⟩ := C
  intro o n a a1 pc L st M hd ha ho h0 h1 kk ls H locs hN hLoc hPw hSv
  obtain ⟨q0, hq0, he⟩ := zw_ar cy adr M ho
  rw [zc_short cy adr M ho] at he
  obtain ⟨hin, hix⟩ := zidx ha h0 h1
  refine va_sald Cx Cb CK hPw q0 2 he rfl hin hd ?_
  rw [hix]
  exact W.eq (zeq (by simp [zg])) (kk ls H locs hN hLoc hPw hSv)
set_option maxHeartbeats 400000 in
theorem s_lald {p : Program} {l : Launch} {e : Env} {R : Room} {s : State} {m : MethodId} {args : Array Value} {below : List Frame} {meth : Method} {c0 : Code} {Qf : State → Prop} {d c : Nat} {cc : ByteArray} {n0 : Nat} {cy : Nat → ClassId} {adr adK adV : Nat → Nat} {D : va_G} {kc ks : Nat} (C : zC p s m args c0 R d c cc n0 cy adr adK adV D kc ks) : ∀ (o n : Nat) (a a1 : Int) (pc : Nat) (L : List (Option Value)) (st : List Value) (M : zM), (decode cc pc = .ok (.laload, 1)) → (zw a = a1) → (zar o .long n) → (0 ≤ a1) → (a1 < (n : Int)) → (zPP p l e R s m args below meth c0 n0 cy adr D kc ks Qf) (pc + 1) (L) (zJ (zh M o a1.toNat) :: st) (M) → (zPP p l e R s m args below meth c0 n0 cy adr D kc ks Qf) pc L (zI a :: .ref o :: st) M := by
  obtain ⟨Cx, Cb, Cm, Co, Ct, CK, Ci, Cs, Cf, Cl, Ckc, Cks⟩ := C
  intro o n a a1 pc L st M hd ha ho h0 h1 kk ls H locs hN hLoc hPw hSv
  obtain ⟨q0, hq0, he⟩ := zw_ar cy adr M ho
  rw [zc_long cy adr M ho] at he
  obtain ⟨hin, hix⟩ := zidx ha h0 h1
  refine va_lald Cx Cb CK hPw q0 4 he rfl hin hd ?_
  rw [hix]
  exact W.eq (zeqL (by simp [zh])) (kk ls H locs hN hLoc hPw hSv)
set_option maxHeartbeats 400000 in
theorem s_aald {p : Program} {l : Launch} {e : Env} {R : Room} {s : State} {m : MethodId} {args : Array Value} {below : List Frame} {meth : Method} {c0 : Code} {Qf : State → Prop} {d c : Nat} {cc : ByteArray} {n0 : Nat} {cy : Nat → ClassId} {adr adK adV : Nat → Nat} {D : va_G} {kc ks : Nat} (C : zC p s m args c0 R d c cc n0 cy adr adK adV D kc ks) : ∀ (o n : Nat) (a a1 : Int) (pc : Nat) (L : List (Option Value)) (st : List Value) (M : zM), (decode cc pc = .ok (.aaload, 1)) → (zw a = a1) → (zar o (.object RX6) n) → (0 ≤ a1) → (a1 < (n : Int)) → (zPP p l e R s m args below meth c0 n0 cy adr D kc ks Qf) (pc + 1) (L) (.ref (640 + 64 * a1.toNat) :: st) (M) → (zPP p l e R s m args below meth c0 n0 cy adr D kc ks Qf) pc L (zI a :: .ref o :: st) M := by
  obtain ⟨Cx, Cb, Cm, Co, Ct, CK, Ci, Cs, Cf, Cl, Ckc, Cks⟩ := C
  intro o n a a1 pc L st M hd ha ho h0 h1 kk ls H locs hN hLoc hPw hSv
  obtain ⟨q0, hq0, he⟩ := zw_ar cy adr M ho
  rw [zc_obj cy adr M ho] at he
  obtain ⟨hin, hix⟩ := zidx ha h0 h1
  refine va_aldq Cx Cb CK hPw q0 5 he rfl hin hd ?_
  rw [hix]
  exact kk ls H locs hN hLoc hPw hSv
set_option maxHeartbeats 400000 in
theorem s_stld {p : Program} {l : Launch} {e : Env} {R : Room} {s : State} {m : MethodId} {args : Array Value} {below : List Frame} {meth : Method} {c0 : Code} {Qf : State → Prop} {d c : Nat} {cc : ByteArray} {n0 : Nat} {cy : Nat → ClassId} {adr adK adV : Nat → Nat} {D : va_G} {kc ks : Nat} (C : zC p s m args c0 R d c cc n0 cy adr adK adV D kc ks) : ∀ (q : Nat) (a a1 : Int) (pc : Nat) (L : List (Option Value)) (st : List Value) (M : zM), (decode cc pc = .ok (.iaload, 1)) → (zw a = a1) → (q = 1 ∨ q = 2) → (0 ≤ a1) → (a1 < (zsl q : Int)) → (zPP p l e R s m args below meth c0 n0 cy adr D kc ks Qf) (pc + 1) (L) (zI (zsv q a1.toNat) :: st) (M) → (zPP p l e R s m args below meth c0 n0 cy adr D kc ks Qf) pc L (zI a :: .ref q :: st) M := by
  obtain ⟨Cx, Cb, Cm, Co, Ct, CK, Ci, Cs, Cf, Cl, Ckc, Cks⟩ := C
  intro q a a1 pc L st M hd ha hq h0 h1 kk ls H locs hN hLoc hPw hSv
  obtain ⟨hin, hix⟩ := zidx ha h0 h1
  exact va_ti Cx Cb (Cs.1 q hq).2 hSv hin (v := zI (zsv q a1.toNat)) (by rw [hix]) hd (kk ls H locs hN hLoc hPw hSv)
set_option maxHeartbeats 400000 in
theorem s_alen {p : Program} {l : Launch} {e : Env} {R : Room} {s : State} {m : MethodId} {args : Array Value} {below : List Frame} {meth : Method} {c0 : Code} {Qf : State → Prop} {d c : Nat} {cc : ByteArray} {n0 : Nat} {cy : Nat → ClassId} {adr adK adV : Nat → Nat} {D : va_G} {kc ks : Nat} (C : zC p s m args c0 R d c cc n0 cy adr adK adV D kc ks) : ∀ (o n : Nat) (ty : FieldType) (pc : Nat) (L : List (Option Value)) (st : List Value) (M : zM), (decode cc pc = .ok (.arraylength, 1)) → (zar o ty n) → (ty = .int ∨ ty = .long) → (zPP p l e R s m args below meth c0 n0 cy adr D kc ks Qf) (pc + 1) (L) (zI (n : Int) :: st) (M) → (zPP p l e R s m args below meth c0 n0 cy adr D kc ks Qf) pc L (.ref o :: st) M := by
  obtain ⟨Cx, Cb, Cm, Co, Ct, CK, Ci, Cs, Cf, Cl, Ckc, Cks⟩ := C
  intro o n ty pc L st M hd ho hy kk ls H locs hN hLoc hPw hSv
  obtain ⟨q0, hq0, he⟩ := zw_ar cy adr M ho
  rcases hy with rfl | rfl
  · rw [zc_int cy adr M ho] at he
    exact va_alen Cx Cb CK hPw q0 0 he rfl (v := Int32.ofInt (n : Int)) (zofn n) hd (kk ls H locs hN hLoc hPw hSv)
  · rw [zc_long cy adr M ho] at he
    exact va_alen Cx Cb CK hPw q0 4 he rfl (v := Int32.ofInt (n : Int)) (zofn n) hd (kk ls H locs hN hLoc hPw hSv)
set_option maxHeartbeats 400000 in
theorem s_iast {p : Program} {l : Launch} {e : Env} {R : Room} {s : State} {m : MethodId} {args : Array Value} {below : List Frame} {meth : Method} {c0 : Code} {Qf : State → Prop} {d c : Nat} {cc : ByteArray} {n0 : Nat} {cy : Nat → ClassId} {adr adK adV : Nat → Nat} {D : va_G} {kc ks : Nat} (C : zC p s m args c0 R d c cc n0 cy adr adK adV D kc ks) : ∀ (o n : Nat) (a a1 v : Int) (pc : Nat) (L : List (Option Value)) (st : List Value) (M : zM), (decode cc pc = .ok (.iastore, 1)) → (zw a = a1) → (zar o .int n) → (0 ≤ a1) → (a1 < (n : Int)) → (zPP p l e R s m args below meth c0 n0 cy adr D kc ks Qf) (pc + 1) (L) (st) (zs M o a1.toNat v) → (zPP p l e R s m args below meth c0 n0 cy adr D kc ks Qf) pc L (zI v :: zI a :: .ref o :: st) M := by
  obtain ⟨Cx, Cb, Cm, Co, Ct, CK, Ci, Cs, Cf, Cl, Ckc, Cks⟩ := C
  intro o n a a1 v pc L st M hd ha ho h0 h1 kk ls H locs hN hLoc hPw hSv
  obtain ⟨q0, hq0, he⟩ := zw_ar cy adr M ho
  rw [zc_int cy adr M ho] at he
  obtain ⟨hin, hix⟩ := zidx ha h0 h1
  refine va_iast Cx Cb CK hPw (zD cy adr Ci M) hSv q0 0 he rfl hin hd (fun H1 locs1 hP1 hD1 hS1 => ?_)
  rw [hix] at hP1
  have e2 := zsetA (M := M) (M2 := zs M o a1.toNat v) (cy := cy) (adr := adr) hq0 (zc_int cy adr _ ho) (zs_ne M o _ _) (fun _ _ => rfl)
  rw [zs_1] at e2
  rw [e2] at hP1
  exact kk ls H1 locs1 hN hLoc hP1 hS1
set_option maxHeartbeats 400000 in
theorem s_bast {p : Program} {l : Launch} {e : Env} {R : Room} {s : State} {m : MethodId} {args : Array Value} {below : List Frame} {meth : Method} {c0 : Code} {Qf : State → Prop} {d c : Nat} {cc : ByteArray} {n0 : Nat} {cy : Nat → ClassId} {adr adK adV : Nat → Nat} {D : va_G} {kc ks : Nat} (C : zC p s m args c0 R d c cc n0 cy adr adK adV D kc ks) : ∀ (o n : Nat) (a a1 v : Int) (pc : Nat) (L : List (Option Value)) (st : List Value) (M : zM), (decode cc pc = .ok (.bastore, 1)) → (zw a = a1) → (zar o .byte n) → (0 ≤ a1) → (a1 < (n : Int)) → (zPP p l e R s m args below meth c0 n0 cy adr D kc ks Qf) (pc + 1) (L) (st) (zs M o a1.toNat (z_b v)) → (zPP p l e R s m args below meth c0 n0 cy adr D kc ks Qf) pc L (zI v :: zI a :: .ref o :: st) M := by
  obtain ⟨Cx, Cb, Cm, Co, Ct, CK, Ci, Cs, Cf, Cl, Ckc, Cks⟩ := C
  intro o n a a1 v pc L st M hd ha ho h0 h1 kk ls H locs hN hLoc hPw hSv
  obtain ⟨q0, hq0, he⟩ := zw_ar cy adr M ho
  rw [zc_byte cy adr M ho] at he
  obtain ⟨hin, hix⟩ := zidx ha h0 h1
  refine va_bast Cx Cb CK hPw (zD cy adr Ci M) hSv q0 1 he rfl hin hd (fun H1 locs1 hP1 hD1 hS1 => ?_)
  rw [hix] at hP1
  have e2 := zsetA (M := M) (M2 := zs M o a1.toNat (z_b v)) (cy := cy) (adr := adr) hq0 (zc_byte cy adr _ ho) (zs_ne M o _ _) (fun _ _ => rfl)
  rw [zs_1] at e2
  rw [show Int32.ofInt (z_b v) = vp_nar .byte (Int32.ofInt v) by rw [vp_nar_byte]; exact Int32.ofInt_toInt _] at e2
  rw [e2] at hP1
  exact kk ls H1 locs1 hN hLoc hP1 hS1
set_option maxHeartbeats 400000 in
theorem s_zast {p : Program} {l : Launch} {e : Env} {R : Room} {s : State} {m : MethodId} {args : Array Value} {below : List Frame} {meth : Method} {c0 : Code} {Qf : State → Prop} {d c : Nat} {cc : ByteArray} {n0 : Nat} {cy : Nat → ClassId} {adr adK adV : Nat → Nat} {D : va_G} {kc ks : Nat} (C : zC p s m args c0 R d c cc n0 cy adr adK adV D kc ks) : ∀ (o n : Nat) (a a1 v : Int) (pc : Nat) (L : List (Option Value)) (st : List Value) (M : zM), (decode cc pc = .ok (.bastore, 1)) → (zw a = a1) → (zar o .boolean n) → (0 ≤ a1) → (a1 < (n : Int)) → (zPP p l e R s m args below meth c0 n0 cy adr D kc ks Qf) (pc + 1) (L) (st) (zs M o a1.toNat (z_z v)) → (zPP p l e R s m args below meth c0 n0 cy adr D kc ks Qf) pc L (zI v :: zI a :: .ref o :: st) M := by
  obtain ⟨Cx, Cb, Cm, Co, Ct, CK, Ci, Cs, Cf, Cl, Ckc, Cks⟩ := C
  intro o n a a1 v pc L st M hd ha ho h0 h1 kk ls H locs hN hLoc hPw hSv
  obtain ⟨q0, hq0, he⟩ := zw_ar cy adr M ho
  rw [zc_bool cy adr M ho] at he
  obtain ⟨hin, hix⟩ := zidx ha h0 h1
  refine va_zast Cx Cb CK hPw (zD cy adr Ci M) hSv q0 3 he rfl hin hd (fun H1 locs1 hP1 hD1 hS1 => ?_)
  rw [hix] at hP1
  have e2 := zsetA (M := M) (M2 := zs M o a1.toNat (z_z v)) (cy := cy) (adr := adr) hq0 (zc_bool cy adr _ ho) (zs_ne M o _ _) (fun _ _ => rfl)
  rw [zs_1] at e2
  rw [show Int32.ofInt (z_z v) = vp_nar .boolean (Int32.ofInt v) from Int32.ofInt_toInt _] at e2
  rw [e2] at hP1
  exact kk ls H1 locs1 hN hLoc hP1 hS1
set_option maxHeartbeats 400000 in
theorem s_sast {p : Program} {l : Launch} {e : Env} {R : Room} {s : State} {m : MethodId} {args : Array Value} {below : List Frame} {meth : Method} {c0 : Code} {Qf : State → Prop} {d c : Nat} {cc : ByteArray} {n0 : Nat} {cy : Nat → ClassId} {adr adK adV : Nat → Nat} {D : va_G} {kc ks : Nat} (C : zC p s m args c0 R d c cc n0 cy adr adK adV D kc ks) : ∀ (o n : Nat) (a a1 v : Int) (pc : Nat) (L : List (Option Value)) (st : List Value) (M : zM), (decode cc pc = .ok (.sastore, 1)) → (zw a = a1) → (zar o .short n) → (0 ≤ a1) → (a1 < (n : Int)) → (zPP p l e R s m args below meth c0 n0 cy adr D kc ks Qf) (pc + 1) (L) (st) (zs M o a1.toNat (z_s v)) → (zPP p l e R s m args below meth c0 n0 cy adr D kc ks Qf) pc L (zI v :: zI a :: .ref o :: st) M := by
  obtain ⟨Cx, Cb, Cm, Co, Ct, CK, Ci, Cs, Cf, Cl, Ckc, Cks⟩ := C
  intro o n a a1 v pc L st M hd ha ho h0 h1 kk ls H locs hN hLoc hPw hSv
  obtain ⟨q0, hq0, he⟩ := zw_ar cy adr M ho
  rw [zc_short cy adr M ho] at he
  obtain ⟨hin, hix⟩ := zidx ha h0 h1
  refine va_sast Cx Cb CK hPw (zD cy adr Ci M) hSv q0 2 he rfl hin hd (fun H1 locs1 hP1 hD1 hS1 => ?_)
  rw [hix] at hP1
  have e2 := zsetA (M := M) (M2 := zs M o a1.toNat (z_s v)) (cy := cy) (adr := adr) hq0 (zc_short cy adr _ ho) (zs_ne M o _ _) (fun _ _ => rfl)
  rw [zs_1] at e2
  rw [show Int32.ofInt (z_s v) = vp_nar .short (Int32.ofInt v) by rw [vp_nar_short]; exact Int32.ofInt_toInt _] at e2
  rw [e2] at hP1
  exact kk ls H1 locs1 hN hLoc hP1 hS1
set_option maxHeartbeats 400000 in
theorem s_last {p : Program} {l : Launch} {e : Env} {R : Room} {s : State} {m : MethodId} {args : Array Value} {below : List Frame} {meth : Method} {c0 : Code} {Qf : State → Prop} {d c : Nat} {cc : ByteArray} {n0 : Nat} {cy : Nat → ClassId} {adr adK adV : Nat → Nat} {D : va_G} {kc ks : Nat} (C : zC p s m args c0 R d c cc n0 cy adr adK adV D kc ks) : ∀ (o n : Nat) (a a1 v : Int) (pc : Nat) (L : List (Option Value)) (st : List Value) (M : zM), (decode cc pc = .ok (.lastore, 1)) → (zw a = a1) → (zar o .long n) → (0 ≤ a1) → (a1 < (n : Int)) → (zPP p l e R s m args below meth c0 n0 cy adr D kc ks Qf) (pc + 1) (L) (st) (zt M o a1.toNat v) → (zPP p l e R s m args below meth c0 n0 cy adr D kc ks Qf) pc L (zJ v :: zI a :: .ref o :: st) M := by
  obtain ⟨Cx, Cb, Cm, Co, Ct, CK, Ci, Cs, Cf, Cl, Ckc, Cks⟩ := C
  intro o n a a1 v pc L st M hd ha ho h0 h1 kk ls H locs hN hLoc hPw hSv
  obtain ⟨q0, hq0, he⟩ := zw_ar cy adr M ho
  rw [zc_long cy adr M ho] at he
  obtain ⟨hin, hix⟩ := zidx ha h0 h1
  refine va_last Cx Cb CK hPw (zD cy adr Ci M) hSv q0 4 he rfl hin hd (fun H1 locs1 hP1 hD1 hS1 => ?_)
  rw [hix] at hP1
  have e2 := zsetA (M := M) (M2 := zt M o a1.toNat v) (cy := cy) (adr := adr) hq0 (zc_long cy adr _ ho) (fun _ _ => rfl) (zt_ne M o _ _)
  rw [zt_1] at e2
  rw [e2] at hP1
  exact kk ls H1 locs1 hN hLoc hP1 hS1
set_option maxHeartbeats 400000 in
theorem s_cpyi {p : Program} {l : Launch} {e : Env} {R : Room} {s : State} {m : MethodId} {args : Array Value} {below : List Frame} {meth : Method} {c0 : Code} {Qf : State → Prop} {d c : Nat} {cc : ByteArray} {n0 : Nat} {cy : Nat → ClassId} {adr adK adV : Nat → Nat} {D : va_G} {kc ks : Nat} (C : zC p s m args c0 R d c cc n0 cy adr adK adV D kc ks) : ∀ (i o q na nb : Nat) (x x1 y y1 n n1 : Int) (pc : Nat) (L : List (Option Value)) (st : List Value) (M : zM), (decode cc pc = .ok (.invokestatic i, 3)) → (zar o .int na) → (zar q .int nb) → (Cond.methodLink (zR c) i arraycopyName ∈ zTB) → (zw x = x1) → (zw y = y1) → (zw n = n1) → (0 ≤ x1) → (0 ≤ y1) → (0 ≤ n1) → (x1 + n1 ≤ (na : Int)) → (y1 + n1 ≤ (nb : Int)) → ((st.map fun v => v.category).sum ≤ 8) → (zPP p l e R s m args below meth c0 n0 cy adr D kc ks Qf) (pc + 3) (L) (st) (zci M o q x1.toNat y1.toNat n1.toNat) → (zPP p l e R s m args below meth c0 n0 cy adr D kc ks Qf) pc L (zI n :: zI y :: .ref q :: zI x :: .ref o :: st) M := by
  obtain ⟨Cx, Cb, Cm, Co, Ct, CK, Ci, Cs, Cf, Cl, Ckc, Cks⟩ := C
  intro i o q na nb x x1 y y1 n n1 pc L st M hd ho hq hw hx hy hn h0 h1 h2 h3 h4 hc kk ls H locs hN hLoc hPw hSv
  obtain ⟨q0, hq0, he0⟩ := zw_ar cy adr M ho
  obtain ⟨q1, hq1, he1⟩ := zw_ar cy adr M hq
  rw [zc_int cy adr M ho] at he0
  rw [zc_int cy adr M hq] at he1
  subst hx; subst hy; subst hn
  have ncl : ∀ z : Int, (Int32.ofInt z).toNatClampNeg = (zw z).toNat := fun z => rfl
  have hcat : ((st.map (zcv adr)).map fun v => v.category).sum ≤ 8 := by rw [List.map_map]; have : (fun v : Value => v.category) ∘ zcv adr = fun v => v.category := by funext v; exact zcat adr v
                                                                         rw [this]; exact hc
  have hfr : 1 ≤ R.frames := by omega
  have hnf : nativeFrameWords "java/lang/System" "arraycopy" 5 = 7 := by decide
  have hlo : ((st.map (zcv adr)).map fun v => v.category).sum + (nativeFrameWords "java/lang/System" "arraycopy" 5 + 11) ≤ R.locals := by rw [hnf]; omega
  refine va_copyi Cx Cb (by rw [Cm]; exact hLoc.1.symm) Co (Ct _ hw) (Ct _ zcp_nat) (Ct _ zcp_sta) (Ct _ zcp_ini) CK hPw (zD cy adr Ci M) hSv q0 q1 0 0 he0 he1 rfl rfl rfl (fun q => by have := (zt_l0 x).mp q; omega) (fun q => by have := (zt_l0 y).mp q; omega) (fun q => by have := (zt_l0 n).mp q; omega) (by rw [ncl, ncl]; omega) (by rw [ncl, ncl]; omega) (fun _ _ => rfl) hfr hlo hd (fun H1 locs1 hP1 hD1 hS1 => ?_)
  rw [ncl, ncl, ncl] at hP1
  have e2 := zsetA (M := M) (M2 := zci M o q (zw x).toNat (zw y).toNat (zw n).toNat) (cy := cy) (adr := adr) hq1 (zc_int cy adr _ hq) (fun i hi => by simp [zci, hi]) (fun _ _ => rfl)
  have e3 : (zci M o q (zw x).toNat (zw y).toNat (zw n).toNat).1 q = va_cpy (M.1 o) (M.1 q) (zw x).toNat (zw y).toNat (zw n).toNat := by simp [zci]
  rw [e3] at e2
  rw [e2] at hP1
  exact kk ls H1 locs1 hN hLoc hP1 hS1
set_option maxHeartbeats 400000 in
theorem s_cpyl {p : Program} {l : Launch} {e : Env} {R : Room} {s : State} {m : MethodId} {args : Array Value} {below : List Frame} {meth : Method} {c0 : Code} {Qf : State → Prop} {d c : Nat} {cc : ByteArray} {n0 : Nat} {cy : Nat → ClassId} {adr adK adV : Nat → Nat} {D : va_G} {kc ks : Nat} (C : zC p s m args c0 R d c cc n0 cy adr adK adV D kc ks) : ∀ (i o q na nb : Nat) (x x1 y y1 n n1 : Int) (pc : Nat) (L : List (Option Value)) (st : List Value) (M : zM), (decode cc pc = .ok (.invokestatic i, 3)) → (zar o .long na) → (zar q .long nb) → (Cond.methodLink (zR c) i arraycopyName ∈ zTB) → (zw x = x1) → (zw y = y1) → (zw n = n1) → (0 ≤ x1) → (0 ≤ y1) → (0 ≤ n1) → (x1 + n1 ≤ (na : Int)) → (y1 + n1 ≤ (nb : Int)) → ((st.map fun v => v.category).sum ≤ 8) → (zPP p l e R s m args below meth c0 n0 cy adr D kc ks Qf) (pc + 3) (L) (st) (zcl M o q x1.toNat y1.toNat n1.toNat) → (zPP p l e R s m args below meth c0 n0 cy adr D kc ks Qf) pc L (zI n :: zI y :: .ref q :: zI x :: .ref o :: st) M := by
  obtain ⟨Cx, Cb, Cm, Co, Ct, CK, Ci, Cs, Cf, Cl, Ckc, Cks⟩ := C
  intro i o q na nb x x1 y y1 n n1 pc L st M hd ho hq hw hx hy hn h0 h1 h2 h3 h4 hc kk ls H locs hN hLoc hPw hSv
  obtain ⟨q0, hq0, he0⟩ := zw_ar cy adr M ho
  obtain ⟨q1, hq1, he1⟩ := zw_ar cy adr M hq
  rw [zc_long cy adr M ho] at he0
  rw [zc_long cy adr M hq] at he1
  subst hx; subst hy; subst hn
  have ncl : ∀ z : Int, (Int32.ofInt z).toNatClampNeg = (zw z).toNat := fun z => rfl
  have hcat : ((st.map (zcv adr)).map fun v => v.category).sum ≤ 8 := by rw [List.map_map]; have : (fun v : Value => v.category) ∘ zcv adr = fun v => v.category := by funext v; exact zcat adr v
                                                                         rw [this]; exact hc
  have hfr : 1 ≤ R.frames := by omega
  have hnf : nativeFrameWords "java/lang/System" "arraycopy" 5 = 7 := by decide
  have hlo : ((st.map (zcv adr)).map fun v => v.category).sum + (nativeFrameWords "java/lang/System" "arraycopy" 5 + 11) ≤ R.locals := by rw [hnf]; omega
  refine va_copyl Cx Cb (by rw [Cm]; exact hLoc.1.symm) Co (Ct _ hw) (Ct _ zcp_nat) (Ct _ zcp_sta) (Ct _ zcp_ini) CK hPw (zD cy adr Ci M) hSv q0 q1 4 4 he0 he1 rfl rfl rfl (fun q => by have := (zt_l0 x).mp q; omega) (fun q => by have := (zt_l0 y).mp q; omega) (fun q => by have := (zt_l0 n).mp q; omega) (by rw [ncl, ncl]; omega) (by rw [ncl, ncl]; omega) (fun _ _ => rfl) hfr hlo hd (fun H1 locs1 hP1 hD1 hS1 => ?_)
  rw [ncl, ncl, ncl] at hP1
  have e2 := zsetA (M := M) (M2 := zcl M o q (zw x).toNat (zw y).toNat (zw n).toNat) (cy := cy) (adr := adr) hq1 (zc_long cy adr _ hq) (fun _ _ => rfl) (fun i hi => by simp [zcl, hi])
  have e3 : (zcl M o q (zw x).toNat (zw y).toNat (zw n).toNat).2 q = va_cpy (M.2 o) (M.2 q) (zw x).toNat (zw y).toNat (zw n).toNat := by simp [zcl]
  rw [e3] at e2
  rw [e2] at hP1
  exact kk ls H1 locs1 hN hLoc hP1 hS1
set_option maxHeartbeats 400000 in
theorem s_mmax {p : Program} {l : Launch} {e : Env} {R : Room} {s : State} {m : MethodId} {args : Array Value} {below : List Frame} {meth : Method} {c0 : Code} {Qf : State → Prop} {d c : Nat} {cc : ByteArray} {n0 : Nat} {cy : Nat → ClassId} {adr adK adV : Nat → Nat} {D : va_G} {kc ks : Nat} (C : zC p s m args c0 R d c cc n0 cy adr adK adV D kc ks) : ∀ (i : Nat) (a b : Int) (pc : Nat) (L : List (Option Value)) (st : List Value) (M : zM), (decode cc pc = .ok (.invokestatic i, 3)) → (Cond.methodLink (zR c) i yJ9_max_7cf53 ∈ zTB) → ((st.map fun v => v.category).sum ≤ 8) → (zPP p l e R s m args below meth c0 n0 cy adr D kc ks Qf) (pc + 3) (L) (zI (if zw a < zw b then b else a) :: st) (M) → (zPP p l e R s m args below meth c0 n0 cy adr D kc ks Qf) pc L (zI b :: zI a :: st) M := by
  obtain ⟨Cx, Cb, Cm, Co, Ct, CK, Ci, Cs, Cf, Cl, Ckc, Cks⟩ := C
  intro i a b pc L st M hd hw hc kk ls H locs hN hLoc hPw hSv
  have hcat : ((st.map (zcv adr)).map fun v => v.category).sum ≤ 8 := by rw [zcats]; exact hc
  refine va_mmax Cx Cb (by rw [Cm]; exact hLoc.1.symm) Co (Ct _ hw) (Ct _ zmm_max.2) (Ct _ zmm_ini) (Ct _ zmm_max.1) (by omega) (by omega) Ckc Cks hd ?_
  refine W.eq (zeq ?_) (kk ls H locs hN hLoc hPw hSv)
  split
  · next h => rw [if_pos ((zt_lt a b).mp h)]
  · next h => rw [if_neg (fun q => h ((zt_lt a b).mpr q))]
set_option maxHeartbeats 400000 in
theorem s_mmin {p : Program} {l : Launch} {e : Env} {R : Room} {s : State} {m : MethodId} {args : Array Value} {below : List Frame} {meth : Method} {c0 : Code} {Qf : State → Prop} {d c : Nat} {cc : ByteArray} {n0 : Nat} {cy : Nat → ClassId} {adr adK adV : Nat → Nat} {D : va_G} {kc ks : Nat} (C : zC p s m args c0 R d c cc n0 cy adr adK adV D kc ks) : ∀ (i : Nat) (a b : Int) (pc : Nat) (L : List (Option Value)) (st : List Value) (M : zM), (decode cc pc = .ok (.invokestatic i, 3)) → (Cond.methodLink (zR c) i yJ9_min_7cf53 ∈ zTB) → ((st.map fun v => v.category).sum ≤ 8) → (zPP p l e R s m args below meth c0 n0 cy adr D kc ks Qf) (pc + 3) (L) (zI (if zw b < zw a then b else a) :: st) (M) → (zPP p l e R s m args below meth c0 n0 cy adr D kc ks Qf) pc L (zI b :: zI a :: st) M := by
  obtain ⟨Cx, Cb, Cm, Co, Ct, CK, Ci, Cs, Cf, Cl, Ckc, Cks⟩ := C
  intro i a b pc L st M hd hw hc kk ls H locs hN hLoc hPw hSv
  have hcat : ((st.map (zcv adr)).map fun v => v.category).sum ≤ 8 := by rw [zcats]; exact hc
  refine va_mmin Cx Cb (by rw [Cm]; exact hLoc.1.symm) Co (Ct _ hw) (Ct _ zmm_min.2) (Ct _ zmm_ini) (Ct _ zmm_min.1) (by omega) (by omega) Ckc Cks hd ?_
  refine W.eq (zeq ?_) (kk ls H locs hN hLoc hPw hSv)
  split
  · next h => rw [if_pos ((zt_lt b a).mp h)]
  · next h => rw [if_neg (fun q => h ((zt_lt b a).mpr q))]
set_option maxHeartbeats 400000 in
theorem s_fgt {p : Program} {l : Launch} {e : Env} {R : Room} {s : State} {m : MethodId} {args : Array Value} {below : List Frame} {meth : Method} {c0 : Code} {Qf : State → Prop} {d c : Nat} {cc : ByteArray} {n0 : Nat} {cy : Nat → ClassId} {adr adK adV : Nat → Nat} {D : va_G} {kc ks : Nat} (C : zC p s m args c0 R d c cc n0 cy adr adK adV D kc ks) : ∀ (L2 : List (Option Value)) (pc : Nat) (L : List (Option Value)) (st : List Value) (M : zM), (zfg L L2) → (zPP p l e R s m args below meth c0 n0 cy adr D kc ks Qf) (pc) (L2) (st) (M) → (zPP p l e R s m args below meth c0 n0 cy adr D kc ks Qf) pc L (st) M := by
  obtain ⟨Cx, Cb, Cm, Co, Ct, CK, Ci, Cs, Cf, Cl, Ckc, Cks⟩ := C
  intro L2 pc L st M hg kk ls H locs hN hLoc hPw hSv
  exact kk ls H locs ((zfg_get hg).1.trans hN) (zl_fgt hg hLoc) hPw hSv
theorem sq_0 {p : Program} {l : Launch} {e : Env} {R : Room} {s : State} {m : MethodId} {args : Array Value} {below : List Frame} {meth : Method} {c0 : Code} {Qf : State → Prop} {d c : Nat} {cc : ByteArray} {n0 : Nat} {cy : Nat → ClassId} {adr adK adV : Nat → Nat} {D : va_G} {kc ks : Nat} (C : zC p s m args c0 R d c cc n0 cy adr adK adV D kc ks) : zQ0 c cc (zPP p l e R s m args below meth c0 n0 cy adr D kc ks Qf) := ⟨s_iconst C, s_bipush C, s_sipush C, s_ldc C, s_ldcw C, s_ldc2 C, s_lconst C, s_iload_n C, s_iload C, s_istore_n C, s_istore C, s_lload_n C⟩
theorem sq_1 {p : Program} {l : Launch} {e : Env} {R : Room} {s : State} {m : MethodId} {args : Array Value} {below : List Frame} {meth : Method} {c0 : Code} {Qf : State → Prop} {d c : Nat} {cc : ByteArray} {n0 : Nat} {cy : Nat → ClassId} {adr adK adV : Nat → Nat} {D : va_G} {kc ks : Nat} (C : zC p s m args c0 R d c cc n0 cy adr adK adV D kc ks) : zQ1 c cc (zPP p l e R s m args below meth c0 n0 cy adr D kc ks Qf) := ⟨s_lload C, s_aload_n C, s_aload C, s_astore_n C, s_astore C, s_lstore C, s_iinc C, s_dup C, s_dup_x1 C, s_dup_x2 C, s_dup2 C, s_pop C⟩
theorem sq_2 {p : Program} {l : Launch} {e : Env} {R : Room} {s : State} {m : MethodId} {args : Array Value} {below : List Frame} {meth : Method} {c0 : Code} {Qf : State → Prop} {d c : Nat} {cc : ByteArray} {n0 : Nat} {cy : Nat → ClassId} {adr adK adV : Nat → Nat} {D : va_G} {kc ks : Nat} (C : zC p s m args c0 R d c cc n0 cy adr adK adV D kc ks) : zQ2 c cc (zPP p l e R s m args below meth c0 n0 cy adr D kc ks Qf) := ⟨s_iadd C, s_isub C, s_imul C, s_ishl C, s_ishr C, s_iushr C, s_iand C, s_ior C, s_ixor C, s_idiv C, s_irem C, s_ineg C⟩
theorem sq_3 {p : Program} {l : Launch} {e : Env} {R : Room} {s : State} {m : MethodId} {args : Array Value} {below : List Frame} {meth : Method} {c0 : Code} {Qf : State → Prop} {d c : Nat} {cc : ByteArray} {n0 : Nat} {cy : Nat → ClassId} {adr adK adV : Nat → Nat} {D : va_G} {kc ks : Nat} (C : zC p s m args c0 R d c cc n0 cy adr adK adV D kc ks) : zQ3 c cc (zPP p l e R s m args below meth c0 n0 cy adr D kc ks Qf) := ⟨s_ladd C, s_land C, s_lor C, s_lshl C, s_lcmp C, s_i2l C, s_l2i C, s_i2b C, s_i2s C, s_goto C, s_if_eq C, s_icmp_eq C⟩
theorem sq_4 {p : Program} {l : Launch} {e : Env} {R : Room} {s : State} {m : MethodId} {args : Array Value} {below : List Frame} {meth : Method} {c0 : Code} {Qf : State → Prop} {d c : Nat} {cc : ByteArray} {n0 : Nat} {cy : Nat → ClassId} {adr adK adV : Nat → Nat} {D : va_G} {kc ks : Nat} (C : zC p s m args c0 R d c cc n0 cy adr adK adV D kc ks) : zQ4 c cc (zPP p l e R s m args below meth c0 n0 cy adr D kc ks Qf) := ⟨s_if_ne C, s_icmp_ne C, s_if_lt C, s_icmp_lt C, s_if_ge C, s_icmp_ge C, s_if_gt C, s_icmp_gt C, s_if_le C, s_icmp_le C, s_tsw C, s_lsw C⟩
theorem sq_5 {p : Program} {l : Launch} {e : Env} {R : Room} {s : State} {m : MethodId} {args : Array Value} {below : List Frame} {meth : Method} {c0 : Code} {Qf : State → Prop} {d c : Nat} {cc : ByteArray} {n0 : Nat} {cy : Nat → ClassId} {adr adK adV : Nat → Nat} {D : va_G} {kc ks : Nat} (C : zC p s m args c0 R d c cc n0 cy adr adK adV D kc ks) : zQ5 c cc (zPP p l e R s m args below meth c0 n0 cy adr D kc ks Qf) := ⟨s_gfI C, s_gfA C, s_gfO C, s_pfI C, s_pfZ C, s_gs C, s_iald C, s_bald C, s_zald C, s_sald C, s_lald C, s_aald C⟩
theorem sq_6 {p : Program} {l : Launch} {e : Env} {R : Room} {s : State} {m : MethodId} {args : Array Value} {below : List Frame} {meth : Method} {c0 : Code} {Qf : State → Prop} {d c : Nat} {cc : ByteArray} {n0 : Nat} {cy : Nat → ClassId} {adr adK adV : Nat → Nat} {D : va_G} {kc ks : Nat} (C : zC p s m args c0 R d c cc n0 cy adr adK adV D kc ks) : zQ6 c cc (zPP p l e R s m args below meth c0 n0 cy adr D kc ks Qf) := ⟨s_stld C, s_alen C, s_iast C, s_bast C, s_zast C, s_sast C, s_last C, s_cpyi C, s_cpyl C, s_mmax C, s_mmin C, s_fgt C⟩
theorem s_rules {p : Program} {l : Launch} {e : Env} {R : Room} {s : State} {m : MethodId} {args : Array Value} {below : List Frame} {meth : Method} {c0 : Code} {Qf : State → Prop} {d c : Nat} {cc : ByteArray} {n0 : Nat} {cy : Nat → ClassId} {adr adK adV : Nat → Nat} {D : va_G} {kc ks : Nat} (C : zC p s m args c0 R d c cc n0 cy adr adK adV D kc ks) : zRules c cc (zPP p l e R s m args below meth c0 n0 cy adr D kc ks Qf) := ⟨sq_0 C, sq_1 C, sq_2 C, sq_3 C, sq_4 C, sq_5 C, sq_6 C⟩
def zW (r : zRow) : List Cond := Cond.code r.1 r.2.1 r.2.2.1 r.2.2.2.1 :: zTB
def zrm (d : Nat) : Room := { frames := d, cells := 0, slots := 0, locals := 64 * d }
def zB (cy : Nat → ClassId) (adr adK adV : Nat → Nat) (D : va_G) (M : zM) (U : State) : Prop := va_P D vwCl (zws cy adr M) U.heap ∧ va_K D vwCl (ztys cy) U ∧ zSt adr adK adV U U.heap
def zB2 (cy : Nat → ClassId) (adr : Nat → Nat) (D : va_G) (M : zM) (U : State) : Prop := va_P D vwCl (zws cy adr M) U.heap
def zQc (cy : Nat → ClassId) (adr : Nat → Nat) (D : va_G) (rt : Option FieldType) (Q : Int → zM → Prop) : Array Value → State → Outcome → State → Prop := if rt = none then va_Qv (fun M => Q 0 M) (zB2 cy adr D) (zA adr) else if rt = some .long then va_Ql (fun x M => Q x.toInt M) (zB2 cy adr D) (zA adr) else va_Qi (fun x M => Q x.toInt M) (zB2 cy adr D) (zA adr)
theorem zgood {w : Cond} (h : w ∈ zTB) : w ∈ zTB ∧ ((w.onTables && w.keeps) = true ∨ ∃ ty, w = .arrayClass ty) := ⟨h, good_of_word (List.mem_filter.mp h).2⟩
theorem zW_in {r : zRow} (hg : zGood r) : ∀ w ∈ zW r, w ∈ zTB := by
  intro w hw
  rcases List.mem_cons.mp hw with rfl | hw
  · exact hg.1
  · exact hw
theorem zPc_ok {cy : Nat → ClassId} {adr adK adV : Nat → Nat} {D : va_G} {M : zM} {av : List Value} : FrameBlind (va_Pc av (zB cy adr adK adV D M)) := fun a U g mk q => ⟨q.1, q.2.1, va_K.moved (u := U) (U := U.calling g mk a) (Vm.Alike.refl U.vm) q.2.2.1, zSt_call rfl q.2.2.2⟩
set_option maxHeartbeats 400000 in
theorem s_invVv {E : zE} {p : Program} {l : Launch} {e : Env} {R : Room} {s : State} {m : MethodId} {args : Array Value} {below : List Frame} {meth : Method} {c0 : Code} {Qf : State → Prop} {d c : Nat} {cc : ByteArray} {n0 : Nat} {cy : Nat → ClassId} {adr adK adV : Nat → Nat} {D : va_G} {kc ks : Nat} (C : zC p s m args c0 R d c cc n0 cy adr adK adV D kc ks) (IH : ∀ (r : zRow) (as : List Value) (M : zM) (Q : Int → zM → Prop), E r as M Q → Met l r.1 (zW r) (zrm d) (va_Pc (as.map (zcv adr)) (zB cy adr adK adV D M)) (zQc cy adr D r.2.2.2.1 Q) 0 0 (zA adr)) : ∀ (i : Nat) (r : zRow) (as : List Value) (Q1 : Int → zM → Prop) (o : Nat) (pc : Nat) (L : List (Option Value)) (st : List Value) (M : zM), (decode cc pc = .ok (.invokevirtual i, 3)) → (Cond.methodLink (zR c) i r.1 ∈ zTB) → (zGood r) → (r.2.2.2.2.2.2.1 = false) → (as.length = r.2.2.2.2.2.1) → ((st.map fun v => v.category).sum ≤ 8) → (r.2.2.2.1 = none) → (zob o r.2.2.2.2.1) → E r (.ref o :: as) M Q1 → (∀ (x : Int) (M2 : zM), Q1 x M2 → (zPP p l e R s m args below meth c0 n0 cy adr D kc ks Qf) (pc + 3) L (st) M2) → (zPP p l e R s m args below meth c0 n0 cy adr D kc ks Qf) pc L (as.reverse ++ .ref o :: st) M := by
  obtain ⟨Cx, Cb, Cm, Co, Ct, CK, Ci, Cs, Cf, Cl, Ckc, Cks⟩ := C
  intro i r as Q1 o pc L st M hd hw hg hs hn hc hr ho k1 kk ls H locs hN hLoc hPw hSv
  have hM := IH r (.ref o :: as) M Q1 k1
  have hcat : ((st.map (zcv adr)).map fun v => v.category).sum ≤ 8 := by rw [zcats]; exact hc
  have hroom : (zrm d).frames + 1 ≤ R.frames ∧ 8 + (r.2.2.1 + 11) + (zrm d).locals ≤ R.locals := by
    have h40 := hg.2.2.2.2.2.2
    exact ⟨Cf, by show 8 + (r.2.2.1 + 11) + 64 * d ≤ R.locals; omega⟩
  have h6 := hg.2.2.2.2.2.1
  rw [hs] at h6
  have hqc : zQc cy adr D r.2.2.2.1 Q1 = va_Qv (fun M => Q1 0 M) (zB2 cy adr D) (zA adr) := by rw [hr]; simp [zQc]
  rw [hqc] at hM
  have h6 : Cond.instanceMethod r.1 ∈ zTB ∧ Cond.selects r.1.cls r.1 r.1 ∈ zTB := by simpa using h6
  obtain ⟨q0, hq0, he⟩ := zw_obj cy adr M ho
  have hrc : (zR r.2.2.2.2.1) = r.1.cls := hg.2.2.2.1.symm
  have cw : CallW R s args (zR c) r.1.cls i r.1 r.2.1 r.2.2.1 r.2.2.2.1 (zW r) (zrm d) 0 0 r.2.2.2.2.2.1 := ⟨callB_of _ Ct (fun w h => zgood (zW_in hg w h)) rfl rfl rfl (Ct _ hg.2.1) (Ct _ hw) hg.2.2.2.2.1 hroom, Ct _ h6.1, Ct _ h6.2⟩
  have hrv : ∃ cellB : Cell, H[adr o]? = some cellB ∧ cellB.vm.isStatics = false ∧ s.vm.findClass r.1.cls = some cellB.cls := by rw [← hrc]; exact va_recv CK hPw (zcl_at ho.2.2.2) he
  have hpre : PreV s H r.1.cls (adr o) (va_Pc ((.ref o :: as).map (zcv adr)) (zB cy adr adK adV D M)) (as.map (zcv adr)) := ⟨zPc_ok, hrv, fun U hU hW => ⟨rfl, by rw [hU]; exact hPw, va_K.moved hW.alike CK, by rw [hU]; exact zSt_warm hW hSv.2.1 Cs⟩⟩
  have hrun : va_Run p l e R s m args below meth c0 H locs kc ks 0 0 (F0 m pc ls ((as.reverse ++ .ref o :: st).map (zcv adr))) (st.map (zcv adr)) (va_Qv (fun M => Q1 0 M) (zB2 cy adr D) (zA adr) ((.ref o :: as).map (zcv adr)).toArray) (zA adr) := va_runV (As := as.map (zcv adr)) (rest := st.map (zcv adr)) ⟨Cx, Cb, Cm, Co, Ct⟩ hM cw hpre rfl (by rw [List.length_map]; exact hn) hLoc.1 (by simp [List.map_append, List.map_reverse, zcv]) (lv_room hcat) hd ⟨Ckc, Cks⟩
  refine va_callv hrun hSv (fun q _ h => h) (fun q h => h) (fun M2 t H1 locs1 ht hvm hq hB _ _ hS1 => ?_)
  have hB2 : va_P D vwCl (zws cy adr M2) H1 := by rw [← ht]; exact hB
  exact kk 0 M2 hq ls H1 locs1 hN hLoc hB2 hS1
set_option maxHeartbeats 400000 in
theorem s_invVi {E : zE} {p : Program} {l : Launch} {e : Env} {R : Room} {s : State} {m : MethodId} {args : Array Value} {below : List Frame} {meth : Method} {c0 : Code} {Qf : State → Prop} {d c : Nat} {cc : ByteArray} {n0 : Nat} {cy : Nat → ClassId} {adr adK adV : Nat → Nat} {D : va_G} {kc ks : Nat} (C : zC p s m args c0 R d c cc n0 cy adr adK adV D kc ks) (IH : ∀ (r : zRow) (as : List Value) (M : zM) (Q : Int → zM → Prop), E r as M Q → Met l r.1 (zW r) (zrm d) (va_Pc (as.map (zcv adr)) (zB cy adr adK adV D M)) (zQc cy adr D r.2.2.2.1 Q) 0 0 (zA adr)) : ∀ (i : Nat) (r : zRow) (as : List Value) (Q1 : Int → zM → Prop) (o : Nat) (pc : Nat) (L : List (Option Value)) (st : List Value) (M : zM), (decode cc pc = .ok (.invokevirtual i, 3)) → (Cond.methodLink (zR c) i r.1 ∈ zTB) → (zGood r) → (r.2.2.2.2.2.2.1 = false) → (as.length = r.2.2.2.2.2.1) → ((st.map fun v => v.category).sum ≤ 8) → (r.2.2.2.1 = some .int ∨ r.2.2.2.1 = some .boolean) → (zob o r.2.2.2.2.1) → E r (.ref o :: as) M Q1 → (∀ (x : Int) (M2 : zM), Q1 x M2 → (zPP p l e R s m args below meth c0 n0 cy adr D kc ks Qf) (pc + 3) L (zI x :: st) M2) → (zPP p l e R s m args below meth c0 n0 cy adr D kc ks Qf) pc L (as.reverse ++ .ref o :: st) M := by
  obtain ⟨Cx, Cb, Cm, Co, Ct, CK, Ci, Cs, Cf, Cl, Ckc, Cks⟩ := C
  intro i r as Q1 o pc L st M hd hw hg hs hn hc hr ho k1 kk ls H locs hN hLoc hPw hSv
  have hM := IH r (.ref o :: as) M Q1 k1
  have hcat : ((st.map (zcv adr)).map fun v => v.category).sum ≤ 8 := by rw [zcats]; exact hc
  have hroom : (zrm d).frames + 1 ≤ R.frames ∧ 8 + (r.2.2.1 + 11) + (zrm d).locals ≤ R.locals := by
    have h40 := hg.2.2.2.2.2.2
    exact ⟨Cf, by show 8 + (r.2.2.1 + 11) + 64 * d ≤ R.locals; omega⟩
  have h6 := hg.2.2.2.2.2.1
  rw [hs] at h6
  have hqc : zQc cy adr D r.2.2.2.1 Q1 = va_Qi (fun x M => Q1 x.toInt M) (zB2 cy adr D) (zA adr) := by rcases hr with hr | hr <;> (rw [hr]; simp [zQc])
  rw [hqc] at hM
  have h6 : Cond.instanceMethod r.1 ∈ zTB ∧ Cond.selects r.1.cls r.1 r.1 ∈ zTB := by simpa using h6
  obtain ⟨q0, hq0, he⟩ := zw_obj cy adr M ho
  have hrc : (zR r.2.2.2.2.1) = r.1.cls := hg.2.2.2.1.symm
  have cw : CallW R s args (zR c) r.1.cls i r.1 r.2.1 r.2.2.1 r.2.2.2.1 (zW r) (zrm d) 0 0 r.2.2.2.2.2.1 := ⟨callB_of _ Ct (fun w h => zgood (zW_in hg w h)) rfl rfl rfl (Ct _ hg.2.1) (Ct _ hw) hg.2.2.2.2.1 hroom, Ct _ h6.1, Ct _ h6.2⟩
  have hrv : ∃ cellB : Cell, H[adr o]? = some cellB ∧ cellB.vm.isStatics = false ∧ s.vm.findClass r.1.cls = some cellB.cls := by rw [← hrc]; exact va_recv CK hPw (zcl_at ho.2.2.2) he
  have hpre : PreV s H r.1.cls (adr o) (va_Pc ((.ref o :: as).map (zcv adr)) (zB cy adr adK adV D M)) (as.map (zcv adr)) := ⟨zPc_ok, hrv, fun U hU hW => ⟨rfl, by rw [hU]; exact hPw, va_K.moved hW.alike CK, by rw [hU]; exact zSt_warm hW hSv.2.1 Cs⟩⟩
  have hrun : va_Run p l e R s m args below meth c0 H locs kc ks 0 0 (F0 m pc ls ((as.reverse ++ .ref o :: st).map (zcv adr))) (st.map (zcv adr)) (va_Qi (fun x M => Q1 x.toInt M) (zB2 cy adr D) (zA adr) ((.ref o :: as).map (zcv adr)).toArray) (zA adr) := va_runV (As := as.map (zcv adr)) (rest := st.map (zcv adr)) ⟨Cx, Cb, Cm, Co, Ct⟩ hM cw hpre rfl (by rw [List.length_map]; exact hn) hLoc.1 (by simp [List.map_append, List.map_reverse, zcv]) (lv_room hcat) hd ⟨Ckc, Cks⟩
  refine va_calli hrun hSv (fun q _ h => h) (fun q h => h) (fun x M2 t H1 locs1 ht hvm hq hB _ _ hS1 => ?_)
  have hB2 : va_P D vwCl (zws cy adr M2) H1 := by rw [← ht]; exact hB
  exact W.eq (zeq (Int32.ofInt_toInt x).symm) (kk x.toInt M2 hq ls H1 locs1 hN hLoc hB2 hS1)
set_option maxHeartbeats 400000 in
theorem s_invVl {E : zE} {p : Program} {l : Launch} {e : Env} {R : Room} {s : State} {m : MethodId} {args : Array Value} {below : List Frame} {meth : Method} {c0 : Code} {Qf : State → Prop} {d c : Nat} {cc : ByteArray} {n0 : Nat} {cy : Nat → ClassId} {adr adK adV : Nat → Nat} {D : va_G} {kc ks : Nat} (C : zC p s m args c0 R d c cc n0 cy adr adK adV D kc ks) (IH : ∀ (r : zRow) (as : List Value) (M : zM) (Q : Int → zM → Prop), E r as M Q → Met l r.1 (zW r) (zrm d) (va_Pc (as.map (zcv adr)) (zB cy adr adK adV D M)) (zQc cy adr D r.2.2.2.1 Q) 0 0 (zA adr)) : ∀ (i : Nat) (r : zRow) (as : List Value) (Q1 : Int → zM → Prop) (o : Nat) (pc : Nat) (L : List (Option Value)) (st : List Value) (M : zM), (decode cc pc = .ok (.invokevirtual i, 3)) → (Cond.methodLink (zR c) i r.1 ∈ zTB) → (zGood r) → (r.2.2.2.2.2.2.1 = false) → (as.length = r.2.2.2.2.2.1) → ((st.map fun v => v.category).sum ≤ 8) → (r.2.2.2.1 = some .long) → (zob o r.2.2.2.2.1) → E r (.ref o :: as) M Q1 → (∀ (x : Int) (M2 : zM), Q1 x M2 → (zPP p l e R s m args below meth c0 n0 cy adr D kc ks Qf) (pc + 3) L (zJ x :: st) M2) → (zPP p l e R s m args below meth c0 n0 cy adr D kc ks Qf) pc L (as.reverse ++ .ref o :: st) M := by
  obtain ⟨Cx, Cb, Cm, Co, Ct, CK, Ci, Cs, Cf, Cl, Ckc, Cks⟩ := C
  intro i r as Q1 o pc L st M hd hw hg hs hn hc hr ho k1 kk ls H locs hN hLoc hPw hSv
  have hM := IH r (.ref o :: as) M Q1 k1
  have hcat : ((st.map (zcv adr)).map fun v => v.category).sum ≤ 8 := by rw [zcats]; exact hc
  have hroom : (zrm d).frames + 1 ≤ R.frames ∧ 8 + (r.2.2.1 + 11) + (zrm d).locals ≤ R.locals := by
    have h40 := hg.2.2.2.2.2.2
    exact ⟨Cf, by show 8 + (r.2.2.1 + 11) + 64 * d ≤ R.locals; omega⟩
  have h6 := hg.2.2.2.2.2.1
  rw [hs] at h6
  have hqc : zQc cy adr D r.2.2.2.1 Q1 = va_Ql (fun x M => Q1 x.toInt M) (zB2 cy adr D) (zA adr) := by rw [hr]; simp [zQc]
  rw [hqc] at hM
  have h6 : Cond.instanceMethod r.1 ∈ zTB ∧ Cond.selects r.1.cls r.1 r.1 ∈ zTB := by simpa using h6
  obtain ⟨q0, hq0, he⟩ := zw_obj cy adr M ho
  have hrc : (zR r.2.2.2.2.1) = r.1.cls := hg.2.2.2.1.symm
  have cw : CallW R s args (zR c) r.1.cls i r.1 r.2.1 r.2.2.1 r.2.2.2.1 (zW r) (zrm d) 0 0 r.2.2.2.2.2.1 := ⟨callB_of _ Ct (fun w h => zgood (zW_in hg w h)) rfl rfl rfl (Ct _ hg.2.1) (Ct _ hw) hg.2.2.2.2.1 hroom, Ct _ h6.1, Ct _ h6.2⟩
  have hrv : ∃ cellB : Cell, H[adr o]? = some cellB ∧ cellB.vm.isStatics = false ∧ s.vm.findClass r.1.cls = some cellB.cls := by rw [← hrc]; exact va_recv CK hPw (zcl_at ho.2.2.2) he
  have hpre : PreV s H r.1.cls (adr o) (va_Pc ((.ref o :: as).map (zcv adr)) (zB cy adr adK adV D M)) (as.map (zcv adr)) := ⟨zPc_ok, hrv, fun U hU hW => ⟨rfl, by rw [hU]; exact hPw, va_K.moved hW.alike CK, by rw [hU]; exact zSt_warm hW hSv.2.1 Cs⟩⟩
  have hrun : va_Run p l e R s m args below meth c0 H locs kc ks 0 0 (F0 m pc ls ((as.reverse ++ .ref o :: st).map (zcv adr))) (st.map (zcv adr)) (va_Ql (fun x M => Q1 x.toInt M) (zB2 cy adr D) (zA adr) ((.ref o :: as).map (zcv adr)).toArray) (zA adr) := va_runV (As := as.map (zcv adr)) (rest := st.map (zcv adr)) ⟨Cx, Cb, Cm, Co, Ct⟩ hM cw hpre rfl (by rw [List.length_map]; exact hn) hLoc.1 (by simp [List.map_append, List.map_reverse, zcv]) (lv_room hcat) hd ⟨Ckc, Cks⟩
  refine va_calll hrun hSv (fun q _ h => h) (fun q h => h) (fun x M2 t H1 locs1 ht hvm hq hB _ _ hS1 => ?_)
  have hB2 : va_P D vwCl (zws cy adr M2) H1 := by rw [← ht]; exact hB
  exact W.eq (zeqL (Int64.ofInt_toInt x).symm) (kk x.toInt M2 hq ls H1 locs1 hN hLoc hB2 hS1)
set_option maxHeartbeats 400000 in
theorem s_invSv {E : zE} {p : Program} {l : Launch} {e : Env} {R : Room} {s : State} {m : MethodId} {args : Array Value} {below : List Frame} {meth : Method} {c0 : Code} {Qf : State → Prop} {d c : Nat} {cc : ByteArray} {n0 : Nat} {cy : Nat → ClassId} {adr adK adV : Nat → Nat} {D : va_G} {kc ks : Nat} (C : zC p s m args c0 R d c cc n0 cy adr adK adV D kc ks) (IH : ∀ (r : zRow) (as : List Value) (M : zM) (Q : Int → zM → Prop), E r as M Q → Met l r.1 (zW r) (zrm d) (va_Pc (as.map (zcv adr)) (zB cy adr adK adV D M)) (zQc cy adr D r.2.2.2.1 Q) 0 0 (zA adr)) : ∀ (i : Nat) (r : zRow) (as : List Value) (Q1 : Int → zM → Prop) (pc : Nat) (L : List (Option Value)) (st : List Value) (M : zM), (decode cc pc = .ok (.invokestatic i, 3)) → (Cond.methodLink (zR c) i r.1 ∈ zTB) → (zGood r) → (r.2.2.2.2.2.2.1 = true) → (as.length = r.2.2.2.2.2.1) → ((st.map fun v => v.category).sum ≤ 8) → (r.2.2.2.1 = none) → E r as M Q1 → (∀ (x : Int) (M2 : zM), Q1 x M2 → (zPP p l e R s m args below meth c0 n0 cy adr D kc ks Qf) (pc + 3) L (st) M2) → (zPP p l e R s m args below meth c0 n0 cy adr D kc ks Qf) pc L (as.reverse ++ st) M := by
  obtain ⟨Cx, Cb, Cm, Co, Ct, CK, Ci, Cs, Cf, Cl, Ckc, Cks⟩ := C
  intro i r as Q1 pc L st M hd hw hg hs hn hc hr k1 kk ls H locs hN hLoc hPw hSv
  have hM := IH r as M Q1 k1
  have hcat : ((st.map (zcv adr)).map fun v => v.category).sum ≤ 8 := by rw [zcats]; exact hc
  have hroom : (zrm d).frames + 1 ≤ R.frames ∧ 8 + (r.2.2.1 + 11) + (zrm d).locals ≤ R.locals := by
    have h40 := hg.2.2.2.2.2.2
    exact ⟨Cf, by show 8 + (r.2.2.1 + 11) + 64 * d ≤ R.locals; omega⟩
  have h6 := hg.2.2.2.2.2.1
  rw [hs] at h6
  have hqc : zQc cy adr D r.2.2.2.1 Q1 = va_Qv (fun M => Q1 0 M) (zB2 cy adr D) (zA adr) := by rw [hr]; simp [zQc]
  rw [hqc] at hM
  have h6 : Cond.static r.1 ∈ zTB := by simpa using h6
  have cw : CallB R s args (zR c) i r.1 r.2.1 r.2.2.1 r.2.2.2.1 (zW r) (zrm d) 0 0 r.2.2.2.2.2.1 ∧ (Cond.static r.1).before args s = true := ⟨callB_of _ Ct (fun w h => zgood (zW_in hg w h)) rfl rfl rfl (Ct _ hg.2.1) (Ct _ hw) hg.2.2.2.2.1 hroom, Ct _ h6⟩
  have hpre : PreS s H (va_Pc (as.map (zcv adr)) (zB cy adr adK adV D M)) (as.map (zcv adr)) := ⟨zPc_ok, fun U hU hW => ⟨rfl, by rw [hU]; exact hPw, va_K.moved hW.alike CK, by rw [hU]; exact zSt_warm hW hSv.2.1 Cs⟩⟩
  have hrun : va_Run p l e R s m args below meth c0 H locs kc ks 0 0 (F0 m pc ls ((as.reverse ++ st).map (zcv adr))) (st.map (zcv adr)) (va_Qv (fun M => Q1 0 M) (zB2 cy adr D) (zA adr) (as.map (zcv adr)).toArray) (zA adr) := va_runS (As := as.map (zcv adr)) (rest := st.map (zcv adr)) ⟨Cx, Cb, Cm, Co, Ct⟩ hM cw hpre rfl (by rw [List.length_map]; exact hn) hLoc.1 (by simp [List.map_append, List.map_reverse]) (lv_room hcat) hd ⟨Ckc, Cks⟩
  refine va_callv hrun hSv (fun q _ h => h) (fun q h => h) (fun M2 t H1 locs1 ht hvm hq hB _ _ hS1 => ?_)
  have hB2 : va_P D vwCl (zws cy adr M2) H1 := by rw [← ht]; exact hB
  exact kk 0 M2 hq ls H1 locs1 hN hLoc hB2 hS1
set_option maxHeartbeats 400000 in
theorem s_invSi {E : zE} {p : Program} {l : Launch} {e : Env} {R : Room} {s : State} {m : MethodId} {args : Array Value} {below : List Frame} {meth : Method} {c0 : Code} {Qf : State → Prop} {d c : Nat} {cc : ByteArray} {n0 : Nat} {cy : Nat → ClassId} {adr adK adV : Nat → Nat} {D : va_G} {kc ks : Nat} (C : zC p s m args c0 R d c cc n0 cy adr adK adV D kc ks) (IH : ∀ (r : zRow) (as : List Value) (M : zM) (Q : Int → zM → Prop), E r as M Q → Met l r.1 (zW r) (zrm d) (va_Pc (as.map (zcv adr)) (zB cy adr adK adV D M)) (zQc cy adr D r.2.2.2.1 Q) 0 0 (zA adr)) : ∀ (i : Nat) (r : zRow) (as : List Value) (Q1 : Int → zM → Prop) (pc : Nat) (L : List (Option Value)) (st : List Value) (M : zM), (decode cc pc = .ok (.invokestatic i, 3)) → (Cond.methodLink (zR c) i r.1 ∈ zTB) → (zGood r) → (r.2.2.2.2.2.2.1 = true) → (as.length = r.2.2.2.2.2.1) → ((st.map fun v => v.category).sum ≤ 8) → (r.2.2.2.1 = some .int ∨ r.2.2.2.1 = some .boolean) → E r as M Q1 → (∀ (x : Int) (M2 : zM), Q1 x M2 → (zPP p l e R s m args below meth c0 n0 cy adr D kc ks Qf) (pc + 3) L (zI x :: st) M2) → (zPP p l e R s m args below meth c0 n0 cy adr D kc ks Qf) pc L (as.reverse ++ st) M := by
  obtain ⟨Cx, Cb, Cm, Co, Ct, CK, Ci, Cs, Cf, Cl, Ckc, Cks⟩ := C
  intro i r as Q1 pc L st M hd hw hg hs hn hc hr k1 kk ls H locs hN hLoc hPw hSv
  have hM := IH r as M Q1 k1
  have hcat : ((st.map (zcv adr)).map fun v => v.category).sum ≤ 8 := by rw [zcats]; exact hc
  have hroom : (zrm d).frames + 1 ≤ R.frames ∧ 8 + (r.2.2.1 + 11) + (zrm d).locals ≤ R.locals := by
    have h40 := hg.2.2.2.2.2.2
    exact ⟨Cf, by show 8 + (r.2.2.1 + 11) + 64 * d ≤ R.locals; omega⟩
  have h6 := hg.2.2.2.2.2.1
  rw [hs] at h6
  have hqc : zQc cy adr D r.2.2.2.1 Q1 = va_Qi (fun x M => Q1 x.toInt M) (zB2 cy adr D) (zA adr) := by rcases hr with hr | hr <;> (rw [hr]; simp [zQc])
  rw [hqc] at hM
  have h6 : Cond.static r.1 ∈ zTB := by simpa using h6
  have cw : CallB R s args (zR c) i r.1 r.2.1 r.2.2.1 r.2.2.2.1 (zW r) (zrm d) 0 0 r.2.2.2.2.2.1 ∧ (Cond.static r.1).before args s = true := ⟨callB_of _ Ct (fun w h => zgood (zW_in hg w h)) rfl rfl rfl (Ct _ hg.2.1) (Ct _ hw) hg.2.2.2.2.1 hroom, Ct _ h6⟩
  have hpre : PreS s H (va_Pc (as.map (zcv adr)) (zB cy adr adK adV D M)) (as.map (zcv adr)) := ⟨zPc_ok, fun U hU hW => ⟨rfl, by rw [hU]; exact hPw, va_K.moved hW.alike CK, by rw [hU]; exact zSt_warm hW hSv.2.1 Cs⟩⟩
  have hrun : va_Run p l e R s m args below meth c0 H locs kc ks 0 0 (F0 m pc ls ((as.reverse ++ st).map (zcv adr))) (st.map (zcv adr)) (va_Qi (fun x M => Q1 x.toInt M) (zB2 cy adr D) (zA adr) (as.map (zcv adr)).toArray) (zA adr) := va_runS (As := as.map (zcv adr)) (rest := st.map (zcv adr)) ⟨Cx, Cb, Cm, Co, Ct⟩ hM cw hpre rfl (by rw [List.length_map]; exact hn) hLoc.1 (by simp [List.map_append, List.map_reverse]) (lv_room hcat) hd ⟨Ckc, Cks⟩
  refine va_calli hrun hSv (fun q _ h => h) (fun q h => h) (fun x M2 t H1 locs1 ht hvm hq hB _ _ hS1 => ?_)
  have hB2 : va_P D vwCl (zws cy adr M2) H1 := by rw [← ht]; exact hB
  exact W.eq (zeq (Int32.ofInt_toInt x).symm) (kk x.toInt M2 hq ls H1 locs1 hN hLoc hB2 hS1)
set_option maxHeartbeats 400000 in
theorem s_invSl {E : zE} {p : Program} {l : Launch} {e : Env} {R : Room} {s : State} {m : MethodId} {args : Array Value} {below : List Frame} {meth : Method} {c0 : Code} {Qf : State → Prop} {d c : Nat} {cc : ByteArray} {n0 : Nat} {cy : Nat → ClassId} {adr adK adV : Nat → Nat} {D : va_G} {kc ks : Nat} (C : zC p s m args c0 R d c cc n0 cy adr adK adV D kc ks) (IH : ∀ (r : zRow) (as : List Value) (M : zM) (Q : Int → zM → Prop), E r as M Q → Met l r.1 (zW r) (zrm d) (va_Pc (as.map (zcv adr)) (zB cy adr adK adV D M)) (zQc cy adr D r.2.2.2.1 Q) 0 0 (zA adr)) : ∀ (i : Nat) (r : zRow) (as : List Value) (Q1 : Int → zM → Prop) (pc : Nat) (L : List (Option Value)) (st : List Value) (M : zM), (decode cc pc = .ok (.invokestatic i, 3)) → (Cond.methodLink (zR c) i r.1 ∈ zTB) → (zGood r) → (r.2.2.2.2.2.2.1 = true) → (as.length = r.2.2.2.2.2.1) → ((st.map fun v => v.category).sum ≤ 8) → (r.2.2.2.1 = some .long) → E r as M Q1 → (∀ (x : Int) (M2 : zM), Q1 x M2 → (zPP p l e R s m args below meth c0 n0 cy adr D kc ks Qf) (pc + 3) L (zJ x :: st) M2) → (zPP p l e R s m args below meth c0 n0 cy adr D kc ks Qf) pc L (as.reverse ++ st) M := by
  obtain ⟨Cx, Cb, Cm, Co, Ct, CK, Ci, Cs, Cf, Cl, Ckc, Cks⟩ := C
  intro i r as Q1 pc L st M hd hw hg hs hn hc hr k1 kk ls H locs hN hLoc hPw hSv
  have hM := IH r as M Q1 k1
  have hcat : ((st.map (zcv adr)).map fun v => v.category).sum ≤ 8 := by rw [zcats]; exact hc
  have hroom : (zrm d).frames + 1 ≤ R.frames ∧ 8 + (r.2.2.1 + 11) + (zrm d).locals ≤ R.locals := by
    have h40 := hg.2.2.2.2.2.2
    exact ⟨Cf, by show 8 + (r.2.2.1 + 11) + 64 * d ≤ R.locals; omega⟩
  have h6 := hg.2.2.2.2.2.1
  rw [hs] at h6
  have hqc : zQc cy adr D r.2.2.2.1 Q1 = va_Ql (fun x M => Q1 x.toInt M) (zB2 cy adr D) (zA adr) := by rw [hr]; simp [zQc]
  rw [hqc] at hM
  have h6 : Cond.static r.1 ∈ zTB := by simpa using h6
  have cw : CallB R s args (zR c) i r.1 r.2.1 r.2.2.1 r.2.2.2.1 (zW r) (zrm d) 0 0 r.2.2.2.2.2.1 ∧ (Cond.static r.1).before args s = true := ⟨callB_of _ Ct (fun w h => zgood (zW_in hg w h)) rfl rfl rfl (Ct _ hg.2.1) (Ct _ hw) hg.2.2.2.2.1 hroom, Ct _ h6⟩
  have hpre : PreS s H (va_Pc (as.map (zcv adr)) (zB cy adr adK adV D M)) (as.map (zcv adr)) := ⟨zPc_ok, fun U hU hW => ⟨rfl, by rw [hU]; exact hPw, va_K.moved hW.alike CK, by rw [hU]; exact zSt_warm hW hSv.2.1 Cs⟩⟩
  have hrun : va_Run p l e R s m args below meth c0 H locs kc ks 0 0 (F0 m pc ls ((as.reverse ++ st).map (zcv adr))) (st.map (zcv adr)) (va_Ql (fun x M => Q1 x.toInt M) (zB2 cy adr D) (zA adr) (as.map (zcv adr)).toArray) (zA adr) := va_runS (As := as.map (zcv adr)) (rest := st.map (zcv adr)) ⟨Cx, Cb, Cm, Co, Ct⟩ hM cw hpre rfl (by rw [List.length_map]; exact hn) hLoc.1 (by simp [List.map_append, List.map_reverse]) (lv_room hcat) hd ⟨Ckc, Cks⟩
  refine va_calll hrun hSv (fun q _ h => h) (fun q h => h) (fun x M2 t H1 locs1 ht hvm hq hB _ _ hS1 => ?_)
  have hB2 : va_P D vwCl (zws cy adr M2) H1 := by rw [← ht]; exact hB
  exact W.eq (zeqL (Int64.ofInt_toInt x).symm) (kk x.toInt M2 hq ls H1 locs1 hN hLoc hB2 hS1)
theorem s_calls {E : zE} {p : Program} {l : Launch} {e : Env} {R : Room} {s : State} {m : MethodId} {args : Array Value} {below : List Frame} {meth : Method} {c0 : Code} {Qf : State → Prop} {d c : Nat} {cc : ByteArray} {n0 : Nat} {cy : Nat → ClassId} {adr adK adV : Nat → Nat} {D : va_G} {kc ks : Nat} (C : zC p s m args c0 R d c cc n0 cy adr adK adV D kc ks) (IH : ∀ (r : zRow) (as : List Value) (M : zM) (Q : Int → zM → Prop), E r as M Q → Met l r.1 (zW r) (zrm d) (va_Pc (as.map (zcv adr)) (zB cy adr adK adV D M)) (zQc cy adr D r.2.2.2.1 Q) 0 0 (zA adr)) : zCalls E c cc (zPP p l e R s m args below meth c0 n0 cy adr D kc ks Qf) := ⟨s_invVv C IH, s_invVi C IH, s_invVl C IH, s_invSv C IH, s_invSi C IH, s_invSl C IH⟩
theorem s_rets {p : Program} {l : Launch} {e : Env} {R : Room} {s : State} {m : MethodId} {args : Array Value} {below : List Frame} {meth : Method} {c0 : Code} {rt : Option FieldType} {Q : Int → zM → Prop} {d c : Nat} {cc : ByteArray} {n0 : Nat} {cy : Nat → ClassId} {adr adK adV : Nat → Nat} {D : va_G} (C : zC p s m args c0 R d c cc n0 cy adr adK adV D 0 0) (hr : meth.sig.returnType = rt) (hlk : meth.locks = false) : zRets cc rt Q (zPP p l e R s m args below meth c0 n0 cy adr D 0 0 (MQ below (zQc cy adr D rt Q) args s 0 0 (zA adr))) := by
  obtain ⟨Cx, Cb, Cm, Co, Ct, CK, Ci, Cs, Cf, Cl, Ckc, Cks⟩ := C
  refine ⟨?_, ?_, ?_, ?_⟩
  · intro a a1 pc L M h0 hd ha q ls H locs hN hLoc hPw hSv
    subst ha
    refine W.iret (Qc := zQc cy adr D rt Q) (v := Int32.ofInt a) Cx Cb (hr.trans h0) (fun t ht hW => ?_) hSv.2.2 hd hlk
    rw [h0, zQc, if_neg (by simp), if_neg (by simp)]
    exact ⟨⟨Int32.ofInt a, M, rfl, q, by show va_P D vwCl (zws cy adr M) t.heap; rw [ht]; exact hPw⟩, hSv.F ht⟩
  · intro a a1 pc L M h0 hd ha hz q ls H locs hN hLoc hPw hSv
    subst ha
    refine W.zret (Qc := zQc cy adr D rt Q) (v := Int32.ofInt a) Cx Cb (hr.trans h0) ?_ (fun t ht hW => ?_) hSv.2.2 hd hlk
    · have hz : Int32.ofInt a = 0 ∨ Int32.ofInt a = 1 := by
        rcases hz with hz | hz
        · exact Or.inl (Int32.toInt_inj.mp hz)
        · exact Or.inr (Int32.toInt_inj.mp hz)
      rcases hz with hz | hz <;> (rw [hz]; decide)
    · rw [h0, zQc, if_neg (by simp), if_neg (by simp)]
      exact ⟨⟨Int32.ofInt a, M, rfl, q, by show va_P D vwCl (zws cy adr M) t.heap; rw [ht]; exact hPw⟩, hSv.F ht⟩
  · intro a a1 pc L M h0 hd ha q ls H locs hN hLoc hPw hSv
    subst ha
    refine W.lret (Qc := zQc cy adr D rt Q) (v := Int64.ofInt a) Cx Cb (hr.trans h0) (fun t ht hW => ?_) hSv.2.2 hd hlk
    rw [h0, zQc, if_neg (by simp), if_pos rfl]
    exact ⟨⟨Int64.ofInt a, M, rfl, q, by show va_P D vwCl (zws cy adr M) t.heap; rw [ht]; exact hPw⟩, hSv.F ht⟩
  · intro pc L M h0 hd q ls H locs hN hLoc hPw hSv
    refine W.vret (Qc := zQc cy adr D rt Q) Cx Cb (hr.trans h0) (fun t ht hW => ?_) hSv.2.2 hd hlk
    rw [h0, zQc, if_pos rfl]
    exact ⟨⟨M, rfl, q, by show va_P D vwCl (zws cy adr M) t.heap; rw [ht]; exact hPw⟩, hSv.F ht⟩
/-- what the small machine says of a method, the real one does; letterOf is walked apart -/
theorem z_sound {l : Launch} {cy : Nat → ClassId} {adr adK adV : Nat → Nat} {D : va_G} (hinj : ∀ i ∈ zIDS, ∀ j ∈ zIDS, adr i = adr j → i = j) (hprim : ∀ (d : Nat) (a : Int) (M : zM) (Q : Int → zM → Prop), 12 ≤ d → zw a ≤ 255 → Q (zlet (zw a)) M → Met l yX2_letterOf (zW mX2_letterOf) (zrm (d + 1)) (va_Pc ([zI a].map (zcv adr)) (zB cy adr adK adV D M)) (zQc cy adr D (some .int) Q) 0 0 (zA adr)) : ∀ (d : Nat) (r : zRow) (as : List Value) (M : zM) (Q : Int → zM → Prop), Ev d r as M Q → Met l r.1 (zW r) (zrm d) (va_Pc (as.map (zcv adr)) (zB cy adr adK adV D M)) (zQc cy adr D r.2.2.2.1 Q) 0 0 (zA adr) := by
  intro d
  induction d with
  | zero => intro r as M Q h; exact h.elim
  | succ d IH =>
    intro r as M Q h
    rw [Ev_succ] at h
    obtain ⟨hg, hlen, h3⟩ := h
    by_cases hp : r.2.2.2.2.2.2.2 = true
    · rw [if_pos hp] at h3
      obtain ⟨rfl, g1, a, rfl, g3, g2⟩ := h3
      exact hprim d a M Q g1 g3 g2
    · rw [if_neg hp] at h3
      refine Met.ofW (cc := r.2.1) (maxL := r.2.2.1) (ret := r.2.2.2.1) hg.2.2.1 rfl ?_
      intro p e s m args below meth c s₁ B hml hv
      obtain ⟨rfl, hP, hK, hSt⟩ := hv
      have hts := atoms_spec (ws := zW r) B.pre
      have hown : s.vm.findClass r.1.cls = some m.cls := findClass_of_methodNamed B.named
      have C : zC p s m (as.map (zcv adr)).toArray c (zrm (d + 1)) d r.2.2.2.2.1 r.2.1 r.2.2.1 cy adr adK adV D 0 0 := ⟨B.exec, B.bytes, hml, by rw [← hg.2.2.2.1]; exact hown, fun w hw => hts w (List.mem_cons_of_mem _ hw), hK, hinj, hSt, Nat.le_refl _, by show 64 * d + 64 ≤ 64 * (d + 1); omega, Nat.le_refl _, Nat.le_refl _⟩
      have hl := lv_entry (as.map (zcv adr)) (n := r.2.2.1) (by rw [zfl_len]; exact hlen)
      rw [lg_entry_eq]
      generalize (lg_sl (as.map (zcv adr)) ++ List.replicate (r.2.2.1 - (lg_sl (as.map (zcv adr))).length) Slot.unset).toArray = ls at hl ⊢
      have hl2 : lv_has ls r.2.2.1 (zlv adr 0 (zen r.2.2.1 as)) := by rw [zen, zlv_ent]; exact hl
      have hN : (zen r.2.2.1 as).length = r.2.2.1 := by rw [zen, List.length_append, List.length_replicate]; omega
      exact h3 (zPP p l e (zrm (d + 1)) s m (as.map (zcv adr)).toArray below meth c r.2.2.1 cy adr D 0 0 (MQ below (zQc cy adr D r.2.2.2.1 Q) (as.map (zcv adr)).toArray s 0 0 (zA adr))) (s_rets C B.returns B.notSynchronized) (s_calls C IH) (s_rules C) ls s.heap [] hN hl2 hP va_S.rf
