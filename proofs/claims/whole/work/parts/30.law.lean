/-! the law: its loop over the small machine -/
def zScr (xs : Nat → Int32) (SL : Nat) (cc : ByteArray) (P : zP) : Prop := (∀ (a a1 : Int) (pc : Nat) (L : List (Option Value)) (st : List Value) (M : zM), decode cc pc = .ok (.iaload, 1) → zw a = a1 → 0 ≤ a1 → a1 < (SL : Int) → P (pc + 1) L (zI (xs a1.toNat).toInt :: st) M → P pc L (zI a :: .ref 3 :: st) M) ∧ (∀ (pc : Nat) (L : List (Option Value)) (st : List Value) (M : zM), decode cc pc = .ok (.arraylength, 1) → P (pc + 1) L (zI (SL : Int) :: st) M → P pc L (.ref 3 :: st) M)
def zRetL (cc : ByteArray) (P : zP) : Prop := ∀ (a : Int) (pc : Nat) (L : List (Option Value)) (M : zM), decode cc pc = .ok (.ireturn, 1) → zw a = 1 → P pc L [zI a] M
def wpL (E : zE) (xs : Nat → Int32) (SL : Nat) (cc : ByteArray) : zP := fun pc L st M => ∀ P : zP, zRetL cc P → zCalls E 12 cc P → zRules 12 cc P → zScr xs SL cc P → P pc L st M
theorem zw_xs (x : Int32) : zw x.toInt = x.toInt := by simp only [zw, Int32.ofInt_toInt]
section
variable {E : zE} {xs : Nat → Int32} {SL : Nat} {cc : ByteArray} {pc : Nat} {L : List (Option Value)} {st : List Value} {M : zM}
theorem wl_iconst {n : Int} (hd : decode cc pc = .ok (.iconst n, 1)) (kk : wpL E xs SL cc (pc + 1) (L) (zI n :: st) (M)) : wpL E xs SL cc pc L (st) M := fun P G1 G2 G3 G4 => (G3.1).1 n pc L _ M hd (kk P G1 G2 G3 G4)
theorem wl_bipush {n : Int} (hd : decode cc pc = .ok (.bipush n, 2)) (hv : (Int8.ofInt n).toInt32 = Int32.ofInt n) (kk : wpL E xs SL cc (pc + 2) (L) (zI n :: st) (M)) : wpL E xs SL cc pc L (st) M := fun P G1 G2 G3 G4 => (G3.1).2.1 n pc L _ M hd hv (kk P G1 G2 G3 G4)
theorem wl_ldc2 {i : Nat} {n : Int} (hd : decode cc pc = .ok (.ldc2_w i, 3)) (hw : Cond.constantLong (zR 12) i (Int64.ofInt n) ∈ zTB) (kk : wpL E xs SL cc (pc + 3) (L) (zJ n :: st) (M)) : wpL E xs SL cc pc L (st) M := fun P G1 G2 G3 G4 => (G3.1).2.2.2.2.2.1 i n pc L _ M hd hw (kk P G1 G2 G3 G4)
theorem wl_iload_n {k : Fin 4} {a : Int} (hd : decode cc pc = .ok (.iload_n k, 1)) (hl : L[(k : Nat)]? = some (some (zI a))) (kk : wpL E xs SL cc (pc + 1) (L) (zI a :: st) (M)) : wpL E xs SL cc pc L (st) M := fun P G1 G2 G3 G4 => (G3.1).2.2.2.2.2.2.2.1 k a pc L _ M hd hl (kk P G1 G2 G3 G4)
theorem wl_aload_n {k : Fin 4} {a : Nat} (hd : decode cc pc = .ok (.aload_n k, 1)) (hl : L[(k : Nat)]? = some (some (.ref a))) (kk : wpL E xs SL cc (pc + 1) (L) (.ref a :: st) (M)) : wpL E xs SL cc pc L (st) M := fun P G1 G2 G3 G4 => (G3.2.1).2.1 k a pc L _ M hd hl (kk P G1 G2 G3 G4)
theorem wl_iinc {i : Nat} {n a : Int} (hd : decode cc pc = .ok (.iinc i n, 3)) (hl : L[i]? = some (some (zI a))) (hp : zpl L i = true) (kk : wpL E xs SL cc (pc + 3) (L.set i (some (zI (a + n)))) (st) (M)) : wpL E xs SL cc pc L (st) M := fun P G1 G2 G3 G4 => (G3.2.1).2.2.2.2.2.2.1 i n a pc L _ M hd hl hp (kk P G1 G2 G3 G4)
theorem wl_iadd {a b : Int} (hd : decode cc pc = .ok (.iadd, 1)) (kk : wpL E xs SL cc (pc + 1) (L) (zI (a + b) :: st) (M)) : wpL E xs SL cc pc L (zI b :: zI a :: st) M := fun P G1 G2 G3 G4 => (G3.2.2.1).1 a b pc L _ M hd (kk P G1 G2 G3 G4)
theorem wl_isub {a b : Int} (hd : decode cc pc = .ok (.isub, 1)) (kk : wpL E xs SL cc (pc + 1) (L) (zI (a - b) :: st) (M)) : wpL E xs SL cc pc L (zI b :: zI a :: st) M := fun P G1 G2 G3 G4 => (G3.2.2.1).2.1 a b pc L _ M hd (kk P G1 G2 G3 G4)
theorem wl_iand {a b : Int} (hd : decode cc pc = .ok (.iand, 1)) (kk : wpL E xs SL cc (pc + 1) (L) (zI (z_and a b) :: st) (M)) : wpL E xs SL cc pc L (zI b :: zI a :: st) M := fun P G1 G2 G3 G4 => (G3.2.2.1).2.2.2.2.2.2.1 a b pc L _ M hd (kk P G1 G2 G3 G4)
theorem wl_land {a b : Int} (hd : decode cc pc = .ok (.land, 1)) (kk : wpL E xs SL cc (pc + 1) (L) (zJ (z_land a b) :: st) (M)) : wpL E xs SL cc pc L (zJ b :: zJ a :: st) M := fun P G1 G2 G3 G4 => (G3.2.2.2.1).2.1 a b pc L _ M hd (kk P G1 G2 G3 G4)
theorem wl_lor {a b : Int} (hd : decode cc pc = .ok (.lor, 1)) (kk : wpL E xs SL cc (pc + 1) (L) (zJ (z_lor a b) :: st) (M)) : wpL E xs SL cc pc L (zJ b :: zJ a :: st) M := fun P G1 G2 G3 G4 => (G3.2.2.2.1).2.2.1 a b pc L _ M hd (kk P G1 G2 G3 G4)
theorem wl_lshl {a b : Int} (hd : decode cc pc = .ok (.lshl, 1)) (kk : wpL E xs SL cc (pc + 1) (L) (zJ (z_lshl a b) :: st) (M)) : wpL E xs SL cc pc L (zI b :: zJ a :: st) M := fun P G1 G2 G3 G4 => (G3.2.2.2.1).2.2.2.1 a b pc L _ M hd (kk P G1 G2 G3 G4)
theorem wl_lcmp {a b : Int} (hd : decode cc pc = .ok (.lcmp, 1)) (kk : wpL E xs SL cc (pc + 1) (L) (zI (z_lc a b) :: st) (M)) : wpL E xs SL cc pc L (zJ b :: zJ a :: st) M := fun P G1 G2 G3 G4 => (G3.2.2.2.1).2.2.2.2.1 a b pc L _ M hd (kk P G1 G2 G3 G4)
theorem wl_i2l {a : Int} (hd : decode cc pc = .ok (.i2l, 1)) (kk : wpL E xs SL cc (pc + 1) (L) (zJ (zw a) :: st) (M)) : wpL E xs SL cc pc L (zI a :: st) M := fun P G1 G2 G3 G4 => (G3.2.2.2.1).2.2.2.2.2.1 a pc L _ M hd (kk P G1 G2 G3 G4)
theorem wl_goto {off : Int} {tgt : Nat} (hd : decode cc pc = .ok (.goto off, 3)) (ht : (pc : Int) + off = (tgt : Int)) (kk : wpL E xs SL cc (tgt) (L) (st) (M)) : wpL E xs SL cc pc L (st) M := fun P G1 G2 G3 G4 => (G3.2.2.2.1).2.2.2.2.2.2.2.2.2.1 off tgt pc L _ M hd ht (kk P G1 G2 G3 G4)
theorem wl_if_eq {a a1 : Int} {off : Int} {tgt : Nat} (hd : decode cc pc = .ok (.ifCond .eq off, 3)) (ht : (pc : Int) + off = (tgt : Int)) (ha : zw a = a1) (kt : ((a1 = 0) → wpL E xs SL cc (tgt) (L) (st) (M))) (kf : ((¬ a1 = 0) → wpL E xs SL cc (pc + 3) (L) (st) (M))) : wpL E xs SL cc pc L (zI a :: st) M := fun P G1 G2 G3 G4 => (G3.2.2.2.1).2.2.2.2.2.2.2.2.2.2.1 a a1 off tgt pc L _ M hd ht ha (fun z => kt z P G1 G2 G3 G4) (fun z => kf z P G1 G2 G3 G4)
theorem wl_icmp_eq {a a1 b b1 : Int} {off : Int} {tgt : Nat} (hd : decode cc pc = .ok (.if_icmp .eq off, 3)) (ht : (pc : Int) + off = (tgt : Int)) (ha : zw a = a1) (hb : zw b = b1) (kt : ((a1 = b1) → wpL E xs SL cc (tgt) (L) (st) (M))) (kf : ((¬ a1 = b1) → wpL E xs SL cc (pc + 3) (L) (st) (M))) : wpL E xs SL cc pc L (zI b :: zI a :: st) M := fun P G1 G2 G3 G4 => (G3.2.2.2.1).2.2.2.2.2.2.2.2.2.2.2 a a1 b b1 off tgt pc L _ M hd ht ha hb (fun z => kt z P G1 G2 G3 G4) (fun z => kf z P G1 G2 G3 G4)
theorem wl_icmp_gt {a a1 b b1 : Int} {off : Int} {tgt : Nat} (hd : decode cc pc = .ok (.if_icmp .gt off, 3)) (ht : (pc : Int) + off = (tgt : Int)) (ha : zw a = a1) (hb : zw b = b1) (kt : ((b1 < a1) → wpL E xs SL cc (tgt) (L) (st) (M))) (kf : ((¬ b1 < a1) → wpL E xs SL cc (pc + 3) (L) (st) (M))) : wpL E xs SL cc pc L (zI b :: zI a :: st) M := fun P G1 G2 G3 G4 => (G3.2.2.2.2.1).2.2.2.2.2.2.2.1 a a1 b b1 off tgt pc L _ M hd ht ha hb (fun z => kt z P G1 G2 G3 G4) (fun z => kf z P G1 G2 G3 G4)
theorem wl_tsw {a : Int} {d lo hi : Int} {offs : Array Int} {len : Nat} {tgt : Nat} (hd : decode cc pc = .ok (.tableswitch d lo hi offs, len)) (ht : (pc : Int) + zts d lo hi offs (zw a) = (tgt : Int)) (hn : ¬ (zw a < lo ∨ hi < zw a) → ((zw a - lo).toNat) < offs.size) (kk : wpL E xs SL cc (tgt) (L) (st) (M)) : wpL E xs SL cc pc L (zI a :: st) M := fun P G1 G2 G3 G4 => (G3.2.2.2.2.1).2.2.2.2.2.2.2.2.2.2.1 a d lo hi offs len tgt pc L _ M hd ht hn (kk P G1 G2 G3 G4)
theorem wl_fgt {L2 : List (Option Value)} (hg : zfg L L2) (kk : wpL E xs SL cc (pc) (L2) (st) (M)) : wpL E xs SL cc pc L (st) M := fun P G1 G2 G3 G4 => (G3.2.2.2.2.2.2).2.2.2.2.2.2.2.2.2.2.2 L2 pc L _ M hg (kk P G1 G2 G3 G4)
theorem wl_invVi {i : Nat} {r : zRow} (as : List Value) {Q1 : Int → zM → Prop} {o : Nat} (hd : decode cc pc = .ok (.invokevirtual i, 3)) (hw : Cond.methodLink (zR 12) i r.1 ∈ zTB) (hg : zGood r) (hs : r.2.2.2.2.2.2.1 = false) (hn : as.length = r.2.2.2.2.2.1) (hc : (st.map fun v => v.category).sum ≤ 8) (hr : r.2.2.2.1 = some .int ∨ r.2.2.2.1 = some .boolean) (ho : zob o r.2.2.2.2.1) (k1 : E r (.ref o :: as) M Q1) (kk : ∀ (x : Int) (M2 : zM), Q1 x M2 → wpL E xs SL cc (pc + 3) L (zI x :: st) M2) : wpL E xs SL cc pc L (as.reverse ++ .ref o :: st) M := fun P G1 G2 G3 G4 => G2.2.1 i r as Q1 o pc L st M hd hw hg hs hn hc hr ho k1 (fun x M2 q => kk x M2 q P G1 G2 G3 G4)
theorem wl_invVl {i : Nat} {r : zRow} (as : List Value) {Q1 : Int → zM → Prop} {o : Nat} (hd : decode cc pc = .ok (.invokevirtual i, 3)) (hw : Cond.methodLink (zR 12) i r.1 ∈ zTB) (hg : zGood r) (hs : r.2.2.2.2.2.2.1 = false) (hn : as.length = r.2.2.2.2.2.1) (hc : (st.map fun v => v.category).sum ≤ 8) (hr : r.2.2.2.1 = some .long) (ho : zob o r.2.2.2.2.1) (k1 : E r (.ref o :: as) M Q1) (kk : ∀ (x : Int) (M2 : zM), Q1 x M2 → wpL E xs SL cc (pc + 3) L (zJ x :: st) M2) : wpL E xs SL cc pc L (as.reverse ++ .ref o :: st) M := fun P G1 G2 G3 G4 => G2.2.2.1 i r as Q1 o pc L st M hd hw hg hs hn hc hr ho k1 (fun x M2 q => kk x M2 q P G1 G2 G3 G4)
theorem wl_sld {a a1 : Int} (hd : decode cc pc = .ok (.iaload, 1)) (ha : zw a = a1) (h0 : 0 ≤ a1) (h1 : a1 < (SL : Int)) (kk : wpL E xs SL cc (pc + 1) L (zI (xs a1.toNat).toInt :: st) M) : wpL E xs SL cc pc L (zI a :: .ref 3 :: st) M := fun P G1 G2 G3 G4 => G4.1 a a1 pc L st M hd ha h0 h1 (kk P G1 G2 G3 G4)
theorem wl_slen (hd : decode cc pc = .ok (.arraylength, 1)) (kk : wpL E xs SL cc (pc + 1) L (zI (SL : Int) :: st) M) : wpL E xs SL cc pc L (.ref 3 :: st) M := fun P G1 G2 G3 G4 => G4.2 pc L st M hd (kk P G1 G2 G3 G4)
theorem wl_r1 {a : Int} (hd : decode cc pc = .ok (.ireturn, 1)) (ha : zw a = 1) : wpL E xs SL cc pc L [zI a] M := fun P G1 G2 G3 G4 => G1 a pc L M hd ha
end
set_option maxRecDepth 100000 in
set_option maxHeartbeats 4000000 in
theorem v_L_law_18 {E : zE} {xs : Nat → Int32} {SL : Nat} {M : zM} (v3 : Int)  (h : (zw ((SL : Int) - 6) < zw v3 → True) ∧ (¬ zw ((SL : Int) - 6) < zw v3 → ((0 ≤ zw v3) ∧ ((zw v3 < (SL : Int)) ∧ ((zw (z_and ((xs (zw v3).toNat).toInt) 63) = 0 → ((0 ≤ zw (v3 + 1)) ∧ ((zw (v3 + 1) < (SL : Int)) ∧ ((0 ≤ zw (v3 + 2)) ∧ ((zw (v3 + 2) < (SL : Int)) ∧ (E mX7_person [.ref 64, zI ((xs (zw (v3 + 1)).toNat).toInt), zI ((xs (zw (v3 + 2)).toNat).toInt)] M (fun r7 M8 => (0 ≤ zw (v3 + 1)) ∧ ((zw (v3 + 1) < (SL : Int)) ∧ ((0 ≤ zw (v3 + 2)) ∧ ((zw (v3 + 2) < (SL : Int)) ∧ (E mX8_person [.ref 1280, zI ((xs (zw (v3 + 1)).toNat).toInt), zI ((xs (zw (v3 + 2)).toNat).toInt)] M8 (fun r13 M14 => (zw r7 = zw r13 → (wpL E xs SL cL_law 18 [some (.ref 3), some (.ref 64), some (.ref 1280), some (zI (v3 + 6))] [] M14)) ∧ (¬ zw r7 = zw r13 → False))))))))))))) ∧ (zw (z_and ((xs (zw v3).toNat).toInt) 63) = 1 → ((0 ≤ zw (v3 + 1)) ∧ ((zw (v3 + 1) < (SL : Int)) ∧ ((0 ≤ zw (v3 + 2)) ∧ ((zw (v3 + 2) < (SL : Int)) ∧ ((0 ≤ zw (v3 + 3)) ∧ ((zw (v3 + 3) < (SL : Int)) ∧ (E mX7_people [.ref 64, zI ((xs (zw (v3 + 1)).toNat).toInt), zI ((xs (zw (v3 + 2)).toNat).toInt), zI ((xs (zw (v3 + 3)).toNat).toInt)] M (fun r21 M22 => (0 ≤ zw (v3 + 1)) ∧ ((zw (v3 + 1) < (SL : Int)) ∧ ((0 ≤ zw (v3 + 2)) ∧ ((zw (v3 + 2) < (SL : Int)) ∧ ((0 ≤ zw (v3 + 3)) ∧ ((zw (v3 + 3) < (SL : Int)) ∧ (E mX8_people [.ref 1280, zI ((xs (zw (v3 + 1)).toNat).toInt), zI ((xs (zw (v3 + 2)).toNat).toInt), zI ((xs (zw (v3 + 3)).toNat).toInt)] M22 (fun r29 M30 => (zw r21 = zw r29 → (wpL E xs SL cL_law 18 [some (.ref 3), some (.ref 64), some (.ref 1280), some (zI (v3 + 6))] [] M30)) ∧ (¬ zw r21 = zw r29 → False))))))))))))))))) ∧ (zw (z_and ((xs (zw v3).toNat).toInt) 63) = 2 → ((0 ≤ zw (v3 + 1)) ∧ ((zw (v3 + 1) < (SL : Int)) ∧ ((0 ≤ zw (v3 + 2)) ∧ ((zw (v3 + 2) < (SL : Int)) ∧ (E mX7_meet [.ref 64, zI ((xs (zw (v3 + 1)).toNat).toInt), zI ((xs (zw (v3 + 2)).toNat).toInt)] M (fun r35 M36 => (0 ≤ zw (v3 + 1)) ∧ ((zw (v3 + 1) < (SL : Int)) ∧ ((0 ≤ zw (v3 + 2)) ∧ ((zw (v3 + 2) < (SL : Int)) ∧ (E mX8_meet [.ref 1280, zI ((xs (zw (v3 + 1)).toNat).toInt), zI ((xs (zw (v3 + 2)).toNat).toInt)] M36 (fun r41 M42 => (zw r35 = zw r41 → (wpL E xs SL cL_law 18 [some (.ref 3), some (.ref 64), some (.ref 1280), some (zI (v3 + 6))] [] M42)) ∧ (¬ zw r35 = zw r41 → False))))))))))))) ∧ (zw (z_and ((xs (zw v3).toNat).toInt) 63) = 3 → ((0 ≤ zw (v3 + 1)) ∧ ((zw (v3 + 1) < (SL : Int)) ∧ (E mX7_hearing [.ref 64, zI ((xs (zw (v3 + 1)).toNat).toInt)] M (fun r45 M46 => (0 ≤ zw (v3 + 1)) ∧ ((zw (v3 + 1) < (SL : Int)) ∧ (E mX8_hearing [.ref 1280, zI ((xs (zw (v3 + 1)).toNat).toInt)] M46 (fun r49 M50 => (zw r45 = zw r49 → (wpL E xs SL cL_law 18 [some (.ref 3), some (.ref 64), some (.ref 1280), some (zI (v3 + 6))] [] M50)) ∧ (¬ zw r45 = zw r49 → False))))))))) ∧ (zw (z_and ((xs (zw v3).toNat).toInt) 63) = 4 → ((0 ≤ zw (v3 + 1)) ∧ ((zw (v3 + 1) < (SL : Int)) ∧ ((0 ≤ zw (v3 + 2)) ∧ ((zw (v3 + 2) < (SL : Int)) ∧ (E mX7_name [.ref 64, zI ((xs (zw (v3 + 1)).toNat).toInt), zI ((xs (zw (v3 + 2)).toNat).toInt)] M (fun r55 M56 => (0 ≤ zw (v3 + 1)) ∧ ((zw (v3 + 1) < (SL : Int)) ∧ ((0 ≤ zw (v3 + 2)) ∧ ((zw (v3 + 2) < (SL : Int)) ∧ (E mX8_name [.ref 1280, zI ((xs (zw (v3 + 1)).toNat).toInt), zI ((xs (zw (v3 + 2)).toNat).toInt)] M56 (fun r61 M62 => (zw r55 = zw r61 → (wpL E xs SL cL_law 18 [some (.ref 3), some (.ref 64), some (.ref 1280), some (zI (v3 + 6))] [] M62)) ∧ (¬ zw r55 = zw r61 → False))))))))))))) ∧ (zw (z_and ((xs (zw v3).toNat).toInt) 63) = 5 → ((0 ≤ zw (v3 + 1)) ∧ ((zw (v3 + 1) < (SL : Int)) ∧ ((0 ≤ zw (v3 + 2)) ∧ ((zw (v3 + 2) < (SL : Int)) ∧ (E mX7_fame [.ref 64, zI ((xs (zw (v3 + 1)).toNat).toInt), zI ((xs (zw (v3 + 2)).toNat).toInt)] M (fun r67 M68 => (0 ≤ zw (v3 + 1)) ∧ ((zw (v3 + 1) < (SL : Int)) ∧ ((0 ≤ zw (v3 + 2)) ∧ ((zw (v3 + 2) < (SL : Int)) ∧ (E mX8_fame [.ref 1280, zI ((xs (zw (v3 + 1)).toNat).toInt), zI ((xs (zw (v3 + 2)).toNat).toInt)] M68 (fun r73 M74 => (zw r67 = zw r73 → (wpL E xs SL cL_law 18 [some (.ref 3), some (.ref 64), some (.ref 1280), some (zI (v3 + 6))] [] M74)) ∧ (¬ zw r67 = zw r73 → False))))))))))))) ∧ (zw (z_and ((xs (zw v3).toNat).toInt) 63) = 6 → ((0 ≤ zw (v3 + 1)) ∧ ((zw (v3 + 1) < (SL : Int)) ∧ ((0 ≤ zw (v3 + 2)) ∧ ((zw (v3 + 2) < (SL : Int)) ∧ ((0 ≤ zw (v3 + 3)) ∧ ((zw (v3 + 3) < (SL : Int)) ∧ (E mX7_mend [.ref 64, zI ((xs (zw (v3 + 1)).toNat).toInt), zI ((xs (zw (v3 + 2)).toNat).toInt), zI ((xs (zw (v3 + 3)).toNat).toInt)] M (fun r81 M82 => (0 ≤ zw (v3 + 1)) ∧ ((zw (v3 + 1) < (SL : Int)) ∧ ((0 ≤ zw (v3 + 2)) ∧ ((zw (v3 + 2) < (SL : Int)) ∧ ((0 ≤ zw (v3 + 3)) ∧ ((zw (v3 + 3) < (SL : Int)) ∧ (E mX8_mend [.ref 1280, zI ((xs (zw (v3 + 1)).toNat).toInt), zI ((xs (zw (v3 + 2)).toNat).toInt), zI ((xs (zw (v3 + 3)).toNat).toInt)] M82 (fun r89 M90 => (zw r81 = zw r89 → (wpL E xs SL cL_law 18 [some (.ref 3), some (.ref 64), some (.ref 1280), some (zI (v3 + 6))] [] M90)) ∧ (¬ zw r81 = zw r89 → False))))))))))))))))) ∧ (zw (z_and ((xs (zw v3).toNat).toInt) 63) = 7 → ((0 ≤ zw (v3 + 1)) ∧ ((zw (v3 + 1) < (SL : Int)) ∧ ((0 ≤ zw (v3 + 2)) ∧ ((zw (v3 + 2) < (SL : Int)) ∧ (E mX7_of [.ref 64, zI ((xs (zw (v3 + 1)).toNat).toInt), zI ((xs (zw (v3 + 2)).toNat).toInt)] M (fun r95 M96 => (0 ≤ zw (v3 + 1)) ∧ ((zw (v3 + 1) < (SL : Int)) ∧ ((0 ≤ zw (v3 + 2)) ∧ ((zw (v3 + 2) < (SL : Int)) ∧ (E mX8_of [.ref 1280, zI ((xs (zw (v3 + 1)).toNat).toInt), zI ((xs (zw (v3 + 2)).toNat).toInt)] M96 (fun r101 M102 => (zw r95 = zw r101 → (wpL E xs SL cL_law 18 [some (.ref 3), some (.ref 64), some (.ref 1280), some (zI (v3 + 6))] [] M102)) ∧ (¬ zw r95 = zw r101 → False))))))))))))) ∧ (zw (z_and ((xs (zw v3).toNat).toInt) 63) = 8 → ((0 ≤ zw (v3 + 1)) ∧ ((zw (v3 + 1) < (SL : Int)) ∧ (E mX7_feed [.ref 64, zI ((xs (zw (v3 + 1)).toNat).toInt)] M (fun r105 M106 => (0 ≤ zw (v3 + 1)) ∧ ((zw (v3 + 1) < (SL : Int)) ∧ (E mX8_feed [.ref 1280, zI ((xs (zw (v3 + 1)).toNat).toInt)] M106 (fun r109 M110 => (zw r105 = zw r109 → (wpL E xs SL cL_law 18 [some (.ref 3), some (.ref 64), some (.ref 1280), some (zI (v3 + 6))] [] M110)) ∧ (¬ zw r105 = zw r109 → False))))))))) ∧ (zw (z_and ((xs (zw v3).toNat).toInt) 63) = 9 → (E mX7_law [.ref 64] M (fun r111 M112 => E mX8_law [.ref 1280] M112 (fun r113 M114 => (zw r111 = zw r113 → (wpL E xs SL cL_law 18 [some (.ref 3), some (.ref 64), some (.ref 1280), some (zI (v3 + 6))] [] M114)) ∧ (¬ zw r111 = zw r113 → False))))) ∧ (zw (z_and ((xs (zw v3).toNat).toInt) 63) = 10 → ((0 ≤ zw (v3 + 1)) ∧ ((zw (v3 + 1) < (SL : Int)) ∧ ((0 ≤ zw (v3 + 2)) ∧ ((zw (v3 + 2) < (SL : Int)) ∧ (E mX7_knows [.ref 64, zI ((xs (zw (v3 + 1)).toNat).toInt), zI ((xs (zw (v3 + 2)).toNat).toInt)] M (fun r119 M120 => (0 ≤ zw (v3 + 1)) ∧ ((zw (v3 + 1) < (SL : Int)) ∧ ((0 ≤ zw (v3 + 2)) ∧ ((zw (v3 + 2) < (SL : Int)) ∧ (E mX8_knows [.ref 1280, zI ((xs (zw (v3 + 1)).toNat).toInt), zI ((xs (zw (v3 + 2)).toNat).toInt)] M120 (fun r125 M126 => (zw r119 = zw r125 → (wpL E xs SL cL_law 18 [some (.ref 3), some (.ref 64), some (.ref 1280), some (zI (v3 + 6))] [] M126)) ∧ (¬ zw r119 = zw r125 → False))))))))))))) ∧ (zw (z_and ((xs (zw v3).toNat).toInt) 63) = 11 → ((0 ≤ zw (v3 + 1)) ∧ ((zw (v3 + 1) < (SL : Int)) ∧ ((0 ≤ zw (v3 + 2)) ∧ ((zw (v3 + 2) < (SL : Int)) ∧ ((0 ≤ zw (v3 + 3)) ∧ ((zw (v3 + 3) < (SL : Int)) ∧ (E mX7_held [.ref 64, zI ((xs (zw (v3 + 1)).toNat).toInt), zI ((xs (zw (v3 + 2)).toNat).toInt), zI ((xs (zw (v3 + 3)).toNat).toInt)] M (fun r133 M134 => (0 ≤ zw (v3 + 1)) ∧ ((zw (v3 + 1) < (SL : Int)) ∧ ((0 ≤ zw (v3 + 2)) ∧ ((zw (v3 + 2) < (SL : Int)) ∧ ((0 ≤ zw (v3 + 3)) ∧ ((zw (v3 + 3) < (SL : Int)) ∧ (E mX8_held [.ref 1280, zI ((xs (zw (v3 + 1)).toNat).toInt), zI ((xs (zw (v3 + 2)).toNat).toInt), zI ((xs (zw (v3 + 3)).toNat).toInt)] M134 (fun r141 M142 => (zw r133 = zw r141 → (wpL E xs SL cL_law 18 [some (.ref 3), some (.ref 64), some (.ref 1280), some (zI (v3 + 6))] [] M142)) ∧ (¬ zw r133 = zw r141 → False))))))))))))))))) ∧ (zw (z_and ((xs (zw v3).toNat).toInt) 63) = 12 → ((0 ≤ zw (v3 + 1)) ∧ ((zw (v3 + 1) < (SL : Int)) ∧ (E mX7_free [.ref 64, zI ((xs (zw (v3 + 1)).toNat).toInt)] M (fun r145 M146 => (0 ≤ zw (v3 + 1)) ∧ ((zw (v3 + 1) < (SL : Int)) ∧ (E mX8_free [.ref 1280, zI ((xs (zw (v3 + 1)).toNat).toInt)] M146 (fun r149 M150 => (zw r145 = zw r149 → (wpL E xs SL cL_law 18 [some (.ref 3), some (.ref 64), some (.ref 1280), some (zI (v3 + 6))] [] M150)) ∧ (¬ zw r145 = zw r149 → False))))))))) ∧ (zw (z_and ((xs (zw v3).toNat).toInt) 63) = 13 → ((0 ≤ zw (v3 + 1)) ∧ ((zw (v3 + 1) < (SL : Int)) ∧ (E mX7_most [.ref 64, zI ((xs (zw (v3 + 1)).toNat).toInt)] M (fun r153 M154 => (0 ≤ zw (v3 + 1)) ∧ ((zw (v3 + 1) < (SL : Int)) ∧ (E mX8_most [.ref 1280, zI ((xs (zw (v3 + 1)).toNat).toInt)] M154 (fun r157 M158 => (zw r153 = zw r157 → (wpL E xs SL cL_law 18 [some (.ref 3), some (.ref 64), some (.ref 1280), some (zI (v3 + 6))] [] M158)) ∧ (¬ zw r153 = zw r157 → False))))))))) ∧ (zw (z_and ((xs (zw v3).toNat).toInt) 63) = 14 → (E mX7_judge [.ref 64] M (fun r159 M160 => E mX8_judge [.ref 1280] M160 (fun r161 M162 => (zw r159 = zw r161 → (wpL E xs SL cL_law 18 [some (.ref 3), some (.ref 64), some (.ref 1280), some (zI (v3 + 6))] [] M162)) ∧ (¬ zw r159 = zw r161 → False))))) ∧ (zw (z_and ((xs (zw v3).toNat).toInt) 63) = 15 → ((0 ≤ zw (v3 + 1)) ∧ ((zw (v3 + 1) < (SL : Int)) ∧ ((0 ≤ zw (v3 + 2)) ∧ ((zw (v3 + 2) < (SL : Int)) ∧ (E mX7_give [.ref 64, zI ((xs (zw (v3 + 1)).toNat).toInt), zI ((xs (zw (v3 + 2)).toNat).toInt)] M (fun r167 M168 => (0 ≤ zw (v3 + 1)) ∧ ((zw (v3 + 1) < (SL : Int)) ∧ ((0 ≤ zw (v3 + 2)) ∧ ((zw (v3 + 2) < (SL : Int)) ∧ (E mX8_give [.ref 1280, zI ((xs (zw (v3 + 1)).toNat).toInt), zI ((xs (zw (v3 + 2)).toNat).toInt)] M168 (fun r173 M174 => (zw r167 = zw r173 → (wpL E xs SL cL_law 18 [some (.ref 3), some (.ref 64), some (.ref 1280), some (zI (v3 + 6))] [] M174)) ∧ (¬ zw r167 = zw r173 → False))))))))))))) ∧ (zw (z_and ((xs (zw v3).toNat).toInt) 63) = 16 → ((0 ≤ zw (v3 + 1)) ∧ ((zw (v3 + 1) < (SL : Int)) ∧ ((0 ≤ zw (v3 + 2)) ∧ ((zw (v3 + 2) < (SL : Int)) ∧ (E mX7_run [.ref 64, zI ((xs (zw (v3 + 1)).toNat).toInt), zI ((xs (zw (v3 + 2)).toNat).toInt)] M (fun r179 M180 => (0 ≤ zw (v3 + 1)) ∧ ((zw (v3 + 1) < (SL : Int)) ∧ ((0 ≤ zw (v3 + 2)) ∧ ((zw (v3 + 2) < (SL : Int)) ∧ (E mX8_run [.ref 1280, zI ((xs (zw (v3 + 1)).toNat).toInt), zI ((xs (zw (v3 + 2)).toNat).toInt)] M180 (fun r185 M186 => (zw r179 = zw r185 → (wpL E xs SL cL_law 18 [some (.ref 3), some (.ref 64), some (.ref 1280), some (zI (v3 + 6))] [] M186)) ∧ (¬ zw r179 = zw r185 → False))))))))))))) ∧ (zw (z_and ((xs (zw v3).toNat).toInt) 63) = 17 → ((0 ≤ zw (v3 + 1)) ∧ ((zw (v3 + 1) < (SL : Int)) ∧ ((0 ≤ zw (v3 + 2)) ∧ ((zw (v3 + 2) < (SL : Int)) ∧ (E mX7_used [.ref 64, zI ((xs (zw (v3 + 1)).toNat).toInt), zI ((xs (zw (v3 + 2)).toNat).toInt)] M (fun r191 M192 => (0 ≤ zw (v3 + 1)) ∧ ((zw (v3 + 1) < (SL : Int)) ∧ ((0 ≤ zw (v3 + 2)) ∧ ((zw (v3 + 2) < (SL : Int)) ∧ (E mX8_used [.ref 1280, zI ((xs (zw (v3 + 1)).toNat).toInt), zI ((xs (zw (v3 + 2)).toNat).toInt)] M192 (fun r197 M198 => (zw r191 = zw r197 → (wpL E xs SL cL_law 18 [some (.ref 3), some (.ref 64), some (.ref 1280), some (zI (v3 + 6))] [] M198)) ∧ (¬ zw r191 = zw r197 → False))))))))))))) ∧ (zw (z_and ((xs (zw v3).toNat).toInt) 63) = 18 → ((0 ≤ zw (v3 + 1)) ∧ ((zw (v3 + 1) < (SL : Int)) ∧ ((0 ≤ zw (v3 + 2)) ∧ ((zw (v3 + 2) < (SL : Int)) ∧ (E mX7_apart [.ref 64, zI ((xs (zw (v3 + 1)).toNat).toInt), zI ((xs (zw (v3 + 2)).toNat).toInt)] M (fun r203 M204 => (0 ≤ zw (v3 + 1)) ∧ ((zw (v3 + 1) < (SL : Int)) ∧ ((0 ≤ zw (v3 + 2)) ∧ ((zw (v3 + 2) < (SL : Int)) ∧ (E mX8_apart [.ref 1280, zI ((xs (zw (v3 + 1)).toNat).toInt), zI ((xs (zw (v3 + 2)).toNat).toInt)] M204 (fun r209 M210 => (zw r203 = zw r209 → (wpL E xs SL cL_law 18 [some (.ref 3), some (.ref 64), some (.ref 1280), some (zI (v3 + 6))] [] M210)) ∧ (¬ zw r203 = zw r209 → False))))))))))))) ∧ (zw (z_and ((xs (zw v3).toNat).toInt) 63) = 19 → ((0 ≤ zw (v3 + 1)) ∧ ((zw (v3 + 1) < (SL : Int)) ∧ ((0 ≤ zw (v3 + 2)) ∧ ((zw (v3 + 2) < (SL : Int)) ∧ (E mX7_freed [.ref 64, zI ((xs (zw (v3 + 1)).toNat).toInt), zI ((xs (zw (v3 + 2)).toNat).toInt)] M (fun r215 M216 => (0 ≤ zw (v3 + 1)) ∧ ((zw (v3 + 1) < (SL : Int)) ∧ ((0 ≤ zw (v3 + 2)) ∧ ((zw (v3 + 2) < (SL : Int)) ∧ (E mX8_freed [.ref 1280, zI ((xs (zw (v3 + 1)).toNat).toInt), zI ((xs (zw (v3 + 2)).toNat).toInt)] M216 (fun r221 M222 => (zw r215 = zw r221 → (wpL E xs SL cL_law 18 [some (.ref 3), some (.ref 64), some (.ref 1280), some (zI (v3 + 6))] [] M222)) ∧ (¬ zw r215 = zw r221 → False))))))))))))) ∧ (zw (z_and ((xs (zw v3).toNat).toInt) 63) = 20 → ((0 ≤ zw (v3 + 1)) ∧ ((zw (v3 + 1) < (SL : Int)) ∧ (E mX7_never [.ref 64, zI ((xs (zw (v3 + 1)).toNat).toInt)] M (fun r225 M226 => (0 ≤ zw (v3 + 1)) ∧ ((zw (v3 + 1) < (SL : Int)) ∧ (E mX8_never [.ref 1280, zI ((xs (zw (v3 + 1)).toNat).toInt)] M226 (fun r229 M230 => (zw r225 = zw r229 → (wpL E xs SL cL_law 18 [some (.ref 3), some (.ref 64), some (.ref 1280), some (zI (v3 + 6))] [] M230)) ∧ (¬ zw r225 = zw r229 → False))))))))) ∧ (zw (z_and ((xs (zw v3).toNat).toInt) 63) = 21 → ((0 ≤ zw (v3 + 1)) ∧ ((zw (v3 + 1) < (SL : Int)) ∧ ((0 ≤ zw (v3 + 2)) ∧ ((zw (v3 + 2) < (SL : Int)) ∧ ((0 ≤ zw (v3 + 3)) ∧ ((zw (v3 + 3) < (SL : Int)) ∧ (E mX7_needs [.ref 64, zI ((xs (zw (v3 + 1)).toNat).toInt), zI ((xs (zw (v3 + 2)).toNat).toInt), zI ((xs (zw (v3 + 3)).toNat).toInt)] M (fun r237 M238 => (0 ≤ zw (v3 + 1)) ∧ ((zw (v3 + 1) < (SL : Int)) ∧ ((0 ≤ zw (v3 + 2)) ∧ ((zw (v3 + 2) < (SL : Int)) ∧ ((0 ≤ zw (v3 + 3)) ∧ ((zw (v3 + 3) < (SL : Int)) ∧ (E mX8_needs [.ref 1280, zI ((xs (zw (v3 + 1)).toNat).toInt), zI ((xs (zw (v3 + 2)).toNat).toInt), zI ((xs (zw (v3 + 3)).toNat).toInt)] M238 (fun r245 M246 => (zw r237 = zw r245 → (wpL E xs SL cL_law 18 [some (.ref 3), some (.ref 64), some (.ref 1280), some (zI (v3 + 6))] [] M246)) ∧ (¬ zw r237 = zw r245 → False))))))))))))))))) ∧ (zw (z_and ((xs (zw v3).toNat).toInt) 63) = 22 → (E mX7_image [.ref 64] M (fun r247 M248 => E mX8_image [.ref 1280] M248 (fun r249 M250 => (zw r247 = zw r249 → (wpL E xs SL cL_law 18 [some (.ref 3), some (.ref 64), some (.ref 1280), some (zI (v3 + 6))] [] M250)) ∧ (¬ zw r247 = zw r249 → False))))) ∧ (zw (z_and ((xs (zw v3).toNat).toInt) 63) = 23 → (E mX7_back [.ref 64] M (fun r251 M252 => E mX8_back [.ref 1280] M252 (fun r253 M254 => (zw r251 = zw r253 → (wpL E xs SL cL_law 18 [some (.ref 3), some (.ref 64), some (.ref 1280), some (zI (v3 + 6))] [] M254)) ∧ (¬ zw r251 = zw r253 → False))))) ∧ (zw (z_and ((xs (zw v3).toNat).toInt) 63) = 24 → (E mX7_undo [.ref 64] M (fun r255 M256 => E mX8_undo [.ref 1280] M256 (fun r257 M258 => (zw r255 = zw r257 → (wpL E xs SL cL_law 18 [some (.ref 3), some (.ref 64), some (.ref 1280), some (zI (v3 + 6))] [] M258)) ∧ (¬ zw r255 = zw r257 → False))))) ∧ (zw (z_and ((xs (zw v3).toNat).toInt) 63) = 25 → (E mX7_redo [.ref 64] M (fun r259 M260 => E mX8_redo [.ref 1280] M260 (fun r261 M262 => (zw r259 = zw r261 → (wpL E xs SL cL_law 18 [some (.ref 3), some (.ref 64), some (.ref 1280), some (zI (v3 + 6))] [] M262)) ∧ (¬ zw r259 = zw r261 → False))))) ∧ (zw (z_and ((xs (zw v3).toNat).toInt) 63) = 26 → ((0 ≤ zw (v3 + 1)) ∧ ((zw (v3 + 1) < (SL : Int)) ∧ (E mX7_body [.ref 64, zI ((xs (zw (v3 + 1)).toNat).toInt)] M (fun r265 M266 => (0 ≤ zw (v3 + 1)) ∧ ((zw (v3 + 1) < (SL : Int)) ∧ (E mX8_body [.ref 1280, zI ((xs (zw (v3 + 1)).toNat).toInt)] M266 (fun r269 M270 => (zw r265 = zw r269 → (wpL E xs SL cL_law 18 [some (.ref 3), some (.ref 64), some (.ref 1280), some (zI (v3 + 6))] [] M270)) ∧ (¬ zw r265 = zw r269 → False))))))))) ∧ (zw (z_and ((xs (zw v3).toNat).toInt) 63) = 27 → ((0 ≤ zw (v3 + 1)) ∧ ((zw (v3 + 1) < (SL : Int)) ∧ ((0 ≤ zw (v3 + 2)) ∧ ((zw (v3 + 2) < (SL : Int)) ∧ ((0 ≤ zw (v3 + 3)) ∧ ((zw (v3 + 3) < (SL : Int)) ∧ (E mX7_act [.ref 64, zI ((xs (zw (v3 + 1)).toNat).toInt), zI ((xs (zw (v3 + 2)).toNat).toInt), zI ((xs (zw (v3 + 3)).toNat).toInt)] M (fun r277 M278 => (0 ≤ zw (v3 + 1)) ∧ ((zw (v3 + 1) < (SL : Int)) ∧ ((0 ≤ zw (v3 + 2)) ∧ ((zw (v3 + 2) < (SL : Int)) ∧ ((0 ≤ zw (v3 + 3)) ∧ ((zw (v3 + 3) < (SL : Int)) ∧ (E mX8_act [.ref 1280, zI ((xs (zw (v3 + 1)).toNat).toInt), zI ((xs (zw (v3 + 2)).toNat).toInt), zI ((xs (zw (v3 + 3)).toNat).toInt)] M278 (fun r285 M286 => (zw r277 = zw r285 → (wpL E xs SL cL_law 18 [some (.ref 3), some (.ref 64), some (.ref 1280), some (zI (v3 + 6))] [] M286)) ∧ (¬ zw r277 = zw r285 → False))))))))))))))))) ∧ (zw (z_and ((xs (zw v3).toNat).toInt) 63) = 28 → ((0 ≤ zw (v3 + 1)) ∧ ((zw (v3 + 1) < (SL : Int)) ∧ (E mX7_trace [.ref 64, zI ((xs (zw (v3 + 1)).toNat).toInt)] M (fun r289 M290 => (0 ≤ zw (v3 + 1)) ∧ ((zw (v3 + 1) < (SL : Int)) ∧ (E mX8_trace [.ref 1280, zI ((xs (zw (v3 + 1)).toNat).toInt)] M290 (fun r293 M294 => (zw r289 = zw r293 → (wpL E xs SL cL_law 18 [some (.ref 3), some (.ref 64), some (.ref 1280), some (zI (v3 + 6))] [] M294)) ∧ (¬ zw r289 = zw r293 → False))))))))) ∧ (zw (z_and ((xs (zw v3).toNat).toInt) 63) = 29 → ((0 ≤ zw (v3 + 1)) ∧ ((zw (v3 + 1) < (SL : Int)) ∧ ((0 ≤ zw (v3 + 2)) ∧ ((zw (v3 + 2) < (SL : Int)) ∧ (E mX7_keep [.ref 64, zI ((xs (zw (v3 + 1)).toNat).toInt), zI ((xs (zw (v3 + 2)).toNat).toInt)] M (fun r299 M300 => (0 ≤ zw (v3 + 1)) ∧ ((zw (v3 + 1) < (SL : Int)) ∧ ((0 ≤ zw (v3 + 2)) ∧ ((zw (v3 + 2) < (SL : Int)) ∧ (E mX8_keep [.ref 1280, zI ((xs (zw (v3 + 1)).toNat).toInt), zI ((xs (zw (v3 + 2)).toNat).toInt)] M300 (fun r305 M306 => (zw r299 = zw r305 → (wpL E xs SL cL_law 18 [some (.ref 3), some (.ref 64), some (.ref 1280), some (zI (v3 + 6))] [] M306)) ∧ (¬ zw r299 = zw r305 → False))))))))))))) ∧ (zw (z_and ((xs (zw v3).toNat).toInt) 63) = 30 → ((0 ≤ zw (v3 + 1)) ∧ ((zw (v3 + 1) < (SL : Int)) ∧ ((0 ≤ zw (v3 + 2)) ∧ ((zw (v3 + 2) < (SL : Int)) ∧ ((0 ≤ zw (v3 + 3)) ∧ ((zw (v3 + 3) < (SL : Int)) ∧ (E mX7_row [.ref 64, zI ((xs (zw (v3 + 1)).toNat).toInt), zI ((xs (zw (v3 + 2)).toNat).toInt), zI ((xs (zw (v3 + 3)).toNat).toInt)] M (fun r313 M314 => (0 ≤ zw (v3 + 1)) ∧ ((zw (v3 + 1) < (SL : Int)) ∧ ((0 ≤ zw (v3 + 2)) ∧ ((zw (v3 + 2) < (SL : Int)) ∧ ((0 ≤ zw (v3 + 3)) ∧ ((zw (v3 + 3) < (SL : Int)) ∧ (E mX8_row [.ref 1280, zI ((xs (zw (v3 + 1)).toNat).toInt), zI ((xs (zw (v3 + 2)).toNat).toInt), zI ((xs (zw (v3 + 3)).toNat).toInt)] M314 (fun r321 M322 => (zw r313 = zw r321 → (wpL E xs SL cL_law 18 [some (.ref 3), some (.ref 64), some (.ref 1280), some (zI (v3 + 6))] [] M322)) ∧ (¬ zw r313 = zw r321 → False))))))))))))))))) ∧ (zw (z_and ((xs (zw v3).toNat).toInt) 63) = 31 → ((0 ≤ zw (v3 + 1)) ∧ ((zw (v3 + 1) < (SL : Int)) ∧ ((0 ≤ zw (v3 + 2)) ∧ ((zw (v3 + 2) < (SL : Int)) ∧ ((0 ≤ zw (v3 + 3)) ∧ ((zw (v3 + 3) < (SL : Int)) ∧ ((0 ≤ zw (v3 + 4)) ∧ ((zw (v3 + 4) < (SL : Int)) ∧ (E mX7_put [.ref 64, zI ((xs (zw (v3 + 1)).toNat).toInt), zI ((xs (zw (v3 + 2)).toNat).toInt), zJ (z_lor (z_lshl (zw ((xs (zw (v3 + 3)).toNat).toInt)) 32) (z_land (zw ((xs (zw (v3 + 4)).toNat).toInt)) (4294967295)))] M (fun r331 M332 => (0 ≤ zw (v3 + 1)) ∧ ((zw (v3 + 1) < (SL : Int)) ∧ ((0 ≤ zw (v3 + 2)) ∧ ((zw (v3 + 2) < (SL : Int)) ∧ ((0 ≤ zw (v3 + 3)) ∧ ((zw (v3 + 3) < (SL : Int)) ∧ ((0 ≤ zw (v3 + 4)) ∧ ((zw (v3 + 4) < (SL : Int)) ∧ (E mX8_put [.ref 1280, zI ((xs (zw (v3 + 1)).toNat).toInt), zI ((xs (zw (v3 + 2)).toNat).toInt), zJ (z_lor (z_lshl (zw ((xs (zw (v3 + 3)).toNat).toInt)) 32) (z_land (zw ((xs (zw (v3 + 4)).toNat).toInt)) (4294967295)))] M332 (fun r341 M342 => (zw r331 = zw r341 → (wpL E xs SL cL_law 18 [some (.ref 3), some (.ref 64), some (.ref 1280), some (zI (v3 + 6))] [] M342)) ∧ (¬ zw r331 = zw r341 → False))))))))))))))))))))) ∧ (zw (z_and ((xs (zw v3).toNat).toInt) 63) = 32 → ((0 ≤ zw (v3 + 1)) ∧ ((zw (v3 + 1) < (SL : Int)) ∧ ((0 ≤ zw (v3 + 2)) ∧ ((zw (v3 + 2) < (SL : Int)) ∧ (E mX7_element [.ref 64, zI ((xs (zw (v3 + 1)).toNat).toInt), zI ((xs (zw (v3 + 2)).toNat).toInt)] M (fun r347 M348 => (0 ≤ zw (v3 + 1)) ∧ ((zw (v3 + 1) < (SL : Int)) ∧ ((0 ≤ zw (v3 + 2)) ∧ ((zw (v3 + 2) < (SL : Int)) ∧ (E mX8_element [.ref 1280, zI ((xs (zw (v3 + 1)).toNat).toInt), zI ((xs (zw (v3 + 2)).toNat).toInt)] M348 (fun r353 M354 => (zw (z_lc r347 r353) = 0 → (wpL E xs SL cL_law 18 [some (.ref 3), some (.ref 64), some (.ref 1280), some (zI (v3 + 6))] [] M354)) ∧ (¬ zw (z_lc r347 r353) = 0 → False))))))))))))) ∧ (zw (z_and ((xs (zw v3).toNat).toInt) 63) = 33 → ((0 ≤ zw (v3 + 1)) ∧ ((zw (v3 + 1) < (SL : Int)) ∧ ((0 ≤ zw (v3 + 2)) ∧ ((zw (v3 + 2) < (SL : Int)) ∧ ((0 ≤ zw (v3 + 3)) ∧ ((zw (v3 + 3) < (SL : Int)) ∧ ((0 ≤ zw (v3 + 4)) ∧ ((zw (v3 + 4) < (SL : Int)) ∧ ((0 ≤ zw (v3 + 5)) ∧ ((zw (v3 + 5) < (SL : Int)) ∧ (E mX7_shift [.ref 64, zI ((xs (zw (v3 + 1)).toNat).toInt), zI ((xs (zw (v3 + 2)).toNat).toInt), zI ((xs (zw (v3 + 3)).toNat).toInt), zI ((xs (zw (v3 + 4)).toNat).toInt), zI ((xs (zw (v3 + 5)).toNat).toInt)] M (fun r365 M366 => (0 ≤ zw (v3 + 1)) ∧ ((zw (v3 + 1) < (SL : Int)) ∧ ((0 ≤ zw (v3 + 2)) ∧ ((zw (v3 + 2) < (SL : Int)) ∧ ((0 ≤ zw (v3 + 3)) ∧ ((zw (v3 + 3) < (SL : Int)) ∧ ((0 ≤ zw (v3 + 4)) ∧ ((zw (v3 + 4) < (SL : Int)) ∧ ((0 ≤ zw (v3 + 5)) ∧ ((zw (v3 + 5) < (SL : Int)) ∧ (E mX8_shift [.ref 1280, zI ((xs (zw (v3 + 1)).toNat).toInt), zI ((xs (zw (v3 + 2)).toNat).toInt), zI ((xs (zw (v3 + 3)).toNat).toInt), zI ((xs (zw (v3 + 4)).toNat).toInt), zI ((xs (zw (v3 + 5)).toNat).toInt)] M366 (fun r377 M378 => (zw r365 = zw r377 → (wpL E xs SL cL_law 18 [some (.ref 3), some (.ref 64), some (.ref 1280), some (zI (v3 + 6))] [] M378)) ∧ (¬ zw r365 = zw r377 → False))))))))))))))))))))))))) ∧ (zw (z_and ((xs (zw v3).toNat).toInt) 63) = 34 → ((0 ≤ zw (v3 + 1)) ∧ ((zw (v3 + 1) < (SL : Int)) ∧ ((0 ≤ zw (v3 + 2)) ∧ ((zw (v3 + 2) < (SL : Int)) ∧ (E mX7_taken [.ref 64, zI ((xs (zw (v3 + 1)).toNat).toInt), zI ((xs (zw (v3 + 2)).toNat).toInt)] M (fun r383 M384 => (0 ≤ zw (v3 + 1)) ∧ ((zw (v3 + 1) < (SL : Int)) ∧ ((0 ≤ zw (v3 + 2)) ∧ ((zw (v3 + 2) < (SL : Int)) ∧ (E mX8_taken [.ref 1280, zI ((xs (zw (v3 + 1)).toNat).toInt), zI ((xs (zw (v3 + 2)).toNat).toInt)] M384 (fun r389 M390 => (zw r383 = zw r389 → (wpL E xs SL cL_law 18 [some (.ref 3), some (.ref 64), some (.ref 1280), some (zI (v3 + 6))] [] M390)) ∧ (¬ zw r383 = zw r389 → False))))))))))))) ∧ (zw (z_and ((xs (zw v3).toNat).toInt) 63) = 35 → ((0 ≤ zw (v3 + 1)) ∧ ((zw (v3 + 1) < (SL : Int)) ∧ (E mX7_count [.ref 64, zI ((xs (zw (v3 + 1)).toNat).toInt)] M (fun r393 M394 => (0 ≤ zw (v3 + 1)) ∧ ((zw (v3 + 1) < (SL : Int)) ∧ (E mX8_count [.ref 1280, zI ((xs (zw (v3 + 1)).toNat).toInt)] M394 (fun r397 M398 => (zw r393 = zw r397 → (wpL E xs SL cL_law 18 [some (.ref 3), some (.ref 64), some (.ref 1280), some (zI (v3 + 6))] [] M398)) ∧ (¬ zw r393 = zw r397 → False))))))))) ∧ (¬ zw (z_and ((xs (zw v3).toNat).toInt) 63) = 0 → ¬ zw (z_and ((xs (zw v3).toNat).toInt) 63) = 1 → ¬ zw (z_and ((xs (zw v3).toNat).toInt) 63) = 2 → ¬ zw (z_and ((xs (zw v3).toNat).toInt) 63) = 3 → ¬ zw (z_and ((xs (zw v3).toNat).toInt) 63) = 4 → ¬ zw (z_and ((xs (zw v3).toNat).toInt) 63) = 5 → ¬ zw (z_and ((xs (zw v3).toNat).toInt) 63) = 6 → ¬ zw (z_and ((xs (zw v3).toNat).toInt) 63) = 7 → ¬ zw (z_and ((xs (zw v3).toNat).toInt) 63) = 8 → ¬ zw (z_and ((xs (zw v3).toNat).toInt) 63) = 9 → ¬ zw (z_and ((xs (zw v3).toNat).toInt) 63) = 10 → ¬ zw (z_and ((xs (zw v3).toNat).toInt) 63) = 11 → ¬ zw (z_and ((xs (zw v3).toNat).toInt) 63) = 12 → ¬ zw (z_and ((xs (zw v3).toNat).toInt) 63) = 13 → ¬ zw (z_and ((xs (zw v3).toNat).toInt) 63) = 14 → ¬ zw (z_and ((xs (zw v3).toNat).toInt) 63) = 15 → ¬ zw (z_and ((xs (zw v3).toNat).toInt) 63) = 16 → ¬ zw (z_and ((xs (zw v3).toNat).toInt) 63) = 17 → ¬ zw (z_and ((xs (zw v3).toNat).toInt) 63) = 18 → ¬ zw (z_and ((xs (zw v3).toNat).toInt) 63) = 19 → ¬ zw (z_and ((xs (zw v3).toNat).toInt) 63) = 20 → ¬ zw (z_and ((xs (zw v3).toNat).toInt) 63) = 21 → ¬ zw (z_and ((xs (zw v3).toNat).toInt) 63) = 22 → ¬ zw (z_and ((xs (zw v3).toNat).toInt) 63) = 23 → ¬ zw (z_and ((xs (zw v3).toNat).toInt) 63) = 24 → ¬ zw (z_and ((xs (zw v3).toNat).toInt) 63) = 25 → ¬ zw (z_and ((xs (zw v3).toNat).toInt) 63) = 26 → ¬ zw (z_and ((xs (zw v3).toNat).toInt) 63) = 27 → ¬ zw (z_and ((xs (zw v3).toNat).toInt) 63) = 28 → ¬ zw (z_and ((xs (zw v3).toNat).toInt) 63) = 29 → ¬ zw (z_and ((xs (zw v3).toNat).toInt) 63) = 30 → ¬ zw (z_and ((xs (zw v3).toNat).toInt) 63) = 31 → ¬ zw (z_and ((xs (zw v3).toNat).toInt) 63) = 32 → ¬ zw (z_and ((xs (zw v3).toNat).toInt) 63) = 33 → ¬ zw (z_and ((xs (zw v3).toNat).toInt) 63) = 34 → ¬ zw (z_and ((xs (zw v3).toNat).toInt) 63) = 35 → (wpL E xs SL cL_law 18 [some (.ref 3), some (.ref 64), some (.ref 1280), some (zI (v3 + 6))] [] M))))))) : wpL E xs SL cL_law 18 [some (.ref 3), some (.ref 64), some (.ref 1280), some (zI v3)] [] M := by
  refine wl_iload_n dL_law_18 rfl ?_
  refine wl_aload_n dL_law_19 rfl ?_
  refine wl_slen dL_law_20 ?_
  refine wl_bipush dL_law_21 (by decide) ?_
  refine wl_isub dL_law_23 ?_
  refine wl_icmp_gt (tgt := 1317) dL_law_24 (by decide) rfl rfl (fun q => ?_) (fun q => ?_)
  · have h := h.1 q
    refine wl_iconst dL_law_1317 ?_
    exact wl_r1 dL_law_1318 zq_1
  · have h := h.2 q
    refine wl_aload_n dL_law_27 rfl ?_
    refine wl_iload_n dL_law_28 rfl ?_
    obtain ⟨c1, h⟩ := h
    obtain ⟨c2, h⟩ := h
    refine wl_sld dL_law_29 rfl c1 c2 ?_
    refine wl_bipush dL_law_30 (by decide) ?_
    refine wl_iand dL_law_32 ?_
    by_cases q0 : zw (z_and ((xs (zw v3).toNat).toInt) 63) = 0
    · refine wl_tsw (tgt := 192) dL_law_33 (by rw [q0]; decide) (by rw [q0]; decide) ?_
      have h := h.1 q0
      refine wl_aload_n dL_law_192 rfl ?_
      refine wl_aload_n dL_law_193 rfl ?_
      refine wl_iload_n dL_law_194 rfl ?_
      refine wl_iconst dL_law_195 ?_
      refine wl_iadd dL_law_196 ?_
      obtain ⟨c3, h⟩ := h
      obtain ⟨c4, h⟩ := h
      refine wl_sld dL_law_197 rfl c3 c4 ?_
      refine wl_aload_n dL_law_198 rfl ?_
      refine wl_iload_n dL_law_199 rfl ?_
      refine wl_iconst dL_law_200 ?_
      refine wl_iadd dL_law_201 ?_
      obtain ⟨c5, h⟩ := h
      obtain ⟨c6, h⟩ := h
      refine wl_sld dL_law_202 rfl c5 c6 ?_
      refine wl_invVi [_, _] dL_law_203 l12_13 kX7_person rfl rfl (Nat.le_of_ble_eq_true rfl) (Or.inl rfl) ob_64 h (fun r7 M8 h => ?_)
      refine wl_aload_n dL_law_206 rfl ?_
      refine wl_aload_n dL_law_207 rfl ?_
      refine wl_iload_n dL_law_208 rfl ?_
      refine wl_iconst dL_law_209 ?_
      refine wl_iadd dL_law_210 ?_
      obtain ⟨c9, h⟩ := h
      obtain ⟨c10, h⟩ := h
      refine wl_sld dL_law_211 rfl c9 c10 ?_
      refine wl_aload_n dL_law_212 rfl ?_
      refine wl_iload_n dL_law_213 rfl ?_
      refine wl_iconst dL_law_214 ?_
      refine wl_iadd dL_law_215 ?_
      obtain ⟨c11, h⟩ := h
      obtain ⟨c12, h⟩ := h
      refine wl_sld dL_law_216 rfl c11 c12 ?_
      refine wl_invVi [_, _] dL_law_217 l12_17 kX8_person rfl rfl (Nat.le_of_ble_eq_true rfl) (Or.inl rfl) ob_1280 h (fun r13 M14 h => ?_)
      refine wl_icmp_eq (tgt := 1311) dL_law_220 (by decide) rfl rfl (fun q => ?_) (fun q => ?_)
      · have h := h.1 q
        refine wl_iinc dL_law_1311 rfl rfl ?_
        refine wl_goto (tgt := 18) dL_law_1314 (by decide) ?_
        exact wl_fgt (fgk (fgk (fgk (fgk (fgn))))) h
      · have h := h.2 q
        refine wl_iconst dL_law_223 ?_
        exact h.elim
    · skip
      by_cases q1 : zw (z_and ((xs (zw v3).toNat).toInt) 63) = 1
      · refine wl_tsw (tgt := 225) dL_law_33 (by rw [q1]; decide) (by rw [q1]; decide) ?_
        have h := h.2.1 q1
        refine wl_aload_n dL_law_225 rfl ?_
        refine wl_aload_n dL_law_226 rfl ?_
        refine wl_iload_n dL_law_227 rfl ?_
        refine wl_iconst dL_law_228 ?_
        refine wl_iadd dL_law_229 ?_
        obtain ⟨c15, h⟩ := h
        obtain ⟨c16, h⟩ := h
        refine wl_sld dL_law_230 rfl c15 c16 ?_
        refine wl_aload_n dL_law_231 rfl ?_
        refine wl_iload_n dL_law_232 rfl ?_
        refine wl_iconst dL_law_233 ?_
        refine wl_iadd dL_law_234 ?_
        obtain ⟨c17, h⟩ := h
        obtain ⟨c18, h⟩ := h
        refine wl_sld dL_law_235 rfl c17 c18 ?_
        refine wl_aload_n dL_law_236 rfl ?_
        refine wl_iload_n dL_law_237 rfl ?_
        refine wl_iconst dL_law_238 ?_
        refine wl_iadd dL_law_239 ?_
        obtain ⟨c19, h⟩ := h
        obtain ⟨c20, h⟩ := h
        refine wl_sld dL_law_240 rfl c19 c20 ?_
        refine wl_invVi [_, _, _] dL_law_241 l12_18 kX7_people rfl rfl (Nat.le_of_ble_eq_true rfl) (Or.inl rfl) ob_64 h (fun r21 M22 h => ?_)
        refine wl_aload_n dL_law_244 rfl ?_
        refine wl_aload_n dL_law_245 rfl ?_
        refine wl_iload_n dL_law_246 rfl ?_
        refine wl_iconst dL_law_247 ?_
        refine wl_iadd dL_law_248 ?_
        obtain ⟨c23, h⟩ := h
        obtain ⟨c24, h⟩ := h
        refine wl_sld dL_law_249 rfl c23 c24 ?_
        refine wl_aload_n dL_law_250 rfl ?_
        refine wl_iload_n dL_law_251 rfl ?_
        refine wl_iconst dL_law_252 ?_
        refine wl_iadd dL_law_253 ?_
        obtain ⟨c25, h⟩ := h
        obtain ⟨c26, h⟩ := h
        refine wl_sld dL_law_254 rfl c25 c26 ?_
        refine wl_aload_n dL_law_255 rfl ?_
        refine wl_iload_n dL_law_256 rfl ?_
        refine wl_iconst dL_law_257 ?_
        refine wl_iadd dL_law_258 ?_
        obtain ⟨c27, h⟩ := h
        obtain ⟨c28, h⟩ := h
        refine wl_sld dL_law_259 rfl c27 c28 ?_
        refine wl_invVi [_, _, _] dL_law_260 l12_22 kX8_people rfl rfl (Nat.le_of_ble_eq_true rfl) (Or.inl rfl) ob_1280 h (fun r29 M30 h => ?_)
        refine wl_icmp_eq (tgt := 1311) dL_law_263 (by decide) rfl rfl (fun q => ?_) (fun q => ?_)
        · have h := h.1 q
          refine wl_iinc dL_law_1311 rfl rfl ?_
          refine wl_goto (tgt := 18) dL_law_1314 (by decide) ?_
          exact wl_fgt (fgk (fgk (fgk (fgk (fgn))))) h
        · have h := h.2 q
          refine wl_iconst dL_law_266 ?_
          exact h.elim
      · skip
        by_cases q2 : zw (z_and ((xs (zw v3).toNat).toInt) 63) = 2
        · refine wl_tsw (tgt := 268) dL_law_33 (by rw [q2]; decide) (by rw [q2]; decide) ?_
          have h := h.2.2.1 q2
          refine wl_aload_n dL_law_268 rfl ?_
          refine wl_aload_n dL_law_269 rfl ?_
          refine wl_iload_n dL_law_270 rfl ?_
          refine wl_iconst dL_law_271 ?_
          refine wl_iadd dL_law_272 ?_
          obtain ⟨c31, h⟩ := h
          obtain ⟨c32, h⟩ := h
          refine wl_sld dL_law_273 rfl c31 c32 ?_
          refine wl_aload_n dL_law_274 rfl ?_
          refine wl_iload_n dL_law_275 rfl ?_
          refine wl_iconst dL_law_276 ?_
          refine wl_iadd dL_law_277 ?_
          obtain ⟨c33, h⟩ := h
          obtain ⟨c34, h⟩ := h
          refine wl_sld dL_law_278 rfl c33 c34 ?_
          refine wl_invVi [_, _] dL_law_279 l12_23 kX7_meet rfl rfl (Nat.le_of_ble_eq_true rfl) (Or.inl rfl) ob_64 h (fun r35 M36 h => ?_)
          refine wl_aload_n dL_law_282 rfl ?_
          refine wl_aload_n dL_law_283 rfl ?_
          refine wl_iload_n dL_law_284 rfl ?_
          refine wl_iconst dL_law_285 ?_
          refine wl_iadd dL_law_286 ?_
          obtain ⟨c37, h⟩ := h
          obtain ⟨c38, h⟩ := h
          refine wl_sld dL_law_287 rfl c37 c38 ?_
          refine wl_aload_n dL_law_288 rfl ?_
          refine wl_iload_n dL_law_289 rfl ?_
          refine wl_iconst dL_law_290 ?_
          refine wl_iadd dL_law_291 ?_
          obtain ⟨c39, h⟩ := h
          obtain ⟨c40, h⟩ := h
          refine wl_sld dL_law_292 rfl c39 c40 ?_
          refine wl_invVi [_, _] dL_law_293 l12_26 kX8_meet rfl rfl (Nat.le_of_ble_eq_true rfl) (Or.inl rfl) ob_1280 h (fun r41 M42 h => ?_)
          refine wl_icmp_eq (tgt := 1311) dL_law_296 (by decide) rfl rfl (fun q => ?_) (fun q => ?_)
          · have h := h.1 q
            refine wl_iinc dL_law_1311 rfl rfl ?_
            refine wl_goto (tgt := 18) dL_law_1314 (by decide) ?_
            exact wl_fgt (fgk (fgk (fgk (fgk (fgn))))) h
          · have h := h.2 q
            refine wl_iconst dL_law_299 ?_
            exact h.elim
        · skip
          by_cases q3 : zw (z_and ((xs (zw v3).toNat).toInt) 63) = 3
          · refine wl_tsw (tgt := 301) dL_law_33 (by rw [q3]; decide) (by rw [q3]; decide) ?_
            have h := h.2.2.2.1 q3
            refine wl_aload_n dL_law_301 rfl ?_
            refine wl_aload_n dL_law_302 rfl ?_
            refine wl_iload_n dL_law_303 rfl ?_
            refine wl_iconst dL_law_304 ?_
            refine wl_iadd dL_law_305 ?_
            obtain ⟨c43, h⟩ := h
            obtain ⟨c44, h⟩ := h
            refine wl_sld dL_law_306 rfl c43 c44 ?_
            refine wl_invVi [_] dL_law_307 l12_27 kX7_hearing rfl rfl (Nat.le_of_ble_eq_true rfl) (Or.inl rfl) ob_64 h (fun r45 M46 h => ?_)
            refine wl_aload_n dL_law_310 rfl ?_
            refine wl_aload_n dL_law_311 rfl ?_
            refine wl_iload_n dL_law_312 rfl ?_
            refine wl_iconst dL_law_313 ?_
            refine wl_iadd dL_law_314 ?_
            obtain ⟨c47, h⟩ := h
            obtain ⟨c48, h⟩ := h
            refine wl_sld dL_law_315 rfl c47 c48 ?_
            refine wl_invVi [_] dL_law_316 l12_31 kX8_hearing rfl rfl (Nat.le_of_ble_eq_true rfl) (Or.inl rfl) ob_1280 h (fun r49 M50 h => ?_)
            refine wl_icmp_eq (tgt := 1311) dL_law_319 (by decide) rfl rfl (fun q => ?_) (fun q => ?_)
            · have h := h.1 q
              refine wl_iinc dL_law_1311 rfl rfl ?_
              refine wl_goto (tgt := 18) dL_law_1314 (by decide) ?_
              exact wl_fgt (fgk (fgk (fgk (fgk (fgn))))) h
            · have h := h.2 q
              refine wl_iconst dL_law_322 ?_
              exact h.elim
          · skip
            by_cases q4 : zw (z_and ((xs (zw v3).toNat).toInt) 63) = 4
            · refine wl_tsw (tgt := 324) dL_law_33 (by rw [q4]; decide) (by rw [q4]; decide) ?_
              have h := h.2.2.2.2.1 q4
              refine wl_aload_n dL_law_324 rfl ?_
              refine wl_aload_n dL_law_325 rfl ?_
              refine wl_iload_n dL_law_326 rfl ?_
              refine wl_iconst dL_law_327 ?_
              refine wl_iadd dL_law_328 ?_
              obtain ⟨c51, h⟩ := h
              obtain ⟨c52, h⟩ := h
              refine wl_sld dL_law_329 rfl c51 c52 ?_
              refine wl_aload_n dL_law_330 rfl ?_
              refine wl_iload_n dL_law_331 rfl ?_
              refine wl_iconst dL_law_332 ?_
              refine wl_iadd dL_law_333 ?_
              obtain ⟨c53, h⟩ := h
              obtain ⟨c54, h⟩ := h
              refine wl_sld dL_law_334 rfl c53 c54 ?_
              refine wl_invVi [_, _] dL_law_335 l12_32 kX7_name rfl rfl (Nat.le_of_ble_eq_true rfl) (Or.inl rfl) ob_64 h (fun r55 M56 h => ?_)
              refine wl_aload_n dL_law_338 rfl ?_
              refine wl_aload_n dL_law_339 rfl ?_
              refine wl_iload_n dL_law_340 rfl ?_
              refine wl_iconst dL_law_341 ?_
              refine wl_iadd dL_law_342 ?_
              obtain ⟨c57, h⟩ := h
              obtain ⟨c58, h⟩ := h
              refine wl_sld dL_law_343 rfl c57 c58 ?_
              refine wl_aload_n dL_law_344 rfl ?_
              refine wl_iload_n dL_law_345 rfl ?_
              refine wl_iconst dL_law_346 ?_
              refine wl_iadd dL_law_347 ?_
              obtain ⟨c59, h⟩ := h
              obtain ⟨c60, h⟩ := h
              refine wl_sld dL_law_348 rfl c59 c60 ?_
              refine wl_invVi [_, _] dL_law_349 l12_35 kX8_name rfl rfl (Nat.le_of_ble_eq_true rfl) (Or.inl rfl) ob_1280 h (fun r61 M62 h => ?_)
              refine wl_icmp_eq (tgt := 1311) dL_law_352 (by decide) rfl rfl (fun q => ?_) (fun q => ?_)
              · have h := h.1 q
                refine wl_iinc dL_law_1311 rfl rfl ?_
                refine wl_goto (tgt := 18) dL_law_1314 (by decide) ?_
                exact wl_fgt (fgk (fgk (fgk (fgk (fgn))))) h
              · have h := h.2 q
                refine wl_iconst dL_law_355 ?_
                exact h.elim
            · skip
              by_cases q5 : zw (z_and ((xs (zw v3).toNat).toInt) 63) = 5
              · refine wl_tsw (tgt := 357) dL_law_33 (by rw [q5]; decide) (by rw [q5]; decide) ?_
                have h := h.2.2.2.2.2.1 q5
                refine wl_aload_n dL_law_357 rfl ?_
                refine wl_aload_n dL_law_358 rfl ?_
                refine wl_iload_n dL_law_359 rfl ?_
                refine wl_iconst dL_law_360 ?_
                refine wl_iadd dL_law_361 ?_
                obtain ⟨c63, h⟩ := h
                obtain ⟨c64, h⟩ := h
                refine wl_sld dL_law_362 rfl c63 c64 ?_
                refine wl_aload_n dL_law_363 rfl ?_
                refine wl_iload_n dL_law_364 rfl ?_
                refine wl_iconst dL_law_365 ?_
                refine wl_iadd dL_law_366 ?_
                obtain ⟨c65, h⟩ := h
                obtain ⟨c66, h⟩ := h
                refine wl_sld dL_law_367 rfl c65 c66 ?_
                refine wl_invVi [_, _] dL_law_368 l12_36 kX7_fame rfl rfl (Nat.le_of_ble_eq_true rfl) (Or.inl rfl) ob_64 h (fun r67 M68 h => ?_)
                refine wl_aload_n dL_law_371 rfl ?_
                refine wl_aload_n dL_law_372 rfl ?_
                refine wl_iload_n dL_law_373 rfl ?_
                refine wl_iconst dL_law_374 ?_
                refine wl_iadd dL_law_375 ?_
                obtain ⟨c69, h⟩ := h
                obtain ⟨c70, h⟩ := h
                refine wl_sld dL_law_376 rfl c69 c70 ?_
                refine wl_aload_n dL_law_377 rfl ?_
                refine wl_iload_n dL_law_378 rfl ?_
                refine wl_iconst dL_law_379 ?_
                refine wl_iadd dL_law_380 ?_
                obtain ⟨c71, h⟩ := h
                obtain ⟨c72, h⟩ := h
                refine wl_sld dL_law_381 rfl c71 c72 ?_
                refine wl_invVi [_, _] dL_law_382 l12_39 kX8_fame rfl rfl (Nat.le_of_ble_eq_true rfl) (Or.inl rfl) ob_1280 h (fun r73 M74 h => ?_)
                refine wl_icmp_eq (tgt := 1311) dL_law_385 (by decide) rfl rfl (fun q => ?_) (fun q => ?_)
                · have h := h.1 q
                  refine wl_iinc dL_law_1311 rfl rfl ?_
                  refine wl_goto (tgt := 18) dL_law_1314 (by decide) ?_
                  exact wl_fgt (fgk (fgk (fgk (fgk (fgn))))) h
                · have h := h.2 q
                  refine wl_iconst dL_law_388 ?_
                  exact h.elim
              · skip
                by_cases q6 : zw (z_and ((xs (zw v3).toNat).toInt) 63) = 6
                · refine wl_tsw (tgt := 390) dL_law_33 (by rw [q6]; decide) (by rw [q6]; decide) ?_
                  have h := h.2.2.2.2.2.2.1 q6
                  refine wl_aload_n dL_law_390 rfl ?_
                  refine wl_aload_n dL_law_391 rfl ?_
                  refine wl_iload_n dL_law_392 rfl ?_
                  refine wl_iconst dL_law_393 ?_
                  refine wl_iadd dL_law_394 ?_
                  obtain ⟨c75, h⟩ := h
                  obtain ⟨c76, h⟩ := h
                  refine wl_sld dL_law_395 rfl c75 c76 ?_
                  refine wl_aload_n dL_law_396 rfl ?_
                  refine wl_iload_n dL_law_397 rfl ?_
                  refine wl_iconst dL_law_398 ?_
                  refine wl_iadd dL_law_399 ?_
                  obtain ⟨c77, h⟩ := h
                  obtain ⟨c78, h⟩ := h
                  refine wl_sld dL_law_400 rfl c77 c78 ?_
                  refine wl_aload_n dL_law_401 rfl ?_
                  refine wl_iload_n dL_law_402 rfl ?_
                  refine wl_iconst dL_law_403 ?_
                  refine wl_iadd dL_law_404 ?_
                  obtain ⟨c79, h⟩ := h
                  obtain ⟨c80, h⟩ := h
                  refine wl_sld dL_law_405 rfl c79 c80 ?_
                  refine wl_invVi [_, _, _] dL_law_406 l12_40 kX7_mend rfl rfl (Nat.le_of_ble_eq_true rfl) (Or.inl rfl) ob_64 h (fun r81 M82 h => ?_)
                  refine wl_aload_n dL_law_409 rfl ?_
                  refine wl_aload_n dL_law_410 rfl ?_
                  refine wl_iload_n dL_law_411 rfl ?_
                  refine wl_iconst dL_law_412 ?_
                  refine wl_iadd dL_law_413 ?_
                  obtain ⟨c83, h⟩ := h
                  obtain ⟨c84, h⟩ := h
                  refine wl_sld dL_law_414 rfl c83 c84 ?_
                  refine wl_aload_n dL_law_415 rfl ?_
                  refine wl_iload_n dL_law_416 rfl ?_
                  refine wl_iconst dL_law_417 ?_
                  refine wl_iadd dL_law_418 ?_
                  obtain ⟨c85, h⟩ := h
                  obtain ⟨c86, h⟩ := h
                  refine wl_sld dL_law_419 rfl c85 c86 ?_
                  refine wl_aload_n dL_law_420 rfl ?_
                  refine wl_iload_n dL_law_421 rfl ?_
                  refine wl_iconst dL_law_422 ?_
                  refine wl_iadd dL_law_423 ?_
                  obtain ⟨c87, h⟩ := h
                  obtain ⟨c88, h⟩ := h
                  refine wl_sld dL_law_424 rfl c87 c88 ?_
                  refine wl_invVi [_, _, _] dL_law_425 l12_43 kX8_mend rfl rfl (Nat.le_of_ble_eq_true rfl) (Or.inl rfl) ob_1280 h (fun r89 M90 h => ?_)
                  refine wl_icmp_eq (tgt := 1311) dL_law_428 (by decide) rfl rfl (fun q => ?_) (fun q => ?_)
                  · have h := h.1 q
                    refine wl_iinc dL_law_1311 rfl rfl ?_
                    refine wl_goto (tgt := 18) dL_law_1314 (by decide) ?_
                    exact wl_fgt (fgk (fgk (fgk (fgk (fgn))))) h
                  · have h := h.2 q
                    refine wl_iconst dL_law_431 ?_
                    exact h.elim
                · skip
                  by_cases q7 : zw (z_and ((xs (zw v3).toNat).toInt) 63) = 7
                  · refine wl_tsw (tgt := 433) dL_law_33 (by rw [q7]; decide) (by rw [q7]; decide) ?_
                    have h := h.2.2.2.2.2.2.2.1 q7
                    refine wl_aload_n dL_law_433 rfl ?_
                    refine wl_aload_n dL_law_434 rfl ?_
                    refine wl_iload_n dL_law_435 rfl ?_
                    refine wl_iconst dL_law_436 ?_
                    refine wl_iadd dL_law_437 ?_
                    obtain ⟨c91, h⟩ := h
                    obtain ⟨c92, h⟩ := h
                    refine wl_sld dL_law_438 rfl c91 c92 ?_
                    refine wl_aload_n dL_law_439 rfl ?_
                    refine wl_iload_n dL_law_440 rfl ?_
                    refine wl_iconst dL_law_441 ?_
                    refine wl_iadd dL_law_442 ?_
                    obtain ⟨c93, h⟩ := h
                    obtain ⟨c94, h⟩ := h
                    refine wl_sld dL_law_443 rfl c93 c94 ?_
                    refine wl_invVi [_, _] dL_law_444 l12_44 kX7_of rfl rfl (Nat.le_of_ble_eq_true rfl) (Or.inl rfl) ob_64 h (fun r95 M96 h => ?_)
                    refine wl_aload_n dL_law_447 rfl ?_
                    refine wl_aload_n dL_law_448 rfl ?_
                    refine wl_iload_n dL_law_449 rfl ?_
                    refine wl_iconst dL_law_450 ?_
                    refine wl_iadd dL_law_451 ?_
                    obtain ⟨c97, h⟩ := h
                    obtain ⟨c98, h⟩ := h
                    refine wl_sld dL_law_452 rfl c97 c98 ?_
                    refine wl_aload_n dL_law_453 rfl ?_
                    refine wl_iload_n dL_law_454 rfl ?_
                    refine wl_iconst dL_law_455 ?_
                    refine wl_iadd dL_law_456 ?_
                    obtain ⟨c99, h⟩ := h
                    obtain ⟨c100, h⟩ := h
                    refine wl_sld dL_law_457 rfl c99 c100 ?_
                    refine wl_invVi [_, _] dL_law_458 l12_47 kX8_of rfl rfl (Nat.le_of_ble_eq_true rfl) (Or.inl rfl) ob_1280 h (fun r101 M102 h => ?_)
                    refine wl_icmp_eq (tgt := 1311) dL_law_461 (by decide) rfl rfl (fun q => ?_) (fun q => ?_)
                    · have h := h.1 q
                      refine wl_iinc dL_law_1311 rfl rfl ?_
                      refine wl_goto (tgt := 18) dL_law_1314 (by decide) ?_
                      exact wl_fgt (fgk (fgk (fgk (fgk (fgn))))) h
                    · have h := h.2 q
                      refine wl_iconst dL_law_464 ?_
                      exact h.elim
                  · skip
                    by_cases q8 : zw (z_and ((xs (zw v3).toNat).toInt) 63) = 8
                    · refine wl_tsw (tgt := 466) dL_law_33 (by rw [q8]; decide) (by rw [q8]; decide) ?_
                      have h := h.2.2.2.2.2.2.2.2.1 q8
                      refine wl_aload_n dL_law_466 rfl ?_
                      refine wl_aload_n dL_law_467 rfl ?_
                      refine wl_iload_n dL_law_468 rfl ?_
                      refine wl_iconst dL_law_469 ?_
                      refine wl_iadd dL_law_470 ?_
                      obtain ⟨c103, h⟩ := h
                      obtain ⟨c104, h⟩ := h
                      refine wl_sld dL_law_471 rfl c103 c104 ?_
                      refine wl_invVi [_] dL_law_472 l12_48 kX7_feed rfl rfl (Nat.le_of_ble_eq_true rfl) (Or.inl rfl) ob_64 h (fun r105 M106 h => ?_)
                      refine wl_aload_n dL_law_475 rfl ?_
                      refine wl_aload_n dL_law_476 rfl ?_
                      refine wl_iload_n dL_law_477 rfl ?_
                      refine wl_iconst dL_law_478 ?_
                      refine wl_iadd dL_law_479 ?_
                      obtain ⟨c107, h⟩ := h
                      obtain ⟨c108, h⟩ := h
                      refine wl_sld dL_law_480 rfl c107 c108 ?_
                      refine wl_invVi [_] dL_law_481 l12_51 kX8_feed rfl rfl (Nat.le_of_ble_eq_true rfl) (Or.inl rfl) ob_1280 h (fun r109 M110 h => ?_)
                      refine wl_icmp_eq (tgt := 1311) dL_law_484 (by decide) rfl rfl (fun q => ?_) (fun q => ?_)
                      · have h := h.1 q
                        refine wl_iinc dL_law_1311 rfl rfl ?_
                        refine wl_goto (tgt := 18) dL_law_1314 (by decide) ?_
                        exact wl_fgt (fgk (fgk (fgk (fgk (fgn))))) h
                      · have h := h.2 q
                        refine wl_iconst dL_law_487 ?_
                        exact h.elim
                    · skip
                      by_cases q9 : zw (z_and ((xs (zw v3).toNat).toInt) 63) = 9
                      · refine wl_tsw (tgt := 489) dL_law_33 (by rw [q9]; decide) (by rw [q9]; decide) ?_
                        have h := h.2.2.2.2.2.2.2.2.2.1 q9
                        refine wl_aload_n dL_law_489 rfl ?_
                        refine wl_invVi [] dL_law_490 l12_52 kX7_law rfl rfl (Nat.le_of_ble_eq_true rfl) (Or.inl rfl) ob_64 h (fun r111 M112 h => ?_)
                        refine wl_aload_n dL_law_493 rfl ?_
                        refine wl_invVi [] dL_law_494 l12_56 kX8_law rfl rfl (Nat.le_of_ble_eq_true rfl) (Or.inl rfl) ob_1280 h (fun r113 M114 h => ?_)
                        refine wl_icmp_eq (tgt := 1311) dL_law_497 (by decide) rfl rfl (fun q => ?_) (fun q => ?_)
                        · have h := h.1 q
                          refine wl_iinc dL_law_1311 rfl rfl ?_
                          refine wl_goto (tgt := 18) dL_law_1314 (by decide) ?_
                          exact wl_fgt (fgk (fgk (fgk (fgk (fgn))))) h
                        · have h := h.2 q
                          refine wl_iconst dL_law_500 ?_
                          exact h.elim
                      · skip
                        by_cases q10 : zw (z_and ((xs (zw v3).toNat).toInt) 63) = 10
                        · refine wl_tsw (tgt := 502) dL_law_33 (by rw [q10]; decide) (by rw [q10]; decide) ?_
                          have h := h.2.2.2.2.2.2.2.2.2.2.1 q10
                          refine wl_aload_n dL_law_502 rfl ?_
                          refine wl_aload_n dL_law_503 rfl ?_
                          refine wl_iload_n dL_law_504 rfl ?_
                          refine wl_iconst dL_law_505 ?_
                          refine wl_iadd dL_law_506 ?_
                          obtain ⟨c115, h⟩ := h
                          obtain ⟨c116, h⟩ := h
                          refine wl_sld dL_law_507 rfl c115 c116 ?_
                          refine wl_aload_n dL_law_508 rfl ?_
                          refine wl_iload_n dL_law_509 rfl ?_
                          refine wl_iconst dL_law_510 ?_
                          refine wl_iadd dL_law_511 ?_
                          obtain ⟨c117, h⟩ := h
                          obtain ⟨c118, h⟩ := h
                          refine wl_sld dL_law_512 rfl c117 c118 ?_
                          refine wl_invVi [_, _] dL_law_513 l12_57 kX7_knows rfl rfl (Nat.le_of_ble_eq_true rfl) (Or.inl rfl) ob_64 h (fun r119 M120 h => ?_)
                          refine wl_aload_n dL_law_516 rfl ?_
                          refine wl_aload_n dL_law_517 rfl ?_
                          refine wl_iload_n dL_law_518 rfl ?_
                          refine wl_iconst dL_law_519 ?_
                          refine wl_iadd dL_law_520 ?_
                          obtain ⟨c121, h⟩ := h
                          obtain ⟨c122, h⟩ := h
                          refine wl_sld dL_law_521 rfl c121 c122 ?_
                          refine wl_aload_n dL_law_522 rfl ?_
                          refine wl_iload_n dL_law_523 rfl ?_
                          refine wl_iconst dL_law_524 ?_
                          refine wl_iadd dL_law_525 ?_
                          obtain ⟨c123, h⟩ := h
                          obtain ⟨c124, h⟩ := h
                          refine wl_sld dL_law_526 rfl c123 c124 ?_
                          refine wl_invVi [_, _] dL_law_527 l12_60 kX8_knows rfl rfl (Nat.le_of_ble_eq_true rfl) (Or.inl rfl) ob_1280 h (fun r125 M126 h => ?_)
                          refine wl_icmp_eq (tgt := 1311) dL_law_530 (by decide) rfl rfl (fun q => ?_) (fun q => ?_)
                          · have h := h.1 q
                            refine wl_iinc dL_law_1311 rfl rfl ?_
                            refine wl_goto (tgt := 18) dL_law_1314 (by decide) ?_
                            exact wl_fgt (fgk (fgk (fgk (fgk (fgn))))) h
                          · have h := h.2 q
                            refine wl_iconst dL_law_533 ?_
                            exact h.elim
                        · skip
                          by_cases q11 : zw (z_and ((xs (zw v3).toNat).toInt) 63) = 11
                          · refine wl_tsw (tgt := 535) dL_law_33 (by rw [q11]; decide) (by rw [q11]; decide) ?_
                            have h := h.2.2.2.2.2.2.2.2.2.2.2.1 q11
                            refine wl_aload_n dL_law_535 rfl ?_
                            refine wl_aload_n dL_law_536 rfl ?_
                            refine wl_iload_n dL_law_537 rfl ?_
                            refine wl_iconst dL_law_538 ?_
                            refine wl_iadd dL_law_539 ?_
                            obtain ⟨c127, h⟩ := h
                            obtain ⟨c128, h⟩ := h
                            refine wl_sld dL_law_540 rfl c127 c128 ?_
                            refine wl_aload_n dL_law_541 rfl ?_
                            refine wl_iload_n dL_law_542 rfl ?_
                            refine wl_iconst dL_law_543 ?_
                            refine wl_iadd dL_law_544 ?_
                            obtain ⟨c129, h⟩ := h
                            obtain ⟨c130, h⟩ := h
                            refine wl_sld dL_law_545 rfl c129 c130 ?_
                            refine wl_aload_n dL_law_546 rfl ?_
                            refine wl_iload_n dL_law_547 rfl ?_
                            refine wl_iconst dL_law_548 ?_
                            refine wl_iadd dL_law_549 ?_
                            obtain ⟨c131, h⟩ := h
                            obtain ⟨c132, h⟩ := h
                            refine wl_sld dL_law_550 rfl c131 c132 ?_
                            refine wl_invVi [_, _, _] dL_law_551 l12_61 kX7_held rfl rfl (Nat.le_of_ble_eq_true rfl) (Or.inl rfl) ob_64 h (fun r133 M134 h => ?_)
                            refine wl_aload_n dL_law_554 rfl ?_
                            refine wl_aload_n dL_law_555 rfl ?_
                            refine wl_iload_n dL_law_556 rfl ?_
                            refine wl_iconst dL_law_557 ?_
                            refine wl_iadd dL_law_558 ?_
                            obtain ⟨c135, h⟩ := h
                            obtain ⟨c136, h⟩ := h
                            refine wl_sld dL_law_559 rfl c135 c136 ?_
                            refine wl_aload_n dL_law_560 rfl ?_
                            refine wl_iload_n dL_law_561 rfl ?_
                            refine wl_iconst dL_law_562 ?_
                            refine wl_iadd dL_law_563 ?_
                            obtain ⟨c137, h⟩ := h
                            obtain ⟨c138, h⟩ := h
                            refine wl_sld dL_law_564 rfl c137 c138 ?_
                            refine wl_aload_n dL_law_565 rfl ?_
                            refine wl_iload_n dL_law_566 rfl ?_
                            refine wl_iconst dL_law_567 ?_
                            refine wl_iadd dL_law_568 ?_
                            obtain ⟨c139, h⟩ := h
                            obtain ⟨c140, h⟩ := h
                            refine wl_sld dL_law_569 rfl c139 c140 ?_
                            refine wl_invVi [_, _, _] dL_law_570 l12_64 kX8_held rfl rfl (Nat.le_of_ble_eq_true rfl) (Or.inl rfl) ob_1280 h (fun r141 M142 h => ?_)
                            refine wl_icmp_eq (tgt := 1311) dL_law_573 (by decide) rfl rfl (fun q => ?_) (fun q => ?_)
                            · have h := h.1 q
                              refine wl_iinc dL_law_1311 rfl rfl ?_
                              refine wl_goto (tgt := 18) dL_law_1314 (by decide) ?_
                              exact wl_fgt (fgk (fgk (fgk (fgk (fgn))))) h
                            · have h := h.2 q
                              refine wl_iconst dL_law_576 ?_
                              exact h.elim
                          · skip
                            by_cases q12 : zw (z_and ((xs (zw v3).toNat).toInt) 63) = 12
                            · refine wl_tsw (tgt := 578) dL_law_33 (by rw [q12]; decide) (by rw [q12]; decide) ?_
                              have h := h.2.2.2.2.2.2.2.2.2.2.2.2.1 q12
                              refine wl_aload_n dL_law_578 rfl ?_
                              refine wl_aload_n dL_law_579 rfl ?_
                              refine wl_iload_n dL_law_580 rfl ?_
                              refine wl_iconst dL_law_581 ?_
                              refine wl_iadd dL_law_582 ?_
                              obtain ⟨c143, h⟩ := h
                              obtain ⟨c144, h⟩ := h
                              refine wl_sld dL_law_583 rfl c143 c144 ?_
                              refine wl_invVi [_] dL_law_584 l12_65 kX7_free rfl rfl (Nat.le_of_ble_eq_true rfl) (Or.inl rfl) ob_64 h (fun r145 M146 h => ?_)
                              refine wl_aload_n dL_law_587 rfl ?_
                              refine wl_aload_n dL_law_588 rfl ?_
                              refine wl_iload_n dL_law_589 rfl ?_
                              refine wl_iconst dL_law_590 ?_
                              refine wl_iadd dL_law_591 ?_
                              obtain ⟨c147, h⟩ := h
                              obtain ⟨c148, h⟩ := h
                              refine wl_sld dL_law_592 rfl c147 c148 ?_
                              refine wl_invVi [_] dL_law_593 l12_68 kX8_free rfl rfl (Nat.le_of_ble_eq_true rfl) (Or.inl rfl) ob_1280 h (fun r149 M150 h => ?_)
                              refine wl_icmp_eq (tgt := 1311) dL_law_596 (by decide) rfl rfl (fun q => ?_) (fun q => ?_)
                              · have h := h.1 q
                                refine wl_iinc dL_law_1311 rfl rfl ?_
                                refine wl_goto (tgt := 18) dL_law_1314 (by decide) ?_
                                exact wl_fgt (fgk (fgk (fgk (fgk (fgn))))) h
                              · have h := h.2 q
                                refine wl_iconst dL_law_599 ?_
                                exact h.elim
                            · skip
                              by_cases q13 : zw (z_and ((xs (zw v3).toNat).toInt) 63) = 13
                              · refine wl_tsw (tgt := 601) dL_law_33 (by rw [q13]; decide) (by rw [q13]; decide) ?_
                                have h := h.2.2.2.2.2.2.2.2.2.2.2.2.2.1 q13
                                refine wl_aload_n dL_law_601 rfl ?_
                                refine wl_aload_n dL_law_602 rfl ?_
                                refine wl_iload_n dL_law_603 rfl ?_
                                refine wl_iconst dL_law_604 ?_
                                refine wl_iadd dL_law_605 ?_
                                obtain ⟨c151, h⟩ := h
                                obtain ⟨c152, h⟩ := h
                                refine wl_sld dL_law_606 rfl c151 c152 ?_
                                refine wl_invVi [_] dL_law_607 l12_69 kX7_most rfl rfl (Nat.le_of_ble_eq_true rfl) (Or.inl rfl) ob_64 h (fun r153 M154 h => ?_)
                                refine wl_aload_n dL_law_610 rfl ?_
                                refine wl_aload_n dL_law_611 rfl ?_
                                refine wl_iload_n dL_law_612 rfl ?_
                                refine wl_iconst dL_law_613 ?_
                                refine wl_iadd dL_law_614 ?_
                                obtain ⟨c155, h⟩ := h
                                obtain ⟨c156, h⟩ := h
                                refine wl_sld dL_law_615 rfl c155 c156 ?_
                                refine wl_invVi [_] dL_law_616 l12_72 kX8_most rfl rfl (Nat.le_of_ble_eq_true rfl) (Or.inl rfl) ob_1280 h (fun r157 M158 h => ?_)
                                refine wl_icmp_eq (tgt := 1311) dL_law_619 (by decide) rfl rfl (fun q => ?_) (fun q => ?_)
                                · have h := h.1 q
                                  refine wl_iinc dL_law_1311 rfl rfl ?_
                                  refine wl_goto (tgt := 18) dL_law_1314 (by decide) ?_
                                  exact wl_fgt (fgk (fgk (fgk (fgk (fgn))))) h
                                · have h := h.2 q
                                  refine wl_iconst dL_law_622 ?_
                                  exact h.elim
                              · skip
                                by_cases q14 : zw (z_and ((xs (zw v3).toNat).toInt) 63) = 14
                                · refine wl_tsw (tgt := 624) dL_law_33 (by rw [q14]; decide) (by rw [q14]; decide) ?_
                                  have h := h.2.2.2.2.2.2.2.2.2.2.2.2.2.2.1 q14
                                  refine wl_aload_n dL_law_624 rfl ?_
                                  refine wl_invVi [] dL_law_625 l12_73 kX7_judge rfl rfl (Nat.le_of_ble_eq_true rfl) (Or.inl rfl) ob_64 h (fun r159 M160 h => ?_)
                                  refine wl_aload_n dL_law_628 rfl ?_
                                  refine wl_invVi [] dL_law_629 l12_76 kX8_judge rfl rfl (Nat.le_of_ble_eq_true rfl) (Or.inl rfl) ob_1280 h (fun r161 M162 h => ?_)
                                  refine wl_icmp_eq (tgt := 1311) dL_law_632 (by decide) rfl rfl (fun q => ?_) (fun q => ?_)
                                  · have h := h.1 q
                                    refine wl_iinc dL_law_1311 rfl rfl ?_
                                    refine wl_goto (tgt := 18) dL_law_1314 (by decide) ?_
                                    exact wl_fgt (fgk (fgk (fgk (fgk (fgn))))) h
                                  · have h := h.2 q
                                    refine wl_iconst dL_law_635 ?_
                                    exact h.elim
                                · skip
                                  by_cases q15 : zw (z_and ((xs (zw v3).toNat).toInt) 63) = 15
                                  · refine wl_tsw (tgt := 637) dL_law_33 (by rw [q15]; decide) (by rw [q15]; decide) ?_
                                    have h := h.2.2.2.2.2.2.2.2.2.2.2.2.2.2.2.1 q15
                                    refine wl_aload_n dL_law_637 rfl ?_
                                    refine wl_aload_n dL_law_638 rfl ?_
                                    refine wl_iload_n dL_law_639 rfl ?_
                                    refine wl_iconst dL_law_640 ?_
                                    refine wl_iadd dL_law_641 ?_
                                    obtain ⟨c163, h⟩ := h
                                    obtain ⟨c164, h⟩ := h
                                    refine wl_sld dL_law_642 rfl c163 c164 ?_
                                    refine wl_aload_n dL_law_643 rfl ?_
                                    refine wl_iload_n dL_law_644 rfl ?_
                                    refine wl_iconst dL_law_645 ?_
                                    refine wl_iadd dL_law_646 ?_
                                    obtain ⟨c165, h⟩ := h
                                    obtain ⟨c166, h⟩ := h
                                    refine wl_sld dL_law_647 rfl c165 c166 ?_
                                    refine wl_invVi [_, _] dL_law_648 l12_77 kX7_give rfl rfl (Nat.le_of_ble_eq_true rfl) (Or.inl rfl) ob_64 h (fun r167 M168 h => ?_)
                                    refine wl_aload_n dL_law_651 rfl ?_
                                    refine wl_aload_n dL_law_652 rfl ?_
                                    refine wl_iload_n dL_law_653 rfl ?_
                                    refine wl_iconst dL_law_654 ?_
                                    refine wl_iadd dL_law_655 ?_
                                    obtain ⟨c169, h⟩ := h
                                    obtain ⟨c170, h⟩ := h
                                    refine wl_sld dL_law_656 rfl c169 c170 ?_
                                    refine wl_aload_n dL_law_657 rfl ?_
                                    refine wl_iload_n dL_law_658 rfl ?_
                                    refine wl_iconst dL_law_659 ?_
                                    refine wl_iadd dL_law_660 ?_
                                    obtain ⟨c171, h⟩ := h
                                    obtain ⟨c172, h⟩ := h
                                    refine wl_sld dL_law_661 rfl c171 c172 ?_
                                    refine wl_invVi [_, _] dL_law_662 l12_80 kX8_give rfl rfl (Nat.le_of_ble_eq_true rfl) (Or.inl rfl) ob_1280 h (fun r173 M174 h => ?_)
                                    refine wl_icmp_eq (tgt := 1311) dL_law_665 (by decide) rfl rfl (fun q => ?_) (fun q => ?_)
                                    · have h := h.1 q
                                      refine wl_iinc dL_law_1311 rfl rfl ?_
                                      refine wl_goto (tgt := 18) dL_law_1314 (by decide) ?_
                                      exact wl_fgt (fgk (fgk (fgk (fgk (fgn))))) h
                                    · have h := h.2 q
                                      refine wl_iconst dL_law_668 ?_
                                      exact h.elim
                                  · skip
                                    by_cases q16 : zw (z_and ((xs (zw v3).toNat).toInt) 63) = 16
                                    · refine wl_tsw (tgt := 670) dL_law_33 (by rw [q16]; decide) (by rw [q16]; decide) ?_
                                      have h := h.2.2.2.2.2.2.2.2.2.2.2.2.2.2.2.2.1 q16
                                      refine wl_aload_n dL_law_670 rfl ?_
                                      refine wl_aload_n dL_law_671 rfl ?_
                                      refine wl_iload_n dL_law_672 rfl ?_
                                      refine wl_iconst dL_law_673 ?_
                                      refine wl_iadd dL_law_674 ?_
                                      obtain ⟨c175, h⟩ := h
                                      obtain ⟨c176, h⟩ := h
                                      refine wl_sld dL_law_675 rfl c175 c176 ?_
                                      refine wl_aload_n dL_law_676 rfl ?_
                                      refine wl_iload_n dL_law_677 rfl ?_
                                      refine wl_iconst dL_law_678 ?_
                                      refine wl_iadd dL_law_679 ?_
                                      obtain ⟨c177, h⟩ := h
                                      obtain ⟨c178, h⟩ := h
                                      refine wl_sld dL_law_680 rfl c177 c178 ?_
                                      refine wl_invVi [_, _] dL_law_681 l12_81 kX7_run rfl rfl (Nat.le_of_ble_eq_true rfl) (Or.inl rfl) ob_64 h (fun r179 M180 h => ?_)
                                      refine wl_aload_n dL_law_684 rfl ?_
                                      refine wl_aload_n dL_law_685 rfl ?_
                                      refine wl_iload_n dL_law_686 rfl ?_
                                      refine wl_iconst dL_law_687 ?_
                                      refine wl_iadd dL_law_688 ?_
                                      obtain ⟨c181, h⟩ := h
                                      obtain ⟨c182, h⟩ := h
                                      refine wl_sld dL_law_689 rfl c181 c182 ?_
                                      refine wl_aload_n dL_law_690 rfl ?_
                                      refine wl_iload_n dL_law_691 rfl ?_
                                      refine wl_iconst dL_law_692 ?_
                                      refine wl_iadd dL_law_693 ?_
                                      obtain ⟨c183, h⟩ := h
                                      obtain ⟨c184, h⟩ := h
                                      refine wl_sld dL_law_694 rfl c183 c184 ?_
                                      refine wl_invVi [_, _] dL_law_695 l12_84 kX8_run rfl rfl (Nat.le_of_ble_eq_true rfl) (Or.inl rfl) ob_1280 h (fun r185 M186 h => ?_)
                                      refine wl_icmp_eq (tgt := 1311) dL_law_698 (by decide) rfl rfl (fun q => ?_) (fun q => ?_)
                                      · have h := h.1 q
                                        refine wl_iinc dL_law_1311 rfl rfl ?_
                                        refine wl_goto (tgt := 18) dL_law_1314 (by decide) ?_
                                        exact wl_fgt (fgk (fgk (fgk (fgk (fgn))))) h
                                      · have h := h.2 q
                                        refine wl_iconst dL_law_701 ?_
                                        exact h.elim
                                    · skip
                                      by_cases q17 : zw (z_and ((xs (zw v3).toNat).toInt) 63) = 17
                                      · refine wl_tsw (tgt := 703) dL_law_33 (by rw [q17]; decide) (by rw [q17]; decide) ?_
                                        have h := h.2.2.2.2.2.2.2.2.2.2.2.2.2.2.2.2.2.1 q17
                                        refine wl_aload_n dL_law_703 rfl ?_
                                        refine wl_aload_n dL_law_704 rfl ?_
                                        refine wl_iload_n dL_law_705 rfl ?_
                                        refine wl_iconst dL_law_706 ?_
                                        refine wl_iadd dL_law_707 ?_
                                        obtain ⟨c187, h⟩ := h
                                        obtain ⟨c188, h⟩ := h
                                        refine wl_sld dL_law_708 rfl c187 c188 ?_
                                        refine wl_aload_n dL_law_709 rfl ?_
                                        refine wl_iload_n dL_law_710 rfl ?_
                                        refine wl_iconst dL_law_711 ?_
                                        refine wl_iadd dL_law_712 ?_
                                        obtain ⟨c189, h⟩ := h
                                        obtain ⟨c190, h⟩ := h
                                        refine wl_sld dL_law_713 rfl c189 c190 ?_
                                        refine wl_invVi [_, _] dL_law_714 l12_85 kX7_used rfl rfl (Nat.le_of_ble_eq_true rfl) (Or.inl rfl) ob_64 h (fun r191 M192 h => ?_)
                                        refine wl_aload_n dL_law_717 rfl ?_
                                        refine wl_aload_n dL_law_718 rfl ?_
                                        refine wl_iload_n dL_law_719 rfl ?_
                                        refine wl_iconst dL_law_720 ?_
                                        refine wl_iadd dL_law_721 ?_
                                        obtain ⟨c193, h⟩ := h
                                        obtain ⟨c194, h⟩ := h
                                        refine wl_sld dL_law_722 rfl c193 c194 ?_
                                        refine wl_aload_n dL_law_723 rfl ?_
                                        refine wl_iload_n dL_law_724 rfl ?_
                                        refine wl_iconst dL_law_725 ?_
                                        refine wl_iadd dL_law_726 ?_
                                        obtain ⟨c195, h⟩ := h
                                        obtain ⟨c196, h⟩ := h
                                        refine wl_sld dL_law_727 rfl c195 c196 ?_
                                        refine wl_invVi [_, _] dL_law_728 l12_88 kX8_used rfl rfl (Nat.le_of_ble_eq_true rfl) (Or.inl rfl) ob_1280 h (fun r197 M198 h => ?_)
                                        refine wl_icmp_eq (tgt := 1311) dL_law_731 (by decide) rfl rfl (fun q => ?_) (fun q => ?_)
                                        · have h := h.1 q
                                          refine wl_iinc dL_law_1311 rfl rfl ?_
                                          refine wl_goto (tgt := 18) dL_law_1314 (by decide) ?_
                                          exact wl_fgt (fgk (fgk (fgk (fgk (fgn))))) h
                                        · have h := h.2 q
                                          refine wl_iconst dL_law_734 ?_
                                          exact h.elim
                                      · skip
                                        by_cases q18 : zw (z_and ((xs (zw v3).toNat).toInt) 63) = 18
                                        · refine wl_tsw (tgt := 736) dL_law_33 (by rw [q18]; decide) (by rw [q18]; decide) ?_
                                          have h := h.2.2.2.2.2.2.2.2.2.2.2.2.2.2.2.2.2.2.1 q18
                                          refine wl_aload_n dL_law_736 rfl ?_
                                          refine wl_aload_n dL_law_737 rfl ?_
                                          refine wl_iload_n dL_law_738 rfl ?_
                                          refine wl_iconst dL_law_739 ?_
                                          refine wl_iadd dL_law_740 ?_
                                          obtain ⟨c199, h⟩ := h
                                          obtain ⟨c200, h⟩ := h
                                          refine wl_sld dL_law_741 rfl c199 c200 ?_
                                          refine wl_aload_n dL_law_742 rfl ?_
                                          refine wl_iload_n dL_law_743 rfl ?_
                                          refine wl_iconst dL_law_744 ?_
                                          refine wl_iadd dL_law_745 ?_
                                          obtain ⟨c201, h⟩ := h
                                          obtain ⟨c202, h⟩ := h
                                          refine wl_sld dL_law_746 rfl c201 c202 ?_
                                          refine wl_invVi [_, _] dL_law_747 l12_89 kX7_apart rfl rfl (Nat.le_of_ble_eq_true rfl) (Or.inl rfl) ob_64 h (fun r203 M204 h => ?_)
                                          refine wl_aload_n dL_law_750 rfl ?_
                                          refine wl_aload_n dL_law_751 rfl ?_
                                          refine wl_iload_n dL_law_752 rfl ?_
                                          refine wl_iconst dL_law_753 ?_
                                          refine wl_iadd dL_law_754 ?_
                                          obtain ⟨c205, h⟩ := h
                                          obtain ⟨c206, h⟩ := h
                                          refine wl_sld dL_law_755 rfl c205 c206 ?_
                                          refine wl_aload_n dL_law_756 rfl ?_
                                          refine wl_iload_n dL_law_757 rfl ?_
                                          refine wl_iconst dL_law_758 ?_
                                          refine wl_iadd dL_law_759 ?_
                                          obtain ⟨c207, h⟩ := h
                                          obtain ⟨c208, h⟩ := h
                                          refine wl_sld dL_law_760 rfl c207 c208 ?_
                                          refine wl_invVi [_, _] dL_law_761 l12_92 kX8_apart rfl rfl (Nat.le_of_ble_eq_true rfl) (Or.inl rfl) ob_1280 h (fun r209 M210 h => ?_)
                                          refine wl_icmp_eq (tgt := 1311) dL_law_764 (by decide) rfl rfl (fun q => ?_) (fun q => ?_)
                                          · have h := h.1 q
                                            refine wl_iinc dL_law_1311 rfl rfl ?_
                                            refine wl_goto (tgt := 18) dL_law_1314 (by decide) ?_
                                            exact wl_fgt (fgk (fgk (fgk (fgk (fgn))))) h
                                          · have h := h.2 q
                                            refine wl_iconst dL_law_767 ?_
                                            exact h.elim
                                        · skip
                                          by_cases q19 : zw (z_and ((xs (zw v3).toNat).toInt) 63) = 19
                                          · refine wl_tsw (tgt := 769) dL_law_33 (by rw [q19]; decide) (by rw [q19]; decide) ?_
                                            have h := h.2.2.2.2.2.2.2.2.2.2.2.2.2.2.2.2.2.2.2.1 q19
                                            refine wl_aload_n dL_law_769 rfl ?_
                                            refine wl_aload_n dL_law_770 rfl ?_
                                            refine wl_iload_n dL_law_771 rfl ?_
                                            refine wl_iconst dL_law_772 ?_
                                            refine wl_iadd dL_law_773 ?_
                                            obtain ⟨c211, h⟩ := h
                                            obtain ⟨c212, h⟩ := h
                                            refine wl_sld dL_law_774 rfl c211 c212 ?_
                                            refine wl_aload_n dL_law_775 rfl ?_
                                            refine wl_iload_n dL_law_776 rfl ?_
                                            refine wl_iconst dL_law_777 ?_
                                            refine wl_iadd dL_law_778 ?_
                                            obtain ⟨c213, h⟩ := h
                                            obtain ⟨c214, h⟩ := h
                                            refine wl_sld dL_law_779 rfl c213 c214 ?_
                                            refine wl_invVi [_, _] dL_law_780 l12_93 kX7_freed rfl rfl (Nat.le_of_ble_eq_true rfl) (Or.inl rfl) ob_64 h (fun r215 M216 h => ?_)
                                            refine wl_aload_n dL_law_783 rfl ?_
                                            refine wl_aload_n dL_law_784 rfl ?_
                                            refine wl_iload_n dL_law_785 rfl ?_
                                            refine wl_iconst dL_law_786 ?_
                                            refine wl_iadd dL_law_787 ?_
                                            obtain ⟨c217, h⟩ := h
                                            obtain ⟨c218, h⟩ := h
                                            refine wl_sld dL_law_788 rfl c217 c218 ?_
                                            refine wl_aload_n dL_law_789 rfl ?_
                                            refine wl_iload_n dL_law_790 rfl ?_
                                            refine wl_iconst dL_law_791 ?_
                                            refine wl_iadd dL_law_792 ?_
                                            obtain ⟨c219, h⟩ := h
                                            obtain ⟨c220, h⟩ := h
                                            refine wl_sld dL_law_793 rfl c219 c220 ?_
                                            refine wl_invVi [_, _] dL_law_794 l12_96 kX8_freed rfl rfl (Nat.le_of_ble_eq_true rfl) (Or.inl rfl) ob_1280 h (fun r221 M222 h => ?_)
                                            refine wl_icmp_eq (tgt := 1311) dL_law_797 (by decide) rfl rfl (fun q => ?_) (fun q => ?_)
                                            · have h := h.1 q
                                              refine wl_iinc dL_law_1311 rfl rfl ?_
                                              refine wl_goto (tgt := 18) dL_law_1314 (by decide) ?_
                                              exact wl_fgt (fgk (fgk (fgk (fgk (fgn))))) h
                                            · have h := h.2 q
                                              refine wl_iconst dL_law_800 ?_
                                              exact h.elim
                                          · skip
                                            by_cases q20 : zw (z_and ((xs (zw v3).toNat).toInt) 63) = 20
                                            · refine wl_tsw (tgt := 802) dL_law_33 (by rw [q20]; decide) (by rw [q20]; decide) ?_
                                              have h := h.2.2.2.2.2.2.2.2.2.2.2.2.2.2.2.2.2.2.2.2.1 q20
                                              refine wl_aload_n dL_law_802 rfl ?_
                                              refine wl_aload_n dL_law_803 rfl ?_
                                              refine wl_iload_n dL_law_804 rfl ?_
                                              refine wl_iconst dL_law_805 ?_
                                              refine wl_iadd dL_law_806 ?_
                                              obtain ⟨c223, h⟩ := h
                                              obtain ⟨c224, h⟩ := h
                                              refine wl_sld dL_law_807 rfl c223 c224 ?_
                                              refine wl_invVi [_] dL_law_808 l12_97 kX7_never rfl rfl (Nat.le_of_ble_eq_true rfl) (Or.inl rfl) ob_64 h (fun r225 M226 h => ?_)
                                              refine wl_aload_n dL_law_811 rfl ?_
                                              refine wl_aload_n dL_law_812 rfl ?_
                                              refine wl_iload_n dL_law_813 rfl ?_
                                              refine wl_iconst dL_law_814 ?_
                                              refine wl_iadd dL_law_815 ?_
                                              obtain ⟨c227, h⟩ := h
                                              obtain ⟨c228, h⟩ := h
                                              refine wl_sld dL_law_816 rfl c227 c228 ?_
                                              refine wl_invVi [_] dL_law_817 l12_100 kX8_never rfl rfl (Nat.le_of_ble_eq_true rfl) (Or.inl rfl) ob_1280 h (fun r229 M230 h => ?_)
                                              refine wl_icmp_eq (tgt := 1311) dL_law_820 (by decide) rfl rfl (fun q => ?_) (fun q => ?_)
                                              · have h := h.1 q
                                                refine wl_iinc dL_law_1311 rfl rfl ?_
                                                refine wl_goto (tgt := 18) dL_law_1314 (by decide) ?_
                                                exact wl_fgt (fgk (fgk (fgk (fgk (fgn))))) h
                                              · have h := h.2 q
                                                refine wl_iconst dL_law_823 ?_
                                                exact h.elim
                                            · skip
                                              by_cases q21 : zw (z_and ((xs (zw v3).toNat).toInt) 63) = 21
                                              · refine wl_tsw (tgt := 825) dL_law_33 (by rw [q21]; decide) (by rw [q21]; decide) ?_
                                                have h := h.2.2.2.2.2.2.2.2.2.2.2.2.2.2.2.2.2.2.2.2.2.1 q21
                                                refine wl_aload_n dL_law_825 rfl ?_
                                                refine wl_aload_n dL_law_826 rfl ?_
                                                refine wl_iload_n dL_law_827 rfl ?_
                                                refine wl_iconst dL_law_828 ?_
                                                refine wl_iadd dL_law_829 ?_
                                                obtain ⟨c231, h⟩ := h
                                                obtain ⟨c232, h⟩ := h
                                                refine wl_sld dL_law_830 rfl c231 c232 ?_
                                                refine wl_aload_n dL_law_831 rfl ?_
                                                refine wl_iload_n dL_law_832 rfl ?_
                                                refine wl_iconst dL_law_833 ?_
                                                refine wl_iadd dL_law_834 ?_
                                                obtain ⟨c233, h⟩ := h
                                                obtain ⟨c234, h⟩ := h
                                                refine wl_sld dL_law_835 rfl c233 c234 ?_
                                                refine wl_aload_n dL_law_836 rfl ?_
                                                refine wl_iload_n dL_law_837 rfl ?_
                                                refine wl_iconst dL_law_838 ?_
                                                refine wl_iadd dL_law_839 ?_
                                                obtain ⟨c235, h⟩ := h
                                                obtain ⟨c236, h⟩ := h
                                                refine wl_sld dL_law_840 rfl c235 c236 ?_
                                                refine wl_invVi [_, _, _] dL_law_841 l12_101 kX7_needs rfl rfl (Nat.le_of_ble_eq_true rfl) (Or.inl rfl) ob_64 h (fun r237 M238 h => ?_)
                                                refine wl_aload_n dL_law_844 rfl ?_
                                                refine wl_aload_n dL_law_845 rfl ?_
                                                refine wl_iload_n dL_law_846 rfl ?_
                                                refine wl_iconst dL_law_847 ?_
                                                refine wl_iadd dL_law_848 ?_
                                                obtain ⟨c239, h⟩ := h
                                                obtain ⟨c240, h⟩ := h
                                                refine wl_sld dL_law_849 rfl c239 c240 ?_
                                                refine wl_aload_n dL_law_850 rfl ?_
                                                refine wl_iload_n dL_law_851 rfl ?_
                                                refine wl_iconst dL_law_852 ?_
                                                refine wl_iadd dL_law_853 ?_
                                                obtain ⟨c241, h⟩ := h
                                                obtain ⟨c242, h⟩ := h
                                                refine wl_sld dL_law_854 rfl c241 c242 ?_
                                                refine wl_aload_n dL_law_855 rfl ?_
                                                refine wl_iload_n dL_law_856 rfl ?_
                                                refine wl_iconst dL_law_857 ?_
                                                refine wl_iadd dL_law_858 ?_
                                                obtain ⟨c243, h⟩ := h
                                                obtain ⟨c244, h⟩ := h
                                                refine wl_sld dL_law_859 rfl c243 c244 ?_
                                                refine wl_invVi [_, _, _] dL_law_860 l12_104 kX8_needs rfl rfl (Nat.le_of_ble_eq_true rfl) (Or.inl rfl) ob_1280 h (fun r245 M246 h => ?_)
                                                refine wl_icmp_eq (tgt := 1311) dL_law_863 (by decide) rfl rfl (fun q => ?_) (fun q => ?_)
                                                · have h := h.1 q
                                                  refine wl_iinc dL_law_1311 rfl rfl ?_
                                                  refine wl_goto (tgt := 18) dL_law_1314 (by decide) ?_
                                                  exact wl_fgt (fgk (fgk (fgk (fgk (fgn))))) h
                                                · have h := h.2 q
                                                  refine wl_iconst dL_law_866 ?_
                                                  exact h.elim
                                              · skip
                                                by_cases q22 : zw (z_and ((xs (zw v3).toNat).toInt) 63) = 22
                                                · refine wl_tsw (tgt := 868) dL_law_33 (by rw [q22]; decide) (by rw [q22]; decide) ?_
                                                  have h := h.2.2.2.2.2.2.2.2.2.2.2.2.2.2.2.2.2.2.2.2.2.2.1 q22
                                                  refine wl_aload_n dL_law_868 rfl ?_
                                                  refine wl_invVi [] dL_law_869 l12_105 kX7_image rfl rfl (Nat.le_of_ble_eq_true rfl) (Or.inl rfl) ob_64 h (fun r247 M248 h => ?_)
                                                  refine wl_aload_n dL_law_872 rfl ?_
                                                  refine wl_invVi [] dL_law_873 l12_108 kX8_image rfl rfl (Nat.le_of_ble_eq_true rfl) (Or.inl rfl) ob_1280 h (fun r249 M250 h => ?_)
                                                  refine wl_icmp_eq (tgt := 1311) dL_law_876 (by decide) rfl rfl (fun q => ?_) (fun q => ?_)
                                                  · have h := h.1 q
                                                    refine wl_iinc dL_law_1311 rfl rfl ?_
                                                    refine wl_goto (tgt := 18) dL_law_1314 (by decide) ?_
                                                    exact wl_fgt (fgk (fgk (fgk (fgk (fgn))))) h
                                                  · have h := h.2 q
                                                    refine wl_iconst dL_law_879 ?_
                                                    exact h.elim
                                                · skip
                                                  by_cases q23 : zw (z_and ((xs (zw v3).toNat).toInt) 63) = 23
                                                  · refine wl_tsw (tgt := 881) dL_law_33 (by rw [q23]; decide) (by rw [q23]; decide) ?_
                                                    have h := h.2.2.2.2.2.2.2.2.2.2.2.2.2.2.2.2.2.2.2.2.2.2.2.1 q23
                                                    refine wl_aload_n dL_law_881 rfl ?_
                                                    refine wl_invVi [] dL_law_882 l12_109 kX7_back rfl rfl (Nat.le_of_ble_eq_true rfl) (Or.inl rfl) ob_64 h (fun r251 M252 h => ?_)
                                                    refine wl_aload_n dL_law_885 rfl ?_
                                                    refine wl_invVi [] dL_law_886 l12_112 kX8_back rfl rfl (Nat.le_of_ble_eq_true rfl) (Or.inl rfl) ob_1280 h (fun r253 M254 h => ?_)
                                                    refine wl_icmp_eq (tgt := 1311) dL_law_889 (by decide) rfl rfl (fun q => ?_) (fun q => ?_)
                                                    · have h := h.1 q
                                                      refine wl_iinc dL_law_1311 rfl rfl ?_
                                                      refine wl_goto (tgt := 18) dL_law_1314 (by decide) ?_
                                                      exact wl_fgt (fgk (fgk (fgk (fgk (fgn))))) h
                                                    · have h := h.2 q
                                                      refine wl_iconst dL_law_892 ?_
                                                      exact h.elim
                                                  · skip
                                                    by_cases q24 : zw (z_and ((xs (zw v3).toNat).toInt) 63) = 24
                                                    · refine wl_tsw (tgt := 894) dL_law_33 (by rw [q24]; decide) (by rw [q24]; decide) ?_
                                                      have h := h.2.2.2.2.2.2.2.2.2.2.2.2.2.2.2.2.2.2.2.2.2.2.2.2.1 q24
                                                      refine wl_aload_n dL_law_894 rfl ?_
                                                      refine wl_invVi [] dL_law_895 l12_113 kX7_undo rfl rfl (Nat.le_of_ble_eq_true rfl) (Or.inl rfl) ob_64 h (fun r255 M256 h => ?_)
                                                      refine wl_aload_n dL_law_898 rfl ?_
                                                      refine wl_invVi [] dL_law_899 l12_116 kX8_undo rfl rfl (Nat.le_of_ble_eq_true rfl) (Or.inl rfl) ob_1280 h (fun r257 M258 h => ?_)
                                                      refine wl_icmp_eq (tgt := 1311) dL_law_902 (by decide) rfl rfl (fun q => ?_) (fun q => ?_)
                                                      · have h := h.1 q
                                                        refine wl_iinc dL_law_1311 rfl rfl ?_
                                                        refine wl_goto (tgt := 18) dL_law_1314 (by decide) ?_
                                                        exact wl_fgt (fgk (fgk (fgk (fgk (fgn))))) h
                                                      · have h := h.2 q
                                                        refine wl_iconst dL_law_905 ?_
                                                        exact h.elim
                                                    · skip
                                                      by_cases q25 : zw (z_and ((xs (zw v3).toNat).toInt) 63) = 25
                                                      · refine wl_tsw (tgt := 907) dL_law_33 (by rw [q25]; decide) (by rw [q25]; decide) ?_
                                                        have h := h.2.2.2.2.2.2.2.2.2.2.2.2.2.2.2.2.2.2.2.2.2.2.2.2.2.1 q25
                                                        refine wl_aload_n dL_law_907 rfl ?_
                                                        refine wl_invVi [] dL_law_908 l12_117 kX7_redo rfl rfl (Nat.le_of_ble_eq_true rfl) (Or.inl rfl) ob_64 h (fun r259 M260 h => ?_)
                                                        refine wl_aload_n dL_law_911 rfl ?_
                                                        refine wl_invVi [] dL_law_912 l12_120 kX8_redo rfl rfl (Nat.le_of_ble_eq_true rfl) (Or.inl rfl) ob_1280 h (fun r261 M262 h => ?_)
                                                        refine wl_icmp_eq (tgt := 1311) dL_law_915 (by decide) rfl rfl (fun q => ?_) (fun q => ?_)
                                                        · have h := h.1 q
                                                          refine wl_iinc dL_law_1311 rfl rfl ?_
                                                          refine wl_goto (tgt := 18) dL_law_1314 (by decide) ?_
                                                          exact wl_fgt (fgk (fgk (fgk (fgk (fgn))))) h
                                                        · have h := h.2 q
                                                          refine wl_iconst dL_law_918 ?_
                                                          exact h.elim
                                                      · skip
                                                        by_cases q26 : zw (z_and ((xs (zw v3).toNat).toInt) 63) = 26
                                                        · refine wl_tsw (tgt := 920) dL_law_33 (by rw [q26]; decide) (by rw [q26]; decide) ?_
                                                          have h := h.2.2.2.2.2.2.2.2.2.2.2.2.2.2.2.2.2.2.2.2.2.2.2.2.2.2.1 q26
                                                          refine wl_aload_n dL_law_920 rfl ?_
                                                          refine wl_aload_n dL_law_921 rfl ?_
                                                          refine wl_iload_n dL_law_922 rfl ?_
                                                          refine wl_iconst dL_law_923 ?_
                                                          refine wl_iadd dL_law_924 ?_
                                                          obtain ⟨c263, h⟩ := h
                                                          obtain ⟨c264, h⟩ := h
                                                          refine wl_sld dL_law_925 rfl c263 c264 ?_
                                                          refine wl_invVi [_] dL_law_926 l12_121 kX7_body rfl rfl (Nat.le_of_ble_eq_true rfl) (Or.inl rfl) ob_64 h (fun r265 M266 h => ?_)
                                                          refine wl_aload_n dL_law_929 rfl ?_
                                                          refine wl_aload_n dL_law_930 rfl ?_
                                                          refine wl_iload_n dL_law_931 rfl ?_
                                                          refine wl_iconst dL_law_932 ?_
                                                          refine wl_iadd dL_law_933 ?_
                                                          obtain ⟨c267, h⟩ := h
                                                          obtain ⟨c268, h⟩ := h
                                                          refine wl_sld dL_law_934 rfl c267 c268 ?_
                                                          refine wl_invVi [_] dL_law_935 l12_124 kX8_body rfl rfl (Nat.le_of_ble_eq_true rfl) (Or.inl rfl) ob_1280 h (fun r269 M270 h => ?_)
                                                          refine wl_icmp_eq (tgt := 1311) dL_law_938 (by decide) rfl rfl (fun q => ?_) (fun q => ?_)
                                                          · have h := h.1 q
                                                            refine wl_iinc dL_law_1311 rfl rfl ?_
                                                            refine wl_goto (tgt := 18) dL_law_1314 (by decide) ?_
                                                            exact wl_fgt (fgk (fgk (fgk (fgk (fgn))))) h
                                                          · have h := h.2 q
                                                            refine wl_iconst dL_law_941 ?_
                                                            exact h.elim
                                                        · skip
                                                          by_cases q27 : zw (z_and ((xs (zw v3).toNat).toInt) 63) = 27
                                                          · refine wl_tsw (tgt := 943) dL_law_33 (by rw [q27]; decide) (by rw [q27]; decide) ?_
                                                            have h := h.2.2.2.2.2.2.2.2.2.2.2.2.2.2.2.2.2.2.2.2.2.2.2.2.2.2.2.1 q27
                                                            refine wl_aload_n dL_law_943 rfl ?_
                                                            refine wl_aload_n dL_law_944 rfl ?_
                                                            refine wl_iload_n dL_law_945 rfl ?_
                                                            refine wl_iconst dL_law_946 ?_
                                                            refine wl_iadd dL_law_947 ?_
                                                            obtain ⟨c271, h⟩ := h
                                                            obtain ⟨c272, h⟩ := h
                                                            refine wl_sld dL_law_948 rfl c271 c272 ?_
                                                            refine wl_aload_n dL_law_949 rfl ?_
                                                            refine wl_iload_n dL_law_950 rfl ?_
                                                            refine wl_iconst dL_law_951 ?_
                                                            refine wl_iadd dL_law_952 ?_
                                                            obtain ⟨c273, h⟩ := h
                                                            obtain ⟨c274, h⟩ := h
                                                            refine wl_sld dL_law_953 rfl c273 c274 ?_
                                                            refine wl_aload_n dL_law_954 rfl ?_
                                                            refine wl_iload_n dL_law_955 rfl ?_
                                                            refine wl_iconst dL_law_956 ?_
                                                            refine wl_iadd dL_law_957 ?_
                                                            obtain ⟨c275, h⟩ := h
                                                            obtain ⟨c276, h⟩ := h
                                                            refine wl_sld dL_law_958 rfl c275 c276 ?_
                                                            refine wl_invVi [_, _, _] dL_law_959 l12_125 kX7_act rfl rfl (Nat.le_of_ble_eq_true rfl) (Or.inl rfl) ob_64 h (fun r277 M278 h => ?_)
                                                            refine wl_aload_n dL_law_962 rfl ?_
                                                            refine wl_aload_n dL_law_963 rfl ?_
                                                            refine wl_iload_n dL_law_964 rfl ?_
                                                            refine wl_iconst dL_law_965 ?_
                                                            refine wl_iadd dL_law_966 ?_
                                                            obtain ⟨c279, h⟩ := h
                                                            obtain ⟨c280, h⟩ := h
                                                            refine wl_sld dL_law_967 rfl c279 c280 ?_
                                                            refine wl_aload_n dL_law_968 rfl ?_
                                                            refine wl_iload_n dL_law_969 rfl ?_
                                                            refine wl_iconst dL_law_970 ?_
                                                            refine wl_iadd dL_law_971 ?_
                                                            obtain ⟨c281, h⟩ := h
                                                            obtain ⟨c282, h⟩ := h
                                                            refine wl_sld dL_law_972 rfl c281 c282 ?_
                                                            refine wl_aload_n dL_law_973 rfl ?_
                                                            refine wl_iload_n dL_law_974 rfl ?_
                                                            refine wl_iconst dL_law_975 ?_
                                                            refine wl_iadd dL_law_976 ?_
                                                            obtain ⟨c283, h⟩ := h
                                                            obtain ⟨c284, h⟩ := h
                                                            refine wl_sld dL_law_977 rfl c283 c284 ?_
                                                            refine wl_invVi [_, _, _] dL_law_978 l12_128 kX8_act rfl rfl (Nat.le_of_ble_eq_true rfl) (Or.inl rfl) ob_1280 h (fun r285 M286 h => ?_)
                                                            refine wl_icmp_eq (tgt := 1311) dL_law_981 (by decide) rfl rfl (fun q => ?_) (fun q => ?_)
                                                            · have h := h.1 q
                                                              refine wl_iinc dL_law_1311 rfl rfl ?_
                                                              refine wl_goto (tgt := 18) dL_law_1314 (by decide) ?_
                                                              exact wl_fgt (fgk (fgk (fgk (fgk (fgn))))) h
                                                            · have h := h.2 q
                                                              refine wl_iconst dL_law_984 ?_
                                                              exact h.elim
                                                          · skip
                                                            by_cases q28 : zw (z_and ((xs (zw v3).toNat).toInt) 63) = 28
                                                            · refine wl_tsw (tgt := 986) dL_law_33 (by rw [q28]; decide) (by rw [q28]; decide) ?_
                                                              have h := h.2.2.2.2.2.2.2.2.2.2.2.2.2.2.2.2.2.2.2.2.2.2.2.2.2.2.2.2.1 q28
                                                              refine wl_aload_n dL_law_986 rfl ?_
                                                              refine wl_aload_n dL_law_987 rfl ?_
                                                              refine wl_iload_n dL_law_988 rfl ?_
                                                              refine wl_iconst dL_law_989 ?_
                                                              refine wl_iadd dL_law_990 ?_
                                                              obtain ⟨c287, h⟩ := h
                                                              obtain ⟨c288, h⟩ := h
                                                              refine wl_sld dL_law_991 rfl c287 c288 ?_
                                                              refine wl_invVi [_] dL_law_992 l12_129 kX7_trace rfl rfl (Nat.le_of_ble_eq_true rfl) (Or.inl rfl) ob_64 h (fun r289 M290 h => ?_)
                                                              refine wl_aload_n dL_law_995 rfl ?_
                                                              refine wl_aload_n dL_law_996 rfl ?_
                                                              refine wl_iload_n dL_law_997 rfl ?_
                                                              refine wl_iconst dL_law_998 ?_
                                                              refine wl_iadd dL_law_999 ?_
                                                              obtain ⟨c291, h⟩ := h
                                                              obtain ⟨c292, h⟩ := h
                                                              refine wl_sld dL_law_1000 rfl c291 c292 ?_
                                                              refine wl_invVi [_] dL_law_1001 l12_132 kX8_trace rfl rfl (Nat.le_of_ble_eq_true rfl) (Or.inl rfl) ob_1280 h (fun r293 M294 h => ?_)
                                                              refine wl_icmp_eq (tgt := 1311) dL_law_1004 (by decide) rfl rfl (fun q => ?_) (fun q => ?_)
                                                              · have h := h.1 q
                                                                refine wl_iinc dL_law_1311 rfl rfl ?_
                                                                refine wl_goto (tgt := 18) dL_law_1314 (by decide) ?_
                                                                exact wl_fgt (fgk (fgk (fgk (fgk (fgn))))) h
                                                              · have h := h.2 q
                                                                refine wl_iconst dL_law_1007 ?_
                                                                exact h.elim
                                                            · skip
                                                              by_cases q29 : zw (z_and ((xs (zw v3).toNat).toInt) 63) = 29
                                                              · refine wl_tsw (tgt := 1009) dL_law_33 (by rw [q29]; decide) (by rw [q29]; decide) ?_
                                                                have h := h.2.2.2.2.2.2.2.2.2.2.2.2.2.2.2.2.2.2.2.2.2.2.2.2.2.2.2.2.2.1 q29
                                                                refine wl_aload_n dL_law_1009 rfl ?_
                                                                refine wl_aload_n dL_law_1010 rfl ?_
                                                                refine wl_iload_n dL_law_1011 rfl ?_
                                                                refine wl_iconst dL_law_1012 ?_
                                                                refine wl_iadd dL_law_1013 ?_
                                                                obtain ⟨c295, h⟩ := h
                                                                obtain ⟨c296, h⟩ := h
                                                                refine wl_sld dL_law_1014 rfl c295 c296 ?_
                                                                refine wl_aload_n dL_law_1015 rfl ?_
                                                                refine wl_iload_n dL_law_1016 rfl ?_
                                                                refine wl_iconst dL_law_1017 ?_
                                                                refine wl_iadd dL_law_1018 ?_
                                                                obtain ⟨c297, h⟩ := h
                                                                obtain ⟨c298, h⟩ := h
                                                                refine wl_sld dL_law_1019 rfl c297 c298 ?_
                                                                refine wl_invVi [_, _] dL_law_1020 l12_133 kX7_keep rfl rfl (Nat.le_of_ble_eq_true rfl) (Or.inl rfl) ob_64 h (fun r299 M300 h => ?_)
                                                                refine wl_aload_n dL_law_1023 rfl ?_
                                                                refine wl_aload_n dL_law_1024 rfl ?_
                                                                refine wl_iload_n dL_law_1025 rfl ?_
                                                                refine wl_iconst dL_law_1026 ?_
                                                                refine wl_iadd dL_law_1027 ?_
                                                                obtain ⟨c301, h⟩ := h
                                                                obtain ⟨c302, h⟩ := h
                                                                refine wl_sld dL_law_1028 rfl c301 c302 ?_
                                                                refine wl_aload_n dL_law_1029 rfl ?_
                                                                refine wl_iload_n dL_law_1030 rfl ?_
                                                                refine wl_iconst dL_law_1031 ?_
                                                                refine wl_iadd dL_law_1032 ?_
                                                                obtain ⟨c303, h⟩ := h
                                                                obtain ⟨c304, h⟩ := h
                                                                refine wl_sld dL_law_1033 rfl c303 c304 ?_
                                                                refine wl_invVi [_, _] dL_law_1034 l12_136 kX8_keep rfl rfl (Nat.le_of_ble_eq_true rfl) (Or.inl rfl) ob_1280 h (fun r305 M306 h => ?_)
                                                                refine wl_icmp_eq (tgt := 1311) dL_law_1037 (by decide) rfl rfl (fun q => ?_) (fun q => ?_)
                                                                · have h := h.1 q
                                                                  refine wl_iinc dL_law_1311 rfl rfl ?_
                                                                  refine wl_goto (tgt := 18) dL_law_1314 (by decide) ?_
                                                                  exact wl_fgt (fgk (fgk (fgk (fgk (fgn))))) h
                                                                · have h := h.2 q
                                                                  refine wl_iconst dL_law_1040 ?_
                                                                  exact h.elim
                                                              · skip
                                                                by_cases q30 : zw (z_and ((xs (zw v3).toNat).toInt) 63) = 30
                                                                · refine wl_tsw (tgt := 1042) dL_law_33 (by rw [q30]; decide) (by rw [q30]; decide) ?_
                                                                  have h := h.2.2.2.2.2.2.2.2.2.2.2.2.2.2.2.2.2.2.2.2.2.2.2.2.2.2.2.2.2.2.1 q30
                                                                  refine wl_aload_n dL_law_1042 rfl ?_
                                                                  refine wl_aload_n dL_law_1043 rfl ?_
                                                                  refine wl_iload_n dL_law_1044 rfl ?_
                                                                  refine wl_iconst dL_law_1045 ?_
                                                                  refine wl_iadd dL_law_1046 ?_
                                                                  obtain ⟨c307, h⟩ := h
                                                                  obtain ⟨c308, h⟩ := h
                                                                  refine wl_sld dL_law_1047 rfl c307 c308 ?_
                                                                  refine wl_aload_n dL_law_1048 rfl ?_
                                                                  refine wl_iload_n dL_law_1049 rfl ?_
                                                                  refine wl_iconst dL_law_1050 ?_
                                                                  refine wl_iadd dL_law_1051 ?_
                                                                  obtain ⟨c309, h⟩ := h
                                                                  obtain ⟨c310, h⟩ := h
                                                                  refine wl_sld dL_law_1052 rfl c309 c310 ?_
                                                                  refine wl_aload_n dL_law_1053 rfl ?_
                                                                  refine wl_iload_n dL_law_1054 rfl ?_
                                                                  refine wl_iconst dL_law_1055 ?_
                                                                  refine wl_iadd dL_law_1056 ?_
                                                                  obtain ⟨c311, h⟩ := h
                                                                  obtain ⟨c312, h⟩ := h
                                                                  refine wl_sld dL_law_1057 rfl c311 c312 ?_
                                                                  refine wl_invVi [_, _, _] dL_law_1058 l12_137 kX7_row rfl rfl (Nat.le_of_ble_eq_true rfl) (Or.inl rfl) ob_64 h (fun r313 M314 h => ?_)
                                                                  refine wl_aload_n dL_law_1061 rfl ?_
                                                                  refine wl_aload_n dL_law_1062 rfl ?_
                                                                  refine wl_iload_n dL_law_1063 rfl ?_
                                                                  refine wl_iconst dL_law_1064 ?_
                                                                  refine wl_iadd dL_law_1065 ?_
                                                                  obtain ⟨c315, h⟩ := h
                                                                  obtain ⟨c316, h⟩ := h
                                                                  refine wl_sld dL_law_1066 rfl c315 c316 ?_
                                                                  refine wl_aload_n dL_law_1067 rfl ?_
                                                                  refine wl_iload_n dL_law_1068 rfl ?_
                                                                  refine wl_iconst dL_law_1069 ?_
                                                                  refine wl_iadd dL_law_1070 ?_
                                                                  obtain ⟨c317, h⟩ := h
                                                                  obtain ⟨c318, h⟩ := h
                                                                  refine wl_sld dL_law_1071 rfl c317 c318 ?_
                                                                  refine wl_aload_n dL_law_1072 rfl ?_
                                                                  refine wl_iload_n dL_law_1073 rfl ?_
                                                                  refine wl_iconst dL_law_1074 ?_
                                                                  refine wl_iadd dL_law_1075 ?_
                                                                  obtain ⟨c319, h⟩ := h
                                                                  obtain ⟨c320, h⟩ := h
                                                                  refine wl_sld dL_law_1076 rfl c319 c320 ?_
                                                                  refine wl_invVi [_, _, _] dL_law_1077 l12_140 kX8_row rfl rfl (Nat.le_of_ble_eq_true rfl) (Or.inl rfl) ob_1280 h (fun r321 M322 h => ?_)
                                                                  refine wl_icmp_eq (tgt := 1311) dL_law_1080 (by decide) rfl rfl (fun q => ?_) (fun q => ?_)
                                                                  · have h := h.1 q
                                                                    refine wl_iinc dL_law_1311 rfl rfl ?_
                                                                    refine wl_goto (tgt := 18) dL_law_1314 (by decide) ?_
                                                                    exact wl_fgt (fgk (fgk (fgk (fgk (fgn))))) h
                                                                  · have h := h.2 q
                                                                    refine wl_iconst dL_law_1083 ?_
                                                                    exact h.elim
                                                                · skip
                                                                  by_cases q31 : zw (z_and ((xs (zw v3).toNat).toInt) 63) = 31
                                                                  · refine wl_tsw (tgt := 1085) dL_law_33 (by rw [q31]; decide) (by rw [q31]; decide) ?_
                                                                    have h := h.2.2.2.2.2.2.2.2.2.2.2.2.2.2.2.2.2.2.2.2.2.2.2.2.2.2.2.2.2.2.2.1 q31
                                                                    refine wl_aload_n dL_law_1085 rfl ?_
                                                                    refine wl_aload_n dL_law_1086 rfl ?_
                                                                    refine wl_iload_n dL_law_1087 rfl ?_
                                                                    refine wl_iconst dL_law_1088 ?_
                                                                    refine wl_iadd dL_law_1089 ?_
                                                                    obtain ⟨c323, h⟩ := h
                                                                    obtain ⟨c324, h⟩ := h
                                                                    refine wl_sld dL_law_1090 rfl c323 c324 ?_
                                                                    refine wl_aload_n dL_law_1091 rfl ?_
                                                                    refine wl_iload_n dL_law_1092 rfl ?_
                                                                    refine wl_iconst dL_law_1093 ?_
                                                                    refine wl_iadd dL_law_1094 ?_
                                                                    obtain ⟨c325, h⟩ := h
                                                                    obtain ⟨c326, h⟩ := h
                                                                    refine wl_sld dL_law_1095 rfl c325 c326 ?_
                                                                    refine wl_aload_n dL_law_1096 rfl ?_
                                                                    refine wl_iload_n dL_law_1097 rfl ?_
                                                                    refine wl_iconst dL_law_1098 ?_
                                                                    refine wl_iadd dL_law_1099 ?_
                                                                    obtain ⟨c327, h⟩ := h
                                                                    obtain ⟨c328, h⟩ := h
                                                                    refine wl_sld dL_law_1100 rfl c327 c328 ?_
                                                                    refine wl_i2l dL_law_1101 ?_
                                                                    refine wl_bipush dL_law_1102 (by decide) ?_
                                                                    refine wl_lshl dL_law_1104 ?_
                                                                    refine wl_aload_n dL_law_1105 rfl ?_
                                                                    refine wl_iload_n dL_law_1106 rfl ?_
                                                                    refine wl_iconst dL_law_1107 ?_
                                                                    refine wl_iadd dL_law_1108 ?_
                                                                    obtain ⟨c329, h⟩ := h
                                                                    obtain ⟨c330, h⟩ := h
                                                                    refine wl_sld dL_law_1109 rfl c329 c330 ?_
                                                                    refine wl_i2l dL_law_1110 ?_
                                                                    refine wl_ldc2 (n := 4294967295) dL_law_1111 o12_141 ?_
                                                                    refine wl_land dL_law_1114 ?_
                                                                    refine wl_lor dL_law_1115 ?_
                                                                    refine wl_invVi [_, _, _] dL_law_1116 l12_143 kX7_put rfl rfl (Nat.le_of_ble_eq_true rfl) (Or.inl rfl) ob_64 h (fun r331 M332 h => ?_)
                                                                    refine wl_aload_n dL_law_1119 rfl ?_
                                                                    refine wl_aload_n dL_law_1120 rfl ?_
                                                                    refine wl_iload_n dL_law_1121 rfl ?_
                                                                    refine wl_iconst dL_law_1122 ?_
                                                                    refine wl_iadd dL_law_1123 ?_
                                                                    obtain ⟨c333, h⟩ := h
                                                                    obtain ⟨c334, h⟩ := h
                                                                    refine wl_sld dL_law_1124 rfl c333 c334 ?_
                                                                    refine wl_aload_n dL_law_1125 rfl ?_
                                                                    refine wl_iload_n dL_law_1126 rfl ?_
                                                                    refine wl_iconst dL_law_1127 ?_
                                                                    refine wl_iadd dL_law_1128 ?_
                                                                    obtain ⟨c335, h⟩ := h
                                                                    obtain ⟨c336, h⟩ := h
                                                                    refine wl_sld dL_law_1129 rfl c335 c336 ?_
                                                                    refine wl_aload_n dL_law_1130 rfl ?_
                                                                    refine wl_iload_n dL_law_1131 rfl ?_
                                                                    refine wl_iconst dL_law_1132 ?_
                                                                    refine wl_iadd dL_law_1133 ?_
                                                                    obtain ⟨c337, h⟩ := h
                                                                    obtain ⟨c338, h⟩ := h
                                                                    refine wl_sld dL_law_1134 rfl c337 c338 ?_
                                                                    refine wl_i2l dL_law_1135 ?_
                                                                    refine wl_bipush dL_law_1136 (by decide) ?_
                                                                    refine wl_lshl dL_law_1138 ?_
                                                                    refine wl_aload_n dL_law_1139 rfl ?_
                                                                    refine wl_iload_n dL_law_1140 rfl ?_
                                                                    refine wl_iconst dL_law_1141 ?_
                                                                    refine wl_iadd dL_law_1142 ?_
                                                                    obtain ⟨c339, h⟩ := h
                                                                    obtain ⟨c340, h⟩ := h
                                                                    refine wl_sld dL_law_1143 rfl c339 c340 ?_
                                                                    refine wl_i2l dL_law_1144 ?_
                                                                    refine wl_ldc2 (n := 4294967295) dL_law_1145 o12_141 ?_
                                                                    refine wl_land dL_law_1148 ?_
                                                                    refine wl_lor dL_law_1149 ?_
                                                                    refine wl_invVi [_, _, _] dL_law_1150 l12_147 kX8_put rfl rfl (Nat.le_of_ble_eq_true rfl) (Or.inl rfl) ob_1280 h (fun r341 M342 h => ?_)
                                                                    refine wl_icmp_eq (tgt := 1311) dL_law_1153 (by decide) rfl rfl (fun q => ?_) (fun q => ?_)
                                                                    · have h := h.1 q
                                                                      refine wl_iinc dL_law_1311 rfl rfl ?_
                                                                      refine wl_goto (tgt := 18) dL_law_1314 (by decide) ?_
                                                                      exact wl_fgt (fgk (fgk (fgk (fgk (fgn))))) h
                                                                    · have h := h.2 q
                                                                      refine wl_iconst dL_law_1156 ?_
                                                                      exact h.elim
                                                                  · skip
                                                                    by_cases q32 : zw (z_and ((xs (zw v3).toNat).toInt) 63) = 32
                                                                    · refine wl_tsw (tgt := 1158) dL_law_33 (by rw [q32]; decide) (by rw [q32]; decide) ?_
                                                                      have h := h.2.2.2.2.2.2.2.2.2.2.2.2.2.2.2.2.2.2.2.2.2.2.2.2.2.2.2.2.2.2.2.2.1 q32
                                                                      refine wl_aload_n dL_law_1158 rfl ?_
                                                                      refine wl_aload_n dL_law_1159 rfl ?_
                                                                      refine wl_iload_n dL_law_1160 rfl ?_
                                                                      refine wl_iconst dL_law_1161 ?_
                                                                      refine wl_iadd dL_law_1162 ?_
                                                                      obtain ⟨c343, h⟩ := h
                                                                      obtain ⟨c344, h⟩ := h
                                                                      refine wl_sld dL_law_1163 rfl c343 c344 ?_
                                                                      refine wl_aload_n dL_law_1164 rfl ?_
                                                                      refine wl_iload_n dL_law_1165 rfl ?_
                                                                      refine wl_iconst dL_law_1166 ?_
                                                                      refine wl_iadd dL_law_1167 ?_
                                                                      obtain ⟨c345, h⟩ := h
                                                                      obtain ⟨c346, h⟩ := h
                                                                      refine wl_sld dL_law_1168 rfl c345 c346 ?_
                                                                      refine wl_invVl [_, _] dL_law_1169 l12_148 kX7_element rfl rfl (Nat.le_of_ble_eq_true rfl) rfl ob_64 h (fun r347 M348 h => ?_)
                                                                      refine wl_aload_n dL_law_1172 rfl ?_
                                                                      refine wl_aload_n dL_law_1173 rfl ?_
                                                                      refine wl_iload_n dL_law_1174 rfl ?_
                                                                      refine wl_iconst dL_law_1175 ?_
                                                                      refine wl_iadd dL_law_1176 ?_
                                                                      obtain ⟨c349, h⟩ := h
                                                                      obtain ⟨c350, h⟩ := h
                                                                      refine wl_sld dL_law_1177 rfl c349 c350 ?_
                                                                      refine wl_aload_n dL_law_1178 rfl ?_
                                                                      refine wl_iload_n dL_law_1179 rfl ?_
                                                                      refine wl_iconst dL_law_1180 ?_
                                                                      refine wl_iadd dL_law_1181 ?_
                                                                      obtain ⟨c351, h⟩ := h
                                                                      obtain ⟨c352, h⟩ := h
                                                                      refine wl_sld dL_law_1182 rfl c351 c352 ?_
                                                                      refine wl_invVl [_, _] dL_law_1183 l12_152 kX8_element rfl rfl (Nat.le_of_ble_eq_true rfl) rfl ob_1280 h (fun r353 M354 h => ?_)
                                                                      refine wl_lcmp dL_law_1186 ?_
                                                                      refine wl_if_eq (tgt := 1311) dL_law_1187 (by decide) rfl (fun q => ?_) (fun q => ?_)
                                                                      · have h := h.1 q
                                                                        refine wl_iinc dL_law_1311 rfl rfl ?_
                                                                        refine wl_goto (tgt := 18) dL_law_1314 (by decide) ?_
                                                                        exact wl_fgt (fgk (fgk (fgk (fgk (fgn))))) h
                                                                      · have h := h.2 q
                                                                        refine wl_iconst dL_law_1190 ?_
                                                                        exact h.elim
                                                                    · skip
                                                                      by_cases q33 : zw (z_and ((xs (zw v3).toNat).toInt) 63) = 33
                                                                      · refine wl_tsw (tgt := 1192) dL_law_33 (by rw [q33]; decide) (by rw [q33]; decide) ?_
                                                                        have h := h.2.2.2.2.2.2.2.2.2.2.2.2.2.2.2.2.2.2.2.2.2.2.2.2.2.2.2.2.2.2.2.2.2.1 q33
                                                                        refine wl_aload_n dL_law_1192 rfl ?_
                                                                        refine wl_aload_n dL_law_1193 rfl ?_
                                                                        refine wl_iload_n dL_law_1194 rfl ?_
                                                                        refine wl_iconst dL_law_1195 ?_
                                                                        refine wl_iadd dL_law_1196 ?_
                                                                        obtain ⟨c355, h⟩ := h
                                                                        obtain ⟨c356, h⟩ := h
                                                                        refine wl_sld dL_law_1197 rfl c355 c356 ?_
                                                                        refine wl_aload_n dL_law_1198 rfl ?_
                                                                        refine wl_iload_n dL_law_1199 rfl ?_
                                                                        refine wl_iconst dL_law_1200 ?_
                                                                        refine wl_iadd dL_law_1201 ?_
                                                                        obtain ⟨c357, h⟩ := h
                                                                        obtain ⟨c358, h⟩ := h
                                                                        refine wl_sld dL_law_1202 rfl c357 c358 ?_
                                                                        refine wl_aload_n dL_law_1203 rfl ?_
                                                                        refine wl_iload_n dL_law_1204 rfl ?_
                                                                        refine wl_iconst dL_law_1205 ?_
                                                                        refine wl_iadd dL_law_1206 ?_
                                                                        obtain ⟨c359, h⟩ := h
                                                                        obtain ⟨c360, h⟩ := h
                                                                        refine wl_sld dL_law_1207 rfl c359 c360 ?_
                                                                        refine wl_aload_n dL_law_1208 rfl ?_
                                                                        refine wl_iload_n dL_law_1209 rfl ?_
                                                                        refine wl_iconst dL_law_1210 ?_
                                                                        refine wl_iadd dL_law_1211 ?_
                                                                        obtain ⟨c361, h⟩ := h
                                                                        obtain ⟨c362, h⟩ := h
                                                                        refine wl_sld dL_law_1212 rfl c361 c362 ?_
                                                                        refine wl_aload_n dL_law_1213 rfl ?_
                                                                        refine wl_iload_n dL_law_1214 rfl ?_
                                                                        refine wl_iconst dL_law_1215 ?_
                                                                        refine wl_iadd dL_law_1216 ?_
                                                                        obtain ⟨c363, h⟩ := h
                                                                        obtain ⟨c364, h⟩ := h
                                                                        refine wl_sld dL_law_1217 rfl c363 c364 ?_
                                                                        refine wl_invVi [_, _, _, _, _] dL_law_1218 l12_153 kX7_shift rfl rfl (Nat.le_of_ble_eq_true rfl) (Or.inl rfl) ob_64 h (fun r365 M366 h => ?_)
                                                                        refine wl_aload_n dL_law_1221 rfl ?_
                                                                        refine wl_aload_n dL_law_1222 rfl ?_
                                                                        refine wl_iload_n dL_law_1223 rfl ?_
                                                                        refine wl_iconst dL_law_1224 ?_
                                                                        refine wl_iadd dL_law_1225 ?_
                                                                        obtain ⟨c367, h⟩ := h
                                                                        obtain ⟨c368, h⟩ := h
                                                                        refine wl_sld dL_law_1226 rfl c367 c368 ?_
                                                                        refine wl_aload_n dL_law_1227 rfl ?_
                                                                        refine wl_iload_n dL_law_1228 rfl ?_
                                                                        refine wl_iconst dL_law_1229 ?_
                                                                        refine wl_iadd dL_law_1230 ?_
                                                                        obtain ⟨c369, h⟩ := h
                                                                        obtain ⟨c370, h⟩ := h
                                                                        refine wl_sld dL_law_1231 rfl c369 c370 ?_
                                                                        refine wl_aload_n dL_law_1232 rfl ?_
                                                                        refine wl_iload_n dL_law_1233 rfl ?_
                                                                        refine wl_iconst dL_law_1234 ?_
                                                                        refine wl_iadd dL_law_1235 ?_
                                                                        obtain ⟨c371, h⟩ := h
                                                                        obtain ⟨c372, h⟩ := h
                                                                        refine wl_sld dL_law_1236 rfl c371 c372 ?_
                                                                        refine wl_aload_n dL_law_1237 rfl ?_
                                                                        refine wl_iload_n dL_law_1238 rfl ?_
                                                                        refine wl_iconst dL_law_1239 ?_
                                                                        refine wl_iadd dL_law_1240 ?_
                                                                        obtain ⟨c373, h⟩ := h
                                                                        obtain ⟨c374, h⟩ := h
                                                                        refine wl_sld dL_law_1241 rfl c373 c374 ?_
                                                                        refine wl_aload_n dL_law_1242 rfl ?_
                                                                        refine wl_iload_n dL_law_1243 rfl ?_
                                                                        refine wl_iconst dL_law_1244 ?_
                                                                        refine wl_iadd dL_law_1245 ?_
                                                                        obtain ⟨c375, h⟩ := h
                                                                        obtain ⟨c376, h⟩ := h
                                                                        refine wl_sld dL_law_1246 rfl c375 c376 ?_
                                                                        refine wl_invVi [_, _, _, _, _] dL_law_1247 l12_157 kX8_shift rfl rfl (Nat.le_of_ble_eq_true rfl) (Or.inl rfl) ob_1280 h (fun r377 M378 h => ?_)
                                                                        refine wl_icmp_eq (tgt := 1311) dL_law_1250 (by decide) rfl rfl (fun q => ?_) (fun q => ?_)
                                                                        · have h := h.1 q
                                                                          refine wl_iinc dL_law_1311 rfl rfl ?_
                                                                          refine wl_goto (tgt := 18) dL_law_1314 (by decide) ?_
                                                                          exact wl_fgt (fgk (fgk (fgk (fgk (fgn))))) h
                                                                        · have h := h.2 q
                                                                          refine wl_iconst dL_law_1253 ?_
                                                                          exact h.elim
                                                                      · skip
                                                                        by_cases q34 : zw (z_and ((xs (zw v3).toNat).toInt) 63) = 34
                                                                        · refine wl_tsw (tgt := 1255) dL_law_33 (by rw [q34]; decide) (by rw [q34]; decide) ?_
                                                                          have h := h.2.2.2.2.2.2.2.2.2.2.2.2.2.2.2.2.2.2.2.2.2.2.2.2.2.2.2.2.2.2.2.2.2.2.1 q34
                                                                          refine wl_aload_n dL_law_1255 rfl ?_
                                                                          refine wl_aload_n dL_law_1256 rfl ?_
                                                                          refine wl_iload_n dL_law_1257 rfl ?_
                                                                          refine wl_iconst dL_law_1258 ?_
                                                                          refine wl_iadd dL_law_1259 ?_
                                                                          obtain ⟨c379, h⟩ := h
                                                                          obtain ⟨c380, h⟩ := h
                                                                          refine wl_sld dL_law_1260 rfl c379 c380 ?_
                                                                          refine wl_aload_n dL_law_1261 rfl ?_
                                                                          refine wl_iload_n dL_law_1262 rfl ?_
                                                                          refine wl_iconst dL_law_1263 ?_
                                                                          refine wl_iadd dL_law_1264 ?_
                                                                          obtain ⟨c381, h⟩ := h
                                                                          obtain ⟨c382, h⟩ := h
                                                                          refine wl_sld dL_law_1265 rfl c381 c382 ?_
                                                                          refine wl_invVi [_, _] dL_law_1266 l12_158 kX7_taken rfl rfl (Nat.le_of_ble_eq_true rfl) (Or.inl rfl) ob_64 h (fun r383 M384 h => ?_)
                                                                          refine wl_aload_n dL_law_1269 rfl ?_
                                                                          refine wl_aload_n dL_law_1270 rfl ?_
                                                                          refine wl_iload_n dL_law_1271 rfl ?_
                                                                          refine wl_iconst dL_law_1272 ?_
                                                                          refine wl_iadd dL_law_1273 ?_
                                                                          obtain ⟨c385, h⟩ := h
                                                                          obtain ⟨c386, h⟩ := h
                                                                          refine wl_sld dL_law_1274 rfl c385 c386 ?_
                                                                          refine wl_aload_n dL_law_1275 rfl ?_
                                                                          refine wl_iload_n dL_law_1276 rfl ?_
                                                                          refine wl_iconst dL_law_1277 ?_
                                                                          refine wl_iadd dL_law_1278 ?_
                                                                          obtain ⟨c387, h⟩ := h
                                                                          obtain ⟨c388, h⟩ := h
                                                                          refine wl_sld dL_law_1279 rfl c387 c388 ?_
                                                                          refine wl_invVi [_, _] dL_law_1280 l12_161 kX8_taken rfl rfl (Nat.le_of_ble_eq_true rfl) (Or.inl rfl) ob_1280 h (fun r389 M390 h => ?_)
                                                                          refine wl_icmp_eq (tgt := 1311) dL_law_1283 (by decide) rfl rfl (fun q => ?_) (fun q => ?_)
                                                                          · have h := h.1 q
                                                                            refine wl_iinc dL_law_1311 rfl rfl ?_
                                                                            refine wl_goto (tgt := 18) dL_law_1314 (by decide) ?_
                                                                            exact wl_fgt (fgk (fgk (fgk (fgk (fgn))))) h
                                                                          · have h := h.2 q
                                                                            refine wl_iconst dL_law_1286 ?_
                                                                            exact h.elim
                                                                        · skip
                                                                          by_cases q35 : zw (z_and ((xs (zw v3).toNat).toInt) 63) = 35
                                                                          · refine wl_tsw (tgt := 1288) dL_law_33 (by rw [q35]; decide) (by rw [q35]; decide) ?_
                                                                            have h := h.2.2.2.2.2.2.2.2.2.2.2.2.2.2.2.2.2.2.2.2.2.2.2.2.2.2.2.2.2.2.2.2.2.2.2.1 q35
                                                                            refine wl_aload_n dL_law_1288 rfl ?_
                                                                            refine wl_aload_n dL_law_1289 rfl ?_
                                                                            refine wl_iload_n dL_law_1290 rfl ?_
                                                                            refine wl_iconst dL_law_1291 ?_
                                                                            refine wl_iadd dL_law_1292 ?_
                                                                            obtain ⟨c391, h⟩ := h
                                                                            obtain ⟨c392, h⟩ := h
                                                                            refine wl_sld dL_law_1293 rfl c391 c392 ?_
                                                                            refine wl_invVi [_] dL_law_1294 l12_162 kX7_count rfl rfl (Nat.le_of_ble_eq_true rfl) (Or.inl rfl) ob_64 h (fun r393 M394 h => ?_)
                                                                            refine wl_aload_n dL_law_1297 rfl ?_
                                                                            refine wl_aload_n dL_law_1298 rfl ?_
                                                                            refine wl_iload_n dL_law_1299 rfl ?_
                                                                            refine wl_iconst dL_law_1300 ?_
                                                                            refine wl_iadd dL_law_1301 ?_
                                                                            obtain ⟨c395, h⟩ := h
                                                                            obtain ⟨c396, h⟩ := h
                                                                            refine wl_sld dL_law_1302 rfl c395 c396 ?_
                                                                            refine wl_invVi [_] dL_law_1303 l12_165 kX8_count rfl rfl (Nat.le_of_ble_eq_true rfl) (Or.inl rfl) ob_1280 h (fun r397 M398 h => ?_)
                                                                            refine wl_icmp_eq (tgt := 1311) dL_law_1306 (by decide) rfl rfl (fun q => ?_) (fun q => ?_)
                                                                            · have h := h.1 q
                                                                              refine wl_iinc dL_law_1311 rfl rfl ?_
                                                                              refine wl_goto (tgt := 18) dL_law_1314 (by decide) ?_
                                                                              exact wl_fgt (fgk (fgk (fgk (fgk (fgn))))) h
                                                                            · have h := h.2 q
                                                                              refine wl_iconst dL_law_1309 ?_
                                                                              exact h.elim
                                                                          · skip
                                                                            have hz : (33 : Int) + zts (1278) 0 35 #[159, 192, 235, 268, 291, 324, 357, 400, 433, 456, 469, 502, 545, 568, 591, 604, 637, 670, 703, 736, 769, 792, 835, 848, 861, 874, 887, 910, 953, 976, 1009, 1052, 1125, 1159, 1222, 1255] (zw (z_and ((xs (zw v3).toNat).toInt) 63)) = (1311 : Nat) := by
                                                                              rcases (show zw (z_and ((xs (zw v3).toNat).toInt) 63) < 0 ∨ 35 < zw (z_and ((xs (zw v3).toNat).toInt) 63) by omega) with z | z <;> first | (rw [zts, if_pos (Or.inl z)]; rfl) | (rw [zts, if_pos (Or.inr z)]; rfl) | (rw [z]; decide)
                                                                            have hn : ¬ (zw (z_and ((xs (zw v3).toNat).toInt) 63) < 0 ∨ 35 < zw (z_and ((xs (zw v3).toNat).toInt) 63)) → ((zw (z_and ((xs (zw v3).toNat).toInt) 63) - 0).toNat) < (#[159, 192, 235, 268, 291, 324, 357, 400, 433, 456, 469, 502, 545, 568, 591, 604, 637, 670, 703, 736, 769, 792, 835, 848, 861, 874, 887, 910, 953, 976, 1009, 1052, 1125, 1159, 1222, 1255] : Array Int).size := by
                                                                              intro z
                                                                              show _ < 36
                                                                              omega
                                                                            refine wl_tsw (tgt := 1311) dL_law_33 hz hn ?_
                                                                            have h := h.2.2.2.2.2.2.2.2.2.2.2.2.2.2.2.2.2.2.2.2.2.2.2.2.2.2.2.2.2.2.2.2.2.2.2.2 q0 q1 q2 q3 q4 q5 q6 q7 q8 q9 q10 q11 q12 q13 q14 q15 q16 q17 q18 q19 q20 q21 q22 q23 q24 q25 q26 q27 q28 q29 q30 q31 q32 q33 q34 q35
                                                                            refine wl_iinc dL_law_1311 rfl rfl ?_
                                                                            refine wl_goto (tgt := 18) dL_law_1314 (by decide) ?_
                                                                            exact wl_fgt (fgk (fgk (fgk (fgk (fgn))))) h
