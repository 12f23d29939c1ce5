/-! who holds which name -/
theorem FrL_rf (M : zM) : FrL M M := ⟨fun _ _ _ _ _ => rfl, fun _ _ => rfl⟩
theorem FrL_tr {M M2 M3 : zM} (h : FrL M M2) (g : FrL M2 M3) : FrL M M3 := ⟨fun i j a b c => by rw [g.1 i j a b c, h.1 i j a b c], fun i j => by rw [g.2, h.2]⟩
theorem FrQ_rf (M : zM) : FrQ M M := ⟨fun _ _ _ _ => rfl, fun _ _ => rfl⟩
theorem FrQ_tr {M M2 M3 : zM} (h : FrQ M M2) (g : FrQ M2 M3) : FrQ M M3 := ⟨fun i j a b => by rw [g.1 i j a b, h.1 i j a b], fun i j => by rw [g.2, h.2]⟩
/-- what the law is told of p, who knows the bearer b, in a year -/
def fx (V : zV) (p b : Nat) (y : Int) (j : Nat) : Int :=
  if j = 0 then y - V 0 p else if j = 1 then (if V 1 b < y then y - V 1 b else 0) else if j = 2 then V 7 (V 2 b).toNat else if j = 3 then V 8 (V 2 b).toNat else if j = 4 then (if p = b then 1 else 0) else V 2 b
def hlB (V : zV) (LS : Option (List lwL)) (y : Int) (p b : Nat) : Bool := decide (lvv (fx V p b y) LS ≠ 0)
theorem c_X2_tell {d : Nat} {M : zM} {Q : Int → zM → Prop} (hd : 1 ≤ d) (f : Nat → Int) (hf : ∀ j, j < 6 → zw (f j) = f j) (v1 v2 v3 v4 v5 v6 : Int) (e1 : v1 = f 0) (e2 : v2 = f 1) (e3 : v3 = f 2) (e4 : v4 = f 3) (e5 : v5 = f 4) (e6 : v6 = f 5) (h : ∀ M2 : zM, FrL M M2 → (∀ j, j < 6 → zg M2 137 j = f j) → Q 0 M2) : Ev d mX2_tell [.ref 128, zI v1, zI v2, zI v3, zI v4, zI v5, zI v6] M Q := by
  obtain ⟨d, rfl, -⟩ := e_of 0 hd
  subst e1 e2 e3 e4 e5 e6
  refine e_X2_tell _ _ _ _ _ _ (v_X2_tell_0 _ _ _ _ _ _ ?_)
  rintro _ rfl _ rfl _ rfl _ rfl _ rfl _ rfl
  refine h _ ⟨fun i j a b c => ?_, fun _ _ => rfl⟩ (fun j hj => ?_)
  · rw [zg_zsi _ _ _ _ a, zg_zsi _ _ _ _ a, zg_zsi _ _ _ _ a, zg_zsi _ _ _ _ a, zg_zsi _ _ _ _ a, zg_zsi _ _ _ _ a]
  · have c : j = 0 ∨ j = 1 ∨ j = 2 ∨ j = 3 ∨ j = 4 ∨ j = 5 := by omega
    simp only [zg_zs, true_and]
    rcases c with rfl | rfl | rfl | rfl | rfl | rfl <;> simp only [hf _ hj] <;> rfl
theorem fx_w {V : zV} {n k p b : Nat} {y : Int} (hV : Vok n k V) (hp : p < n) (hb : b < n) (hy0 : 0 ≤ y) (hy1 : y < 100) (hn : 0 ≤ V 2 b) : ∀ j, j < 6 → zw (fx V p b y j) = fx V p b y j := by
  obtain ⟨v1, v2, v3, v4, v5, v6, v7, v8⟩ := hV
  have a1 := v3 p hp
  have a2 := v3 b hb
  have a3 := v8 (V 2 b).toNat (by omega)
  intro j hj
  unfold fx
  split
  · exact zw_of (by omega) (by omega)
  · split
    · split
      · exact zw_of (by omega) (by omega)
      · decide
    · split
      · exact zw_of (by omega) (by omega)
      · split
        · exact zw_of (by omega) (by omega)
        · split
          · split
            · decide
            · decide
          · exact zw_of (by omega) (by omega)
theorem c_X4_wouldHold {d : Nat} {M : zM} {Q : Int → zM → Prop} (hd : 4 ≤ d) (o n k : Nat) (V : zV) (ho : zob o 4) (ho2 : o = 192 ∨ o = 256) (hV : Vok n k V) (hC : CV o n k V M) (LS : Option (List lwL)) (hL : LC M LS) (p b : Nat) (hp : p < n) (hb : b < n) (y : Int) (hy0 : 0 ≤ y) (hy1 : y < 100) (hn : 0 ≤ V 2 b) (h : ∀ M2 : zM, FrL M M2 → Q (bz (hlB V LS y p b = true)) M2) : Ev d mX4_wouldHold [.ref o, zI (p : Int), zI (b : Int), zI y] M Q := by
  obtain ⟨d, rfl, hdd⟩ := e_of 3 hd; replace hd := hdd
  have fw := fx_w hV hp hb hy0 hy1 hn
  obtain ⟨v1, v2, v3, v4, v5, v6, v7, v8⟩ := id hV
  obtain ⟨c1, c2, c3, c4, c5, c6⟩ := id hC
  have a1 := v3 p hp
  have a2 := v3 b hb
  have a3 := v8 (V 2 b).toNat (by omega)
  have wp1 : zw (p : Int) = (p : Int) := zw_n (by omega)
  have wb1 : zw (b : Int) = (b : Int) := zw_n (by omega)
  have tp : ((p : Int)).toNat = p := by omega
  have tb : ((b : Int)).toNat = b := by omega
  have wn : zw (V 2 b) = V 2 b := zw_of (by omega) (by omega)
  have go : ∀ s : Int, s = (if p = b then 1 else 0) → wp (Ev d) 4 cX4_wouldHold (some .boolean) Q 39 [some (.ref o), some (zI (p : Int)), none, some (zI y), some (zI (V 2 b)), some (zI (if V 1 b < y then y - V 1 b else 0)), none] [zI s] M := by
    intro s hs
    refine v_X4_wouldHold_39 o _ _ _ _ _ ho ?_
    rw [wp1, tp, wn, (c4 p hp).1, (c6 _ (by omega)).1, (c6 _ (by omega)).2]
    refine ⟨by omega, by omega, by omega, by omega, by omega, by omega, c_X2_tell (by omega) (fx V p b y) fw _ _ _ _ _ _ rfl rfl rfl rfl (by rw [hs]; rfl) rfl (fun M2 b1 b2 => ?_)⟩
    refine c_X2_reckon hd (fx V p b y) LS (LC_C (FrL_C b1) hL) b2 (fun M3 b3 wv => ?_)
    have b4 : FrL M M3 := FrL_tr b1 ⟨fun i j q1 q2 q3 => b3.1 i j q2 q3, b3.2⟩
    have hh := h M3 b4
    unfold hlB at hh
    by_cases q : lvv (fx V p b y) LS = 0
    · rw [q, zq_0]
      refine ⟨fun _ => ?_, fun z => absurd rfl z⟩
      rw [bz_f (by simp [q])] at hh; exact hh
    · rw [wv]
      refine ⟨fun z => absurd z q, fun _ => ?_⟩
      rw [bz_t (by simp [q])] at hh; exact hh
  refine e_X4_wouldHold o _ _ _ (v_X4_wouldHold_0 o _ _ _ ho ?_)
  have em : (if zw 0 < zw (y - V 1 b) then y - V 1 b else 0) = (if V 1 b < y then y - V 1 b else 0) := by
    rw [zq_0, zw_of (a := y - V 1 b) (by omega) (by omega)]
    by_cases q : V 1 b < y
    · rw [if_pos q, if_pos (by omega)]
    · rw [if_neg q, if_neg (by omega)]
  rw [wp1, wb1, tb, (c4 b hb).2.2, (c4 b hb).2.1, em]
  refine ⟨by omega, by omega, fun z => absurd z (by omega), fun _ => ⟨by omega, by omega, fun q => go 1 ?_, fun q => go 0 ?_⟩⟩
  · rw [if_pos (by omega)]
  · rw [if_neg (by omega)]
