/-! mend: the pair -/
def chM (a b : Nat) : Prop := a = 195 ∨ a = 205 ∨ (448 ≤ a ∧ a ≤ 452) ∨ (1295 ≤ a ∧ a ≤ 1298) ∨ a = 1284 ∨ a = 1291 ∨ (a = 1280 ∧ (b = 12 ∨ b = 13))
theorem Inv_chg {M F : zM} (hF0 : ∀ a b, ¬ chM a b → zg F a b = zg M a b) (hH : ∀ a b, zh F a b = zh M a b) (hD : ID F) (hW : IW F) (hC : IC F) (hI : Inv M) : Inv F := by
  obtain ⟨h1, h2, h3, h4, h5, h6, h7, h8, h9, h10, h11, h12, h13, h14⟩ := hI
  have hF : ∀ a b, ¬ (a = 195 ∨ a = 205 ∨ (448 ≤ a ∧ a ≤ 452) ∨ (1295 ≤ a ∧ a ≤ 1298) ∨ a = 1284 ∨ a = 1291 ∨ (a = 1280 ∧ (b = 12 ∨ b = 13))) → zg F a b = zg M a b := hF0
  exact ⟨IP_fr (fun a b h => hF a b (by simp [cIP] at h; omega)) h1, hD, IN_fr (fun a b h => hF a b (by simp [cIN] at h; omega)) h3, IM_fr (fun a b h => hF a b (by simp [cIM] at h; omega)) h4, IH_fr (fun a b h => hF a b (by simp [cIH] at h; omega)) h5, hW, IF_fr (fun a b h => hF a b (by simp [cIF] at h; omega)) h7, hC, II_fr (fun a b h => hF a b (by simp [cII] at h; omega)) h9, IT_fr (fun a b h => hF a b (by simp [cIT] at h; omega)) h10, IL_fr (fun a b h => hF a b (by simp [cIL] at h; omega)) h11, IG_fr (fun a b h => hF a b (by simp [cIG] at h; omega)) h12, IR_fr (fun a b h => hF a b (by simp [cIR] at h; omega)) h13, IS_fr (fun a b h => hF a b (by simp [cIS] at h; omega)) (fun a b _ => hH a b) h14⟩
theorem f_mend0 {M : zM} (p v : Int) (hp : zw p = p) (hv : zw v = v) (hp0 : 0 ≤ p) (hr : zg M 1283 p.toNat < v ∧ v ≤ 100) (hpn : p < zg M 1280 1) (hx1 : zg M 1283 p.toNat < zg M 1284 p.toNat) (hx2 : zg M 1284 p.toNat ≤ 100) (hx : zg M 195 p.toNat = zg M 1284 p.toNat) (dn : Nat) (hdn : zg M 1280 12 = (dn : Int)) (hd40 : dn < 40) (hI : Inv M) : Inv (zs (addR (zs (addC (zs M 195 p.toNat v) dn 0 p (zg M 195 p.toNat) v) 1280 13 0) dn 0 p (zg M 1284 p.toNat) v) 1284 p.toNat v) := by
  have w1 : zw ((dn : Int) + 1) = (dn : Int) + 1 := zw_of (by omega) (by omega)
  have hF : ∀ a b, ¬ chM a b → zg (zs (addR (zs (addC (zs M 195 p.toNat v) dn 0 p (zg M 195 p.toNat) v) 1280 13 0) dn 0 p (zg M 1284 p.toNat) v) 1284 p.toNat v) a b = zg M a b := by
    intro a b h
    unfold chM at h
    simp only [addC, addR, zg_zs]
    repeat (rw [if_neg (by omega)])
  have hI2 := hI
  obtain ⟨h1, h2, h3, h4, h5, h6, h7, h8, h9, h10, h11, h12, h13, h14⟩ := hI
  refine Inv_chg hF (fun a b => rfl) (ID_upd (M := M) p.toNat v (fun x => by simp [addC, addR, zg_zs, hv]) (fun x => by simp [addC, addR, zg_zs, hv]) (fun x => by simp [addC, addR, zg_zs]) (by simp [addC, addR, zg_zs]) hr h2) (IW_cg (M := M) (fun x => by simp [addC, addR, zg_zs]) (fun x => by simp [addC, addR, zg_zs]) h6) ?_ hI2
  have c : ∀ (z : Nat) (q : Prop), True := fun _ _ => trivial
  refine IC_add (M := M) dn 0 dn hdn 0 p (zg M 1284 p.toNat) v rfl hd40 ?_ ?_ ?_ ?_ ?_ ?_ ?_ ?_ ?_ ?_ ?_ ?_ ?_ ?_ ?_ ?_ ?_ ?_ ?_ ?_ ?_ ?_ (Or.inl ⟨rfl, hp0, hpn, hx1, hx2, hr.1, hr.2⟩) h8
  all_goals first
    | (intro i hi
       have h1 : ¬ i = dn := by omega
       simp [addC, addR, zg_zs, h1])
    | (simp [addC, addR, zg_zs, hv, hp, w1, zw_zg, hx]; done)
    | (simp [addC, addR, zg_zs, hv, hp, w1, zw_zg, hx]; decide)
    | (intro q; simp [addC, addR, zg_zs])
theorem g_mend0 {M N : zM} (p v : Int) (hp : zw p = p) (hv : zw v = v) (hp0 : 0 ≤ p) (hr : zg M 1283 p.toNat < v ∧ v ≤ 100) (hpn : p < zg M 1280 1) (hx1 : zg M 1283 p.toNat < zg M 1284 p.toNat) (hx2 : zg M 1284 p.toNat ≤ 100) (hx : zg M 195 p.toNat = zg M 1284 p.toNat) (hdn : zg M 1280 12 = 40) (hN : shR 40 (zs (addC (dropC (zs M 195 p.toNat v)) 39 0 p (zg M 195 p.toNat) v) 1280 13 0) N) (hI : Inv M) : Inv (zs (addR (zs N 1280 12 39) 39 0 p (zg M 1284 p.toNat) v) 1284 p.toNat v) := by
  have w40 : zw 40 = 40 := by decide
  have hF : ∀ a b, ¬ chM a b → zg (zs (addR (zs N 1280 12 39) 39 0 p (zg M 1284 p.toNat) v) 1284 p.toNat v) a b = zg M a b := by
    intro a b h
    unfold chM at h
    simp only [addR, zg_zs]
    repeat (rw [if_neg (by omega)])
    rw [hN.1 a b (by omega)]
    simp only [addC, dropC, zg_zs, zg_zci]
    repeat (rw [if_neg (by omega)])
  have hI2 := hI
  obtain ⟨h1, h2, h3, h4, h5, h6, h7, h8, h9, h10, h11, h12, h13, h14⟩ := hI
  refine Inv_chg hF (fun a b => by simp only [addR, zh_zs]; rw [hN.2.1]; rfl) (ID_upd (M := M) p.toNat v (fun x => by rw [zg_zsi _ _ _ _ (by omega)]; simp only [addR, zg_zs]; simp; rw [hN.1 _ _ (by omega)]; simp [addC, dropC, zg_zs, zg_zci, hv]) (fun x => by simp only [addR, zg_zs]; simp [hv]; rw [hN.1 _ _ (by omega)]; simp [addC, dropC, zg_zs, zg_zci]) (fun x => by simp only [addR, zg_zs]; simp; rw [hN.1 _ _ (by omega)]; simp [addC, dropC, zg_zs, zg_zci]) (by simp only [addR, zg_zs]; simp; rw [hN.1 _ _ (by omega)]; simp [addC, dropC, zg_zs, zg_zci]) hr h2) (IW_cg (M := M) (fun x => by simp only [addR, zg_zs]; simp; rw [hN.1 _ _ (by omega)]; simp [addC, dropC, zg_zs, zg_zci]) (fun x => by simp only [addR, zg_zs]; simp; rw [hN.1 _ _ (by omega)]; simp [addC, dropC, zg_zs, zg_zci]) h6) ?_ hI2
  refine IC_add (M := M) 40 1 39 hdn 0 p (zg M 1284 p.toNat) v rfl (by omega) ?_ ?_ ?_ ?_ ?_ ?_ ?_ ?_ ?_ ?_ ?_ ?_ ?_ ?_ ?_ ?_ ?_ ?_ ?_ ?_ ?_ ?_ (Or.inl ⟨rfl, hp0, hpn, hx1, hx2, hr.1, hr.2⟩) h8
  all_goals first
    | (intro i hi
       have h1 : ¬ i = 39 := by omega
       have h2 : i < 39 := hi
       have h3 : i + 1 < 40 := by omega
       simp only [addR, zg_zs]
       simp [h1]
       first
         | (rw [hN.1 _ _ (by omega)]; simp [addC, dropC, zg_zs, zg_zci, h1, h2, Nat.add_comm]; done)
         | (rw [hN.2.2 _ _ (by omega), if_pos h3]; simp [addC, dropC, zg_zs, zg_zci]; done))
    | (simp [addR, zg_zs, hv, hp, zw_zg, hx]; done)
    | (simp [addR, zg_zs, hv, hp, zw_zg, hx]; decide)
    | (simp only [addR, zg_zs]; simp; rw [hN.1 _ _ (by omega)]; simp [addC, dropC, zg_zs, zg_zci, hv, hp, zw_zg, hx]; done)
    | (simp only [addR, zg_zs]; simp; rw [hN.1 _ _ (by omega)]; simp [addC, dropC, zg_zs, zg_zci, hv, hp, zw_zg, hx]; decide)
    | (intro q; simp only [addR, zg_zs]; simp; rw [hN.1 _ _ (by omega)]; simp [addC, dropC, zg_zs, zg_zci])
theorem f_mend1 {M : zM} (p v : Int) (hp : zw p = p) (hv : zw v = v) (hp0 : 0 ≤ p) (hr : 0 ≤ v ∧ v ≤ 9) (hpn : p < 12) (hx1 : 0 ≤ zg M 1291 p.toNat) (hx2 : zg M 1291 p.toNat ≤ 9) (hx : zg M 205 p.toNat = zg M 1291 p.toNat) (dn : Nat) (hdn : zg M 1280 12 = (dn : Int)) (hd40 : dn < 40) (hI : Inv M) : Inv (zs (addR (zs (addC (zs M 205 p.toNat v) dn 1 p (zg M 205 p.toNat) v) 1280 13 0) dn 1 p (zg M 1291 p.toNat) v) 1291 p.toNat v) := by
  have w1 : zw ((dn : Int) + 1) = (dn : Int) + 1 := zw_of (by omega) (by omega)
  have hF : ∀ a b, ¬ chM a b → zg (zs (addR (zs (addC (zs M 205 p.toNat v) dn 1 p (zg M 205 p.toNat) v) 1280 13 0) dn 1 p (zg M 1291 p.toNat) v) 1291 p.toNat v) a b = zg M a b := by
    intro a b h
    unfold chM at h
    simp only [addC, addR, zg_zs]
    repeat (rw [if_neg (by omega)])
  have hI2 := hI
  obtain ⟨h1, h2, h3, h4, h5, h6, h7, h8, h9, h10, h11, h12, h13, h14⟩ := hI
  refine Inv_chg hF (fun a b => rfl) (ID_cg (M := M) (fun x => by simp [addC, addR, zg_zs]) (fun x => by simp [addC, addR, zg_zs]) (fun x => by simp [addC, addR, zg_zs]) (by simp [addC, addR, zg_zs]) h2) (IW_upd (M := M) p.toNat v (fun x => by simp [addC, addR, zg_zs, hv]) (fun x => by simp [addC, addR, zg_zs, hv]) hr h6) ?_ hI2
  have c : ∀ (z : Nat) (q : Prop), True := fun _ _ => trivial
  refine IC_add (M := M) dn 0 dn hdn 1 p (zg M 1291 p.toNat) v rfl hd40 ?_ ?_ ?_ ?_ ?_ ?_ ?_ ?_ ?_ ?_ ?_ ?_ ?_ ?_ ?_ ?_ ?_ ?_ ?_ ?_ ?_ ?_ (Or.inr ⟨rfl, hp0, hpn, hx1, hx2, hr.1, hr.2⟩) h8
  all_goals first
    | (intro i hi
       have h1 : ¬ i = dn := by omega
       simp [addC, addR, zg_zs, h1])
    | (simp [addC, addR, zg_zs, hv, hp, w1, zw_zg, hx]; done)
    | (simp [addC, addR, zg_zs, hv, hp, w1, zw_zg, hx]; decide)
    | (intro q; simp [addC, addR, zg_zs])
theorem g_mend1 {M N : zM} (p v : Int) (hp : zw p = p) (hv : zw v = v) (hp0 : 0 ≤ p) (hr : 0 ≤ v ∧ v ≤ 9) (hpn : p < 12) (hx1 : 0 ≤ zg M 1291 p.toNat) (hx2 : zg M 1291 p.toNat ≤ 9) (hx : zg M 205 p.toNat = zg M 1291 p.toNat) (hdn : zg M 1280 12 = 40) (hN : shR 40 (zs (addC (dropC (zs M 205 p.toNat v)) 39 1 p (zg M 205 p.toNat) v) 1280 13 0) N) (hI : Inv M) : Inv (zs (addR (zs N 1280 12 39) 39 1 p (zg M 1291 p.toNat) v) 1291 p.toNat v) := by
  have w40 : zw 40 = 40 := by decide
  have hF : ∀ a b, ¬ chM a b → zg (zs (addR (zs N 1280 12 39) 39 1 p (zg M 1291 p.toNat) v) 1291 p.toNat v) a b = zg M a b := by
    intro a b h
    unfold chM at h
    simp only [addR, zg_zs]
    repeat (rw [if_neg (by omega)])
    rw [hN.1 a b (by omega)]
    simp only [addC, dropC, zg_zs, zg_zci]
    repeat (rw [if_neg (by omega)])
  have hI2 := hI
  obtain ⟨h1, h2, h3, h4, h5, h6, h7, h8, h9, h10, h11, h12, h13, h14⟩ := hI
  refine Inv_chg hF (fun a b => by simp only [addR, zh_zs]; rw [hN.2.1]; rfl) (ID_cg (M := M) (fun x => by simp only [addR, zg_zs]; simp; rw [hN.1 _ _ (by omega)]; simp [addC, dropC, zg_zs, zg_zci]) (fun x => by simp only [addR, zg_zs]; simp; rw [hN.1 _ _ (by omega)]; simp [addC, dropC, zg_zs, zg_zci]) (fun x => by simp only [addR, zg_zs]; simp; rw [hN.1 _ _ (by omega)]; simp [addC, dropC, zg_zs, zg_zci]) (by simp only [addR, zg_zs]; simp; rw [hN.1 _ _ (by omega)]; simp [addC, dropC, zg_zs, zg_zci]) h2) (IW_upd (M := M) p.toNat v (fun x => by rw [zg_zsi _ _ _ _ (by omega)]; simp only [addR, zg_zs]; simp; rw [hN.1 _ _ (by omega)]; simp [addC, dropC, zg_zs, zg_zci, hv]) (fun x => by simp only [addR, zg_zs]; simp [hv]; rw [hN.1 _ _ (by omega)]; simp [addC, dropC, zg_zs, zg_zci]) hr h6) ?_ hI2
  refine IC_add (M := M) 40 1 39 hdn 1 p (zg M 1291 p.toNat) v rfl (by omega) ?_ ?_ ?_ ?_ ?_ ?_ ?_ ?_ ?_ ?_ ?_ ?_ ?_ ?_ ?_ ?_ ?_ ?_ ?_ ?_ ?_ ?_ (Or.inr ⟨rfl, hp0, hpn, hx1, hx2, hr.1, hr.2⟩) h8
  all_goals first
    | (intro i hi
       have h1 : ¬ i = 39 := by omega
       have h2 : i < 39 := hi
       have h3 : i + 1 < 40 := by omega
       simp only [addR, zg_zs]
       simp [h1]
       first
         | (rw [hN.1 _ _ (by omega)]; simp [addC, dropC, zg_zs, zg_zci, h1, h2, Nat.add_comm]; done)
         | (rw [hN.2.2 _ _ (by omega), if_pos h3]; simp [addC, dropC, zg_zs, zg_zci]; done))
    | (simp [addR, zg_zs, hv, hp, zw_zg, hx]; done)
    | (simp [addR, zg_zs, hv, hp, zw_zg, hx]; decide)
    | (simp only [addR, zg_zs]; simp; rw [hN.1 _ _ (by omega)]; simp [addC, dropC, zg_zs, zg_zci, hv, hp, zw_zg, hx]; done)
    | (simp only [addR, zg_zs]; simp; rw [hN.1 _ _ (by omega)]; simp [addC, dropC, zg_zs, zg_zci, hv, hp, zw_zg, hx]; decide)
    | (intro q; simp only [addR, zg_zs]; simp; rw [hN.1 _ _ (by omega)]; simp [addC, dropC, zg_zs, zg_zci])
