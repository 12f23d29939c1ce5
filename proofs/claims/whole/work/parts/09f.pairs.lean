/-! pairs: mend, the pair itself -/
def addR (M : zM) (e : Nat) (w p x y : Int) : zM := zs (zs (zs (zs (zs M 1295 e w) 1296 e p) 1297 e x) 1298 e y) 1280 12 ((e : Int) + 1)
def arR (w : Int) : Nat := if w = 0 then 1284 else 1291
theorem c_X8_ch121 {d : Nat} {M : zM} {Q : Int → zM → Prop} (hd : 1 ≤ d) (w p v x : Int) (hw : zw w = w) (hp : zw p = p) (hx : zw x = x) (h0 : 0 ≤ p) (h12 : p < 12) (e : Nat) (he : zg M 1280 12 = (e : Int)) (h40 : e < 40) (hQ : Q x (zs (addR M e w p x v) (arR w) p.toNat v)) : wp (Ev d) 8 cX8_changes (some .int) Q 121 [some (.ref 1280), some (zI w), some (zI p), some (zI v), some (zI x), none] [] M := by
  have w1 : zw ((e : Int) + 1) = (e : Int) + 1 := zw_of (by omega) (by omega)
  refine v_X8_changes_121 w p v x ?_
  simp [zg_zs, he, w1]
  repeat (refine ⟨by omega, ?_⟩)
  rw [hx]
  refine c_X8_lays (by omega) _ _ _ (by rw [hp]; exact h0) (by rw [hp]; exact h12) (fun q => ?_) (fun q => ?_)
  · rw [hw] at q; rw [hp]; rw [arR, if_pos q] at hQ; exact hQ
  · rw [hw] at q; rw [hp]; rw [arR, if_neg q] at hQ; exact hQ
theorem c_X8_changes {d : Nat} {M : zM} {Q : Int → zM → Prop} (hd : 2 ≤ d) (w p v : Int) (hw : zw w = w) (hp : zw p = p) (hv : zw v = v) (h0 : 0 ≤ p) (h12 : p < 12) (dn : Nat) (hdn : zg M 1280 12 = (dn : Int)) (h40 : dn ≤ 40)
    (k0 : zg M (arR w) p.toNat = v → Q v M) (k1 : ¬ zg M (arR w) p.toNat = v → dn < 40 → Q (zg M (arR w) p.toNat) (zs (addR (zs M 1280 13 0) dn w p (zg M (arR w) p.toNat) v) (arR w) p.toNat v)) (k2 : ¬ zg M (arR w) p.toNat = v → dn = 40 → ∀ N, shR 40 (zs M 1280 13 0) N → Q (zg M (arR w) p.toNat) (zs (addR (zs N 1280 12 39) 39 w p (zg M (arR w) p.toNat) v) (arR w) p.toNat v)) : Ev d mX8_changes [.ref 1280, zI w, zI p, zI v] M Q := by
  obtain ⟨d, rfl, -⟩ := e_of 1 hd
  obtain ⟨d2, rfl, -⟩ := e_of 0 (show 0 + 1 ≤ d by omega)
  have key : (zw (zg M (arR w) p.toNat) = zw v → Q (zw (zg M (arR w) p.toNat)) M) ∧ (¬ zw (zg M (arR w) p.toNat) = zw v → (∀ M3 : zM, M3 = zs M 1280 13 0 → ((zg M3 1280 12 = 40 → (wp (Ev (d2 + 1)) 8 cX8_changes (some .int) Q 34 [some (.ref 1280), some (zI w), some (zI p), some (zI v), some (zI (zg M (arR w) p.toNat)), some (zI 1)] [] M3)) ∧ (¬ zg M3 1280 12 = 40 → (wp (Ev (d2 + 1)) 8 cX8_changes (some .int) Q 121 [some (.ref 1280), some (zI w), some (zI p), some (zI v), some (zI (zg M (arR w) p.toNat)), none] [] M3))))) := by
    rw [zw_zg, hv]
    refine ⟨fun q => by rw [q]; exact k0 q, fun q => ?_⟩
    rintro _ rfl
    have g12 : zg (zs M 1280 13 0) 1280 12 = (dn : Int) := by rw [zg_zsj _ _ _ _ (by omega)]; exact hdn
    refine ⟨fun q2 => ?_, fun q2 => ?_⟩
    · have e40 : dn = 40 := by omega
      refine l_X8_changes (M0 := zs M 1280 13 0) w p v _ (fun N hN => ?_) 39 1 _ (by omega) (by omega) ⟨fun _ _ _ => rfl, fun _ _ => rfl, fun a b hab => by rw [if_neg (by omega)]⟩
      have hN12 : zg N 1280 12 = 40 := by rw [hN.1 _ _ (by omega)]; omega
      rw [hN12, show (40 : Int) - 1 = 39 by rfl]
      exact c_X8_ch121 (by omega) w p v _ hw hp (zw_zg _ _ _) h0 h12 39 (by rw [zg_zs1]; decide) (by omega) (k2 q e40 N hN)
    · exact c_X8_ch121 (by omega) w p v _ hw hp (zw_zg _ _ _) h0 h12 dn g12 (by omega) (k1 q (by omega))
  refine e_X8_changes w p v (v_X8_changes_0 w p v (e_X8_valueAt w p (v_X8_valueAt_0 w p ⟨fun q => ⟨by rw [hp]; exact h0, by rw [hp]; exact h12, ?_⟩, fun q => ⟨by rw [hp]; exact h0, by rw [hp]; exact h12, ?_⟩⟩)))
  · rw [hw] at q
    rw [hp]
    rw [show arR w = 1284 by rw [arR, if_pos q]] at key
    exact key
  · rw [hw] at q
    rw [hp]
    rw [show arR w = 1291 by rw [arR, if_neg q]] at key
    exact key
theorem c_X7_mayMend {d : Nat} {M : zM} {Q : Int → zM → Prop} (hd : 4 ≤ d) (p w v : Int) (hp : zw p = p) (hw : zw w = w) (hv : zw v = v) (hn : zg M 192 5 ≤ 12) (hb : ∀ x : Nat, (x : Int) < zg M 192 5 → 0 ≤ zg M 194 x ∧ zg M 194 x < 100) (h : Q (bz ((w = 0 ∧ 0 ≤ p ∧ p < zg M 192 5 ∧ zg M 194 p.toNat < v ∧ v ≤ 100) ∨ (w = 1 ∧ 0 ≤ p ∧ p < 12 ∧ 0 ≤ v ∧ v ≤ 9))) M) : Ev d mX7_mayMend [.ref 64, zI p, zI w, zI v] M Q := by
  obtain ⟨d, rfl, -⟩ := e_of 3 hd
  refine e_X7_mayMend p w v (v_X7_mayMend_0 p w v ⟨fun q => ?_, fun q => ⟨fun q1 => ?_, fun q1 => ?_⟩⟩)
  · rw [hw] at q
    refine c_X4_hasPerson (by omega) 192 ob_192 p ?_
    rw [hp]
    refine bz_br (fun z => ?_) (fun z => ?_)
    · rw [bz_f (by omega)] at h; exact h
    · refine ⟨by omega, by omega, c_X7_mayLive (by omega) _ _ ?_⟩
      have hbp := hb p.toNat (by omega)
      rw [zw_zg, hv]
      refine bz_br (fun z2 => ?_) (fun z2 => ?_)
      · rw [bz_f (by omega)] at h; exact h
      · rw [bz_t (by omega)] at h; exact h
  · rw [hw] at q q1
    refine c_X7_isName (by omega) p ?_
    rw [hp, hv]
    refine bz_br (fun z => ?_) (fun z => ⟨fun z2 => ?_, fun z2 => ⟨fun z3 => ?_, fun z3 => ?_⟩⟩)
    · rw [bz_f (by omega)] at h; exact h
    · rw [bz_f (by omega)] at h; exact h
    · rw [bz_f (by omega)] at h; exact h
    · rw [bz_t (by omega)] at h; exact h
  · rw [hw] at q q1
    rw [bz_f (by omega)] at h; exact h
