/-! leaves: what small methods answer -/
theorem ofi_zw (a : Int) : Int32.ofInt (zw a) = Int32.ofInt a := Int32.ofInt_toInt _
theorem zw_add (a b : Int) : zw (a + b) = zw (zw a + zw b) := by
  show (Int32.ofInt (a + b)).toInt = (Int32.ofInt (zw a + zw b)).toInt
  rw [Int32.ofInt_add, Int32.ofInt_add, ofi_zw, ofi_zw]
theorem c_X8_in {d : Nat} {M : zM} {Q : Int → zM → Prop} (hd : 1 ≤ d) (v a b : Int) (h : Q (bz (zw a ≤ zw v ∧ zw v ≤ zw b)) M) : Ev d mX8_in [zI v, zI a, zI b] M Q := by
  obtain ⟨d, rfl, -⟩ := e_of 0 hd
  exact e_X8_in v a b (v_X8_in_0 v a b ⟨fun q => by rw [bz_f (by omega)] at h; exact h, fun q => ⟨fun q2 => by rw [bz_f (by omega)] at h; exact h, fun q2 => by rw [bz_t (by omega)] at h; exact h⟩⟩)
/-- in(v, a, b) handed on -/
theorem c_in2 {d : Nat} {M : zM} {Q : Int → zM → Prop} (hd : 1 ≤ d) (v a b : Int) {p : Prop} [Decidable p] (hp : (zw a ≤ zw v ∧ zw v ≤ zw b) ↔ p) (h : Q (bz p) M) : Ev d mX8_in [zI v, zI a, zI b] M (fun r1 M2 => (zw r1 = 0 ∨ zw r1 = 1) ∧ Q (zw r1) M2) := by
  refine c_X8_in hd v a b ?_
  rw [bz_w, bz_congr hp]
  exact ⟨bz_01 _, h⟩
theorem c_in3 {d : Nat} {M : zM} {F : zM → Prop} {G : zM → Prop} (hd : 1 ≤ d) (v a b : Int) {p : Prop} [Decidable p] (hp : (zw a ≤ zw v ∧ zw v ≤ zw b) ↔ p) (hf : ¬ p → F M) (ht : p → G M) : Ev d mX8_in [zI v, zI a, zI b] M (fun r1 M2 => (zw r1 = 0 → F M2) ∧ (¬ zw r1 = 0 → G M2)) := by
  refine c_X8_in hd v a b ?_
  rw [bz_congr hp]
  exact bz_br hf ht
theorem c_X8_isName {d : Nat} {M : zM} {Q : Int → zM → Prop} (hd : 2 ≤ d) (v : Int) (h : Q (bz (0 ≤ zw v ∧ zw v < 12)) M) : Ev d mX8_isName [zI v] M Q := by
  obtain ⟨d, rfl, hd⟩ := e_of 1 hd
  exact e_X8_isName v (v_X8_isName_0 v (c_in2 (by omega) v 0 11 (by rw [zq_0, zq_11]; omega) h))
theorem c_X8_isYear {d : Nat} {M : zM} {Q : Int → zM → Prop} (hd : 2 ≤ d) (v : Int) (h : Q (bz (0 ≤ zw v ∧ zw v < 100)) M) : Ev d mX8_isYear [zI v] M Q := by
  obtain ⟨d, rfl, hd⟩ := e_of 1 hd
  exact e_X8_isYear v (v_X8_isYear_0 v (c_in2 (by omega) v 0 99 (by rw [zq_0, zq_99]; omega) h))
theorem c_X8_isShelf {d : Nat} {M : zM} {Q : Int → zM → Prop} (hd : 2 ≤ d) (v : Int) (h : Q (bz (0 ≤ zw v ∧ zw v < 6)) M) : Ev d mX8_isShelf [zI v] M Q := by
  obtain ⟨d, rfl, hd⟩ := e_of 1 hd
  exact e_X8_isShelf v (v_X8_isShelf_0 v (c_in2 (by omega) v 0 5 (by rw [zq_0, zq_5]; omega) h))
theorem c_X8_isPerson {d : Nat} {M : zM} {Q : Int → zM → Prop} (hd : 2 ≤ d) (v : Int) (hn : 0 ≤ zg M 1280 1) (h : Q (bz (0 ≤ zw v ∧ zw v < zg M 1280 1)) M) : Ev d mX8_isPerson [.ref 1280, zI v] M Q := by
  obtain ⟨d, rfl, hd⟩ := e_of 1 hd
  have hh := zg_hi M 1280 1
  have ee : zw (zg M 1280 1 - 1) = zg M 1280 1 - 1 := zw_of (by omega) (by omega)
  exact e_X8_isPerson v (v_X8_isPerson_0 v (c_in2 (by omega) v 0 _ (by rw [zq_0, ee]; omega) h))
theorem c_X8_isBody {d : Nat} {M : zM} {Q : Int → zM → Prop} (hd : 2 ≤ d) (v : Int) (hn : 0 ≤ zg M 1280 39) (h : Q (bz (0 ≤ zw v ∧ zw v < zg M 1280 39)) M) : Ev d mX8_isBody [.ref 1280, zI v] M Q := by
  obtain ⟨d, rfl, hd⟩ := e_of 1 hd
  have hh := zg_hi M 1280 39
  have ee : zw (zg M 1280 39 - 1) = zg M 1280 39 - 1 := zw_of (by omega) (by omega)
  exact e_X8_isBody v (v_X8_isBody_0 v (c_in2 (by omega) v 0 _ (by rw [zq_0, ee]; omega) h))
theorem c_X8_isLife {d : Nat} {M : zM} {Q : Int → zM → Prop} (hd : 3 ≤ d) (v w : Int) (h : Q (bz (0 ≤ zw v ∧ zw v < 100 ∧ zw v < zw w ∧ zw w ≤ 100)) M) : Ev d mX8_isLife [zI v, zI w] M Q := by
  obtain ⟨d, rfl, hd⟩ := e_of 2 hd
  refine e_X8_isLife v w (v_X8_isLife_0 v w (c_X8_isYear (by omega) v (bz_br (fun q => ?_) (fun q => ?_))))
  · rw [bz_f (by omega)] at h; exact h
  · have e : zw (v + 1) = zw v + 1 := by rw [zw_add, zq_1]; exact zw_of (by omega) (by omega)
    refine c_X8_in (by omega) _ _ _ ?_
    rw [zq_100, e]
    refine bz_br (fun z => ?_) (fun z => ?_)
    · rw [bz_f (by omega)] at h; exact h
    · rw [bz_t (by omega)] at h; exact h
theorem c_X8_lives {d : Nat} {M : zM} {Q : Int → zM → Prop} (hd : 1 ≤ d) (v w : Int) (h0 : 0 ≤ zw v) (h1 : zw v < 12) (h : Q (bz (zg M 1283 (zw v).toNat ≤ zw w ∧ zw w < zg M 1284 (zw v).toNat)) M) : Ev d mX8_lives [.ref 1280, zI v, zI w] M Q := by
  obtain ⟨d, rfl, -⟩ := e_of 0 hd
  exact e_X8_lives v w (v_X8_lives_0 v w ⟨h0, h1, fun q => by rw [bz_f (by omega)] at h; exact h, fun q => ⟨h0, h1, fun q2 => by rw [bz_t (by omega)] at h; exact h, fun q2 => by rw [bz_f (by omega)] at h; exact h⟩⟩)
theorem c_X7_isName {d : Nat} {M : zM} {Q : Int → zM → Prop} (hd : 1 ≤ d) (v : Int) (h : Q (bz (0 ≤ zw v ∧ zw v < 12)) M) : Ev d mX7_isName [zI v] M Q := by
  obtain ⟨d, rfl, -⟩ := e_of 0 hd
  exact e_X7_isName v (v_X7_isName_0 v ⟨fun q => by rw [bz_f (by omega)] at h; exact h, fun q => ⟨fun q2 => by rw [bz_t (by omega)] at h; exact h, fun q2 => by rw [bz_f (by omega)] at h; exact h⟩⟩)
theorem c_X7_isYear {d : Nat} {M : zM} {Q : Int → zM → Prop} (hd : 1 ≤ d) (v : Int) (h : Q (bz (0 ≤ zw v ∧ zw v < 100)) M) : Ev d mX7_isYear [zI v] M Q := by
  obtain ⟨d, rfl, -⟩ := e_of 0 hd
  exact e_X7_isYear v (v_X7_isYear_0 v ⟨fun q => by rw [bz_f (by omega)] at h; exact h, fun q => ⟨fun q2 => by rw [bz_t (by omega)] at h; exact h, fun q2 => by rw [bz_f (by omega)] at h; exact h⟩⟩)
theorem c_X7_isWay {d : Nat} {M : zM} {Q : Int → zM → Prop} (hd : 1 ≤ d) (v : Int) (h : Q (bz (0 ≤ zw v ∧ zw v < 3)) M) : Ev d mX7_isWay [zI v] M Q := by
  obtain ⟨d, rfl, -⟩ := e_of 0 hd
  exact e_X7_isWay v (v_X7_isWay_0 v ⟨fun q => by rw [bz_f (by omega)] at h; exact h, fun q => ⟨fun q2 => by rw [bz_t (by omega)] at h; exact h, fun q2 => by rw [bz_f (by omega)] at h; exact h⟩⟩)
theorem c_X7_isShelf {d : Nat} {M : zM} {Q : Int → zM → Prop} (hd : 1 ≤ d) (v : Int) (h : Q (bz (0 ≤ zw v ∧ zw v < 6)) M) : Ev d mX7_isShelf [zI v] M Q := by
  obtain ⟨d, rfl, -⟩ := e_of 0 hd
  exact e_X7_isShelf v (v_X7_isShelf_0 v ⟨fun q => by rw [bz_f (by omega)] at h; exact h, fun q => ⟨fun q2 => by rw [bz_t (by omega)] at h; exact h, fun q2 => by rw [bz_f (by omega)] at h; exact h⟩⟩)
theorem c_X7_isKind {d : Nat} {M : zM} {Q : Int → zM → Prop} (hd : 1 ≤ d) (v : Int) (h : Q (bz (0 ≤ zw v ∧ zw v < 8)) M) : Ev d mX7_isKind [zI v] M Q := by
  obtain ⟨d, rfl, -⟩ := e_of 0 hd
  exact e_X7_isKind v (v_X7_isKind_0 v ⟨fun q => by rw [bz_f (by omega)] at h; exact h, fun q => ⟨fun q2 => by rw [bz_t (by omega)] at h; exact h, fun q2 => by rw [bz_f (by omega)] at h; exact h⟩⟩)
theorem c_X7_mayLive {d : Nat} {M : zM} {Q : Int → zM → Prop} (hd : 2 ≤ d) (v w : Int) (h : Q (bz (0 ≤ zw v ∧ zw v < 100 ∧ zw v < zw w ∧ zw w ≤ 100)) M) : Ev d mX7_mayLive [zI v, zI w] M Q := by
  obtain ⟨d, rfl, hd⟩ := e_of 1 hd
  refine e_X7_mayLive v w (v_X7_mayLive_0 v w (c_X7_isYear (by omega) v (bz_br (fun q => ?_) (fun q => ⟨fun q2 => ⟨fun q3 => ?_, fun q3 => ?_⟩, fun q2 => ?_⟩))))
  · rw [bz_f (by omega)] at h; exact h
  · rw [bz_f (by omega)] at h; exact h
  · rw [bz_t (by omega)] at h; exact h
  · rw [bz_f (by omega)] at h; exact h
theorem c_X7_mayBeNamed {d : Nat} {M : zM} {Q : Int → zM → Prop} (hd : 2 ≤ d) (v : Int) (h : Q (bz (-1 ≤ zw v ∧ zw v < 12)) M) : Ev d mX7_mayBeNamed [zI v] M Q := by
  obtain ⟨d, rfl, hd⟩ := e_of 1 hd
  refine e_X7_mayBeNamed v (v_X7_mayBeNamed_0 v ⟨fun q => ?_, fun q => c_X7_isName (by omega) v (bz_br (fun q2 => ?_) (fun q2 => ?_))⟩)
  · rw [bz_t (by omega)] at h; exact h
  · rw [bz_f (by omega)] at h; exact h
  · rw [bz_t (by omega)] at h; exact h
theorem c_X4_hasPerson {d : Nat} {M : zM} {Q : Int → zM → Prop} (hd : 1 ≤ d) (o : Nat) (ho : zob o 4) (v : Int) (h : Q (bz (0 ≤ zw v ∧ zw v < zg M o 5)) M) : Ev d mX4_hasPerson [.ref o, zI v] M Q := by
  obtain ⟨d, rfl, -⟩ := e_of 0 hd
  exact e_X4_hasPerson o v (v_X4_hasPerson_0 o v ho ⟨fun q => by rw [bz_f (by omega)] at h; exact h, fun q => ⟨fun q2 => by rw [bz_t (by omega)] at h; exact h, fun q2 => by rw [bz_f (by omega)] at h; exact h⟩⟩)
theorem c_X4_hasMeeting {d : Nat} {M : zM} {Q : Int → zM → Prop} (hd : 1 ≤ d) (o : Nat) (ho : zob o 4) (v : Int) (h : Q (bz (0 ≤ zw v ∧ zw v < zg M o 10)) M) : Ev d mX4_hasMeeting [.ref o, zI v] M Q := by
  obtain ⟨d, rfl, -⟩ := e_of 0 hd
  exact e_X4_hasMeeting o v (v_X4_hasMeeting_0 o v ho ⟨fun q => by rw [bz_f (by omega)] at h; exact h, fun q => ⟨fun q2 => by rw [bz_t (by omega)] at h; exact h, fun q2 => by rw [bz_f (by omega)] at h; exact h⟩⟩)
theorem c_X4_lives {d : Nat} {M : zM} {Q : Int → zM → Prop} (hd : 1 ≤ d) (o : Nat) (ho : zob o 4) (v w : Int) (h0 : 0 ≤ zw v) (h1 : zw v < 12) (h : Q (bz (zg M (o + 2) (zw v).toNat ≤ zw w ∧ zw w < zg M (o + 3) (zw v).toNat)) M) : Ev d mX4_lives [.ref o, zI v, zI w] M Q := by
  obtain ⟨d, rfl, -⟩ := e_of 0 hd
  exact e_X4_lives o v w (v_X4_lives_0 o v w ho ⟨h0, h1, fun q => by rw [bz_f (by omega)] at h; exact h, fun q => ⟨h0, h1, fun q2 => by rw [bz_t (by omega)] at h; exact h, fun q2 => by rw [bz_f (by omega)] at h; exact h⟩⟩)
theorem c_X1_has {d : Nat} {M : zM} {Q : Int → zM → Prop} (hd : 1 ≤ d) (v : Int) (h : Q (bz (0 ≤ zw v ∧ zw v < zg M 512 1)) M) : Ev d mX1_has [.ref 512, zI v] M Q := by
  obtain ⟨d, rfl, -⟩ := e_of 0 hd
  exact e_X1_has v (v_X1_has_0 v ⟨fun q => by rw [bz_f (by omega)] at h; exact h, fun q => ⟨fun q2 => by rw [bz_t (by omega)] at h; exact h, fun q2 => by rw [bz_f (by omega)] at h; exact h⟩⟩)
