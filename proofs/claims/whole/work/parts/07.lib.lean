/-! plain facts about the small machine's numbers and memory -/
theorem zw_of {a : Int} (h0 : -2147483648 ≤ a) (h1 : a < 2147483648) : zw a = a := by
  unfold zw
  rw [Int32.toInt_ofInt]
  apply Int.bmod_eq_of_le
  · show -((4294967296 : Nat) : Int) / 2 ≤ a; omega
  · show a < (((4294967296 : Nat) : Int) + 1) / 2; omega
theorem zw_lo (a : Int) : -2147483648 ≤ zw a := by
  have := Int32.le_toInt (Int32.ofInt a)
  unfold zw; simpa using this
theorem zw_hi (a : Int) : zw a < 2147483648 := by
  have := Int32.toInt_lt (Int32.ofInt a)
  unfold zw; simpa using this
theorem zw_zw (a : Int) : zw (zw a) = zw a := zw_of (zw_lo a) (zw_hi a)
theorem zg_lo (M : zM) (i j : Nat) : -2147483648 ≤ zg M i j := by rw [← zw_zg]; exact zw_lo _
theorem zg_hi (M : zM) (i j : Nat) : zg M i j < 2147483648 := by rw [← zw_zg]; exact zw_hi _
theorem zg_zs (M : zM) (i j : Nat) (v : Int) (a b : Nat) : zg (zs M i j v) a b = if a = i ∧ b = j then zw v else zg M a b := by
  unfold zg zs zw
  dsimp only
  split <;> rfl
theorem zg_zs1 (M : zM) (i j : Nat) (v : Int) : zg (zs M i j v) i j = zw v := by rw [zg_zs, if_pos ⟨rfl, rfl⟩]
theorem zg_zsi (M : zM) (i j : Nat) (v : Int) {a b : Nat} (h : a ≠ i) : zg (zs M i j v) a b = zg M a b := by rw [zg_zs, if_neg (fun q => h q.1)]
theorem zg_zsj (M : zM) (i j : Nat) (v : Int) {a b : Nat} (h : b ≠ j) : zg (zs M i j v) a b = zg M a b := by rw [zg_zs, if_neg (fun q => h q.2)]
theorem zh_zs (M : zM) (i j : Nat) (v : Int) (a b : Nat) : zh (zs M i j v) a b = zh M a b := rfl
theorem zg_zt (M : zM) (i j : Nat) (v : Int) (a b : Nat) : zg (zt M i j v) a b = zg M a b := rfl
theorem zh_zt (M : zM) (i j : Nat) (v : Int) (a b : Nat) : zh (zt M i j v) a b = if a = i ∧ b = j then zv v else zh M a b := by
  unfold zh zt zv
  dsimp only
  split <;> rfl
theorem zg_zci (M : zM) (o q sp dp n a b : Nat) : zg (zci M o q sp dp n) a b = if a = q then (if dp ≤ b ∧ b < dp + n then zg M o (sp + (b - dp)) else zg M q b) else zg M a b := by
  unfold zg zci
  dsimp only
  by_cases h : a = q
  · rw [if_pos h, if_pos h]; unfold va_cpy; split <;> rfl
  · rw [if_neg h, if_neg h]
theorem zh_zci (M : zM) (o q sp dp n a b : Nat) : zh (zci M o q sp dp n) a b = zh M a b := rfl
theorem zg_zcl (M : zM) (o q sp dp n a b : Nat) : zg (zcl M o q sp dp n) a b = zg M a b := rfl
theorem zh_zcl (M : zM) (o q sp dp n a b : Nat) : zh (zcl M o q sp dp n) a b = if a = q then (if dp ≤ b ∧ b < dp + n then zh M o (sp + (b - dp)) else zh M q b) else zh M a b := by
  unfold zh zcl
  dsimp only
  by_cases h : a = q
  · rw [if_pos h, if_pos h]; unfold va_cpy; split <;> rfl
  · rw [if_neg h, if_neg h]
/-- 1 or 0 -/
def bz (p : Prop) [Decidable p] : Int := if p then 1 else 0
theorem bz_t {p : Prop} [Decidable p] (h : p) : bz p = 1 := if_pos h
theorem bz_f {p : Prop} [Decidable p] (h : ¬ p) : bz p = 0 := if_neg h
theorem bz_w (p : Prop) [Decidable p] : zw (bz p) = bz p := by by_cases h : p <;> simp only [bz, h, if_true, if_false] <;> decide
theorem bz_01 (p : Prop) [Decidable p] : bz p = 0 ∨ bz p = 1 := by by_cases h : p <;> simp [bz, h]
theorem bz_0 (p : Prop) [Decidable p] : bz p = 0 ↔ ¬ p := by by_cases h : p <;> simp [bz, h]
theorem bz_1 (p : Prop) [Decidable p] : bz p = 1 ↔ p := by by_cases h : p <;> simp [bz, h]
theorem bz_br {p F G : Prop} [Decidable p] (hf : ¬ p → F) (ht : p → G) : (zw (bz p) = 0 → F) ∧ (¬ zw (bz p) = 0 → G) := by
  rw [bz_w, bz_0]
  exact ⟨hf, fun h => ht (Classical.not_not.mp h)⟩
theorem bz_congr {p q : Prop} [Decidable p] [Decidable q] (h : p ↔ q) : bz p = bz q := by
  by_cases hp : p
  · rw [bz_t hp, bz_t (h.mp hp)]
  · rw [bz_f hp, bz_f (fun z => hp (h.mpr z))]
theorem br_i {c F G : Prop} (hf : c → F) (hg : ¬ c → G) : (c → F) ∧ (¬ c → G) := ⟨hf, hg⟩
/-! bits -/
theorem z_nat {a : Int} (h0 : 0 ≤ a) (h1 : a < 4294967296) : (Int32.ofInt a).toBitVec.toNat = a.toNat := by
  show (BitVec.ofInt 32 a).toNat = a.toNat
  rw [BitVec.toNat_ofInt]
  congr 1
  exact Int.emod_eq_of_lt h0 (by simpa using h1)
theorem z_int {x : Int32} (h : x.toBitVec.toNat < 2147483648) : x.toInt = (x.toBitVec.toNat : Int) := by
  show x.toBitVec.toInt = _
  rw [BitVec.toInt_eq_toNat_cond]
  rw [if_pos (by omega)]
theorem zb_and {a b : Nat} (ha : a < 2147483648) (hb : b < 2147483648) : z_and (a : Int) (b : Int) = ((a &&& b : Nat) : Int) := by
  have e : ((Int32.ofInt a) &&& (Int32.ofInt b)).toBitVec.toNat = a &&& b := by
    show (BitVec.and _ _).toNat = _
    show ((Int32.ofInt a).toBitVec &&& (Int32.ofInt b).toBitVec).toNat = _
    rw [BitVec.toNat_and, z_nat (by omega) (by omega), z_nat (by omega) (by omega)]
    rfl
  have hl : a &&& b < 2147483648 := Nat.lt_of_le_of_lt Nat.and_le_left ha
  unfold z_and
  rw [z_int (by rw [e]; exact hl), e]
theorem zb_or {a b : Nat} (ha : a < 2147483648) (hb : b < 2147483648) : z_or (a : Int) (b : Int) = ((a ||| b : Nat) : Int) := by
  have e : ((Int32.ofInt a) ||| (Int32.ofInt b)).toBitVec.toNat = a ||| b := by
    show ((Int32.ofInt a).toBitVec ||| (Int32.ofInt b).toBitVec).toNat = _
    rw [BitVec.toNat_or, z_nat (by omega) (by omega), z_nat (by omega) (by omega)]
    rfl
  have hl : a ||| b < 2147483648 := Nat.or_lt_two_pow (n := 31) ha hb
  unfold z_or
  rw [z_int (by rw [e]; exact hl), e]
theorem zb_shl {p : Nat} (hp : p < 31) : z_shl 1 (p : Int) = ((2 ^ p : Nat) : Int) := by
  have : ∀ p : Nat, p < 31 → z_shl 1 (p : Int) = ((2 ^ p : Nat) : Int) := by decide +kernel
  exact this p hp
theorem zb_shr {a p : Nat} (ha : a < 2147483648) (hp : p < 32) : z_shr (a : Int) (p : Int) = ((a >>> p : Nat) : Int) := by
  have hs : ∀ p : Nat, p < 32 → ((Int32.ofInt (p : Int)) &&& 31).toBitVec.smod 32 = BitVec.ofNat 32 p := by decide +kernel
  have e : ((Int32.ofInt a) >>> ((Int32.ofInt (p : Int)) &&& 31)).toInt = (Int32.ofInt a).toInt >>> p := by
    rw [pk_shr _ _ p (by rw [hs p hp]; simp; omega)]
  unfold z_shr
  rw [e]
  have : (Int32.ofInt (a : Int)).toInt = (a : Int) := zw_of (by omega) (by omega)
  rw [this]
  rfl
theorem zb_bit {a p : Nat} (ha : a < 2147483648) (hp : p < 32) : z_and (z_shr (a : Int) (p : Int)) 1 = bz (a.testBit p = true) := by
  rw [zb_shr ha hp]
  have hl : a >>> p < 2147483648 := Nat.lt_of_le_of_lt (Nat.shiftRight_le _ _) ha
  have := zb_and hl (b := 1) (by omega)
  rw [show ((1 : Nat) : Int) = 1 from rfl] at this
  rw [this]
  have e : a.testBit p = ((a >>> p) &&& 1 != 0) := by
    rw [Nat.testBit, Nat.and_comm]
  by_cases h : (a >>> p) &&& 1 = 0
  · rw [h, bz_f (by rw [e, h]; decide)]; rfl
  · have h1 : (a >>> p) &&& 1 = 1 := by
      rw [Nat.and_one_is_mod] at h ⊢
      omega
    rw [h1, bz_t (by rw [e, h1]; decide)]; rfl
