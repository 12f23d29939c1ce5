def IP (M : zM) : Prop := ∃ n : Nat, n ≤ 12 ∧ zg M 192 5 = (n : Int) ∧ zg M 1280 1 = (n : Int) ∧ (∀ p : Nat, p < n → zg M 194 p = zg M 1283 p ∧ 0 ≤ zg M 1283 p ∧ zg M 1283 p < 100) ∧ (∀ k : Nat, k < n → 0 ≤ zg M 197 k ∧ zg M 197 k < (n : Int)) ∧ (∀ k j : Nat, k < j → j < n → zg M 1283 (zg M 197 k).toNat < zg M 1283 (zg M 197 j).toNat ∨ (zg M 1283 (zg M 197 k).toNat = zg M 1283 (zg M 197 j).toNat ∧ zg M 197 k < zg M 197 j)) ∧ (∀ p : Nat, p < n → ∃ k : Nat, k < n ∧ zg M 197 k = (p : Int))
def cIP (i j : Nat) : Bool := i == 194 || i == 197 || i == 1283 || (i == 192 && j == 5) || (i == 1280 && j == 1)
theorem IP_cg {M M2 : zM} (h194 : ∀ p, zg M2 194 p = zg M 194 p) (h197 : ∀ p, zg M2 197 p = zg M 197 p) (h1283 : ∀ p, zg M2 1283 p = zg M 1283 p) (f192_5 : zg M2 192 5 = zg M 192 5) (f1280_1 : zg M2 1280 1 = zg M 1280 1) (hI : IP M) : IP M2 := by
  simp only [IP, h194, h197, h1283, f192_5, f1280_1] at hI ⊢
  exact hI
theorem IP_fr {M M2 : zM} (hF : ∀ i j, cIP i j = true → zg M2 i j = zg M i j) (hI : IP M) : IP M2 := IP_cg (fun p => hF 194 p rfl) (fun p => hF 197 p rfl) (fun p => hF 1283 p rfl) (hF 192 5 rfl) (hF 1280 1 rfl) hI
theorem IP_zs {M : zM} {i j : Nat} {v : Int} (h : cIP i j = false) (hI : IP M) : IP (zs M i j v) := IP_fr (fun a b hab => by rw [zg_zs, if_neg]; rintro ⟨rfl, rfl⟩; rw [h] at hab; cases hab) hI
theorem IP_zci {M : zM} {q x y z w : Nat} (h : ∀ j, cIP q j = false) (hI : IP M) : IP (zci M x q y z w) := IP_fr (fun a b hab => by rw [zg_zci, if_neg]; rintro rfl; rw [h b] at hab; cases hab) hI
theorem IP_zt {M : zM} {i j : Nat} {v : Int} (hI : IP M) : IP (zt M i j v) := hI
theorem IP_zcl {M : zM} {q x y z w : Nat} (hI : IP M) : IP (zcl M x q y z w) := hI
def ID (M : zM) : Prop := ∀ p : Nat, (p : Int) < zg M 1280 1 → zg M 195 p = zg M 1284 p ∧ zg M 1283 p < zg M 1284 p ∧ zg M 1284 p ≤ 100
def cID (i j : Nat) : Bool := i == 195 || i == 1284 || i == 1283 || (i == 1280 && j == 1)
theorem ID_cg {M M2 : zM} (h195 : ∀ p, zg M2 195 p = zg M 195 p) (h1284 : ∀ p, zg M2 1284 p = zg M 1284 p) (h1283 : ∀ p, zg M2 1283 p = zg M 1283 p) (f1280_1 : zg M2 1280 1 = zg M 1280 1) (hI : ID M) : ID M2 := by
  simp only [ID, h195, h1284, h1283, f1280_1] at hI ⊢
  exact hI
theorem ID_fr {M M2 : zM} (hF : ∀ i j, cID i j = true → zg M2 i j = zg M i j) (hI : ID M) : ID M2 := ID_cg (fun p => hF 195 p rfl) (fun p => hF 1284 p rfl) (fun p => hF 1283 p rfl) (hF 1280 1 rfl) hI
theorem ID_zs {M : zM} {i j : Nat} {v : Int} (h : cID i j = false) (hI : ID M) : ID (zs M i j v) := ID_fr (fun a b hab => by rw [zg_zs, if_neg]; rintro ⟨rfl, rfl⟩; rw [h] at hab; cases hab) hI
theorem ID_zci {M : zM} {q x y z w : Nat} (h : ∀ j, cID q j = false) (hI : ID M) : ID (zci M x q y z w) := ID_fr (fun a b hab => by rw [zg_zci, if_neg]; rintro rfl; rw [h b] at hab; cases hab) hI
theorem ID_zt {M : zM} {i j : Nat} {v : Int} (hI : ID M) : ID (zt M i j v) := hI
theorem ID_zcl {M : zM} {q x y z w : Nat} (hI : ID M) : ID (zcl M x q y z w) := hI
def IN (M : zM) : Prop := ∀ p : Nat, (p : Int) < zg M 1280 1 → zg M 196 p = zg M 1285 p ∧ -1 ≤ zg M 1285 p ∧ zg M 1285 p < 12
def cIN (i j : Nat) : Bool := i == 196 || i == 1285 || (i == 1280 && j == 1)
theorem IN_cg {M M2 : zM} (h196 : ∀ p, zg M2 196 p = zg M 196 p) (h1285 : ∀ p, zg M2 1285 p = zg M 1285 p) (f1280_1 : zg M2 1280 1 = zg M 1280 1) (hI : IN M) : IN M2 := by
  simp only [IN, h196, h1285, f1280_1] at hI ⊢
  exact hI
theorem IN_fr {M M2 : zM} (hF : ∀ i j, cIN i j = true → zg M2 i j = zg M i j) (hI : IN M) : IN M2 := IN_cg (fun p => hF 196 p rfl) (fun p => hF 1285 p rfl) (hF 1280 1 rfl) hI
theorem IN_zs {M : zM} {i j : Nat} {v : Int} (h : cIN i j = false) (hI : IN M) : IN (zs M i j v) := IN_fr (fun a b hab => by rw [zg_zs, if_neg]; rintro ⟨rfl, rfl⟩; rw [h] at hab; cases hab) hI
theorem IN_zci {M : zM} {q x y z w : Nat} (h : ∀ j, cIN q j = false) (hI : IN M) : IN (zci M x q y z w) := IN_fr (fun a b hab => by rw [zg_zci, if_neg]; rintro rfl; rw [h b] at hab; cases hab) hI
theorem IN_zt {M : zM} {i j : Nat} {v : Int} (hI : IN M) : IN (zt M i j v) := hI
theorem IN_zcl {M : zM} {q x y z w : Nat} (hI : IN M) : IN (zcl M x q y z w) := hI
def IM (M : zM) : Prop := ∃ k : Nat, k ≤ 16 ∧ zg M 192 10 = (k : Int) ∧ zg M 1280 5 = (k : Int) ∧ (∀ m : Nat, m < k → zg M 199 m = zg M 1287 m ∧ zg M 200 m = zg M 1288 m ∧ zg M 201 m = zg M 1289 m ∧ 0 ≤ zg M 1287 m ∧ zg M 1287 m < zg M 1280 1 ∧ 0 ≤ zg M 1288 m ∧ zg M 1288 m < zg M 1280 1 ∧ zg M 1287 m ≠ zg M 1288 m ∧ 0 ≤ zg M 1289 m ∧ zg M 1289 m < 100) ∧ (∀ j : Nat, j < k → 0 ≤ zg M 202 j ∧ zg M 202 j < (k : Int)) ∧ (∀ i j : Nat, i < j → j < k → zg M 1289 (zg M 202 i).toNat < zg M 1289 (zg M 202 j).toNat ∨ (zg M 1289 (zg M 202 i).toNat = zg M 1289 (zg M 202 j).toNat ∧ zg M 202 i < zg M 202 j)) ∧ (∀ m : Nat, m < k → ∃ j : Nat, j < k ∧ zg M 202 j = (m : Int))
def cIM (i j : Nat) : Bool := i == 199 || i == 200 || i == 201 || i == 202 || i == 1287 || i == 1288 || i == 1289 || (i == 192 && j == 10) || (i == 1280 && j == 5) || (i == 1280 && j == 1)
theorem IM_cg {M M2 : zM} (h199 : ∀ p, zg M2 199 p = zg M 199 p) (h200 : ∀ p, zg M2 200 p = zg M 200 p) (h201 : ∀ p, zg M2 201 p = zg M 201 p) (h202 : ∀ p, zg M2 202 p = zg M 202 p) (h1287 : ∀ p, zg M2 1287 p = zg M 1287 p) (h1288 : ∀ p, zg M2 1288 p = zg M 1288 p) (h1289 : ∀ p, zg M2 1289 p = zg M 1289 p) (f192_10 : zg M2 192 10 = zg M 192 10) (f1280_5 : zg M2 1280 5 = zg M 1280 5) (f1280_1 : zg M2 1280 1 = zg M 1280 1) (hI : IM M) : IM M2 := by
  simp only [IM, h199, h200, h201, h202, h1287, h1288, h1289, f192_10, f1280_5, f1280_1] at hI ⊢
  exact hI
theorem IM_fr {M M2 : zM} (hF : ∀ i j, cIM i j = true → zg M2 i j = zg M i j) (hI : IM M) : IM M2 := IM_cg (fun p => hF 199 p rfl) (fun p => hF 200 p rfl) (fun p => hF 201 p rfl) (fun p => hF 202 p rfl) (fun p => hF 1287 p rfl) (fun p => hF 1288 p rfl) (fun p => hF 1289 p rfl) (hF 192 10 rfl) (hF 1280 5 rfl) (hF 1280 1 rfl) hI
theorem IM_zs {M : zM} {i j : Nat} {v : Int} (h : cIM i j = false) (hI : IM M) : IM (zs M i j v) := IM_fr (fun a b hab => by rw [zg_zs, if_neg]; rintro ⟨rfl, rfl⟩; rw [h] at hab; cases hab) hI
theorem IM_zci {M : zM} {q x y z w : Nat} (h : ∀ j, cIM q j = false) (hI : IM M) : IM (zci M x q y z w) := IM_fr (fun a b hab => by rw [zg_zci, if_neg]; rintro rfl; rw [h b] at hab; cases hab) hI
theorem IM_zt {M : zM} {i j : Nat} {v : Int} (hI : IM M) : IM (zt M i j v) := hI
theorem IM_zcl {M : zM} {q x y z w : Nat} (hI : IM M) : IM (zcl M x q y z w) := hI
def IH (M : zM) : Prop := zg M 192 11 = zg M 1280 9 ∧ (zg M 1280 9 = 0 ∨ zg M 1280 9 = 1)
def cIH (i j : Nat) : Bool := (i == 192 && j == 11) || (i == 1280 && j == 9)
theorem IH_cg {M M2 : zM}  (f192_11 : zg M2 192 11 = zg M 192 11) (f1280_9 : zg M2 1280 9 = zg M 1280 9) (hI : IH M) : IH M2 := by
  simp only [IH, f192_11, f1280_9] at hI ⊢
  exact hI
theorem IH_fr {M M2 : zM} (hF : ∀ i j, cIH i j = true → zg M2 i j = zg M i j) (hI : IH M) : IH M2 := IH_cg (hF 192 11 rfl) (hF 1280 9 rfl) hI
theorem IH_zs {M : zM} {i j : Nat} {v : Int} (h : cIH i j = false) (hI : IH M) : IH (zs M i j v) := IH_fr (fun a b hab => by rw [zg_zs, if_neg]; rintro ⟨rfl, rfl⟩; rw [h] at hab; cases hab) hI
theorem IH_zci {M : zM} {q x y z w : Nat} (h : ∀ j, cIH q j = false) (hI : IH M) : IH (zci M x q y z w) := IH_fr (fun a b hab => by rw [zg_zci, if_neg]; rintro rfl; rw [h b] at hab; cases hab) hI
theorem IH_zt {M : zM} {i j : Nat} {v : Int} (hI : IH M) : IH (zt M i j v) := hI
theorem IH_zcl {M : zM} {q x y z w : Nat} (hI : IH M) : IH (zcl M x q y z w) := hI
def IW (M : zM) : Prop := ∀ a : Nat, a < 12 → zg M 205 a = zg M 1291 a ∧ 0 ≤ zg M 1291 a ∧ zg M 1291 a ≤ 9
def cIW (i j : Nat) : Bool := i == 205 || i == 1291
theorem IW_cg {M M2 : zM} (h205 : ∀ p, zg M2 205 p = zg M 205 p) (h1291 : ∀ p, zg M2 1291 p = zg M 1291 p)  (hI : IW M) : IW M2 := by
  simp only [IW, h205, h1291] at hI ⊢
  exact hI
theorem IW_fr {M M2 : zM} (hF : ∀ i j, cIW i j = true → zg M2 i j = zg M i j) (hI : IW M) : IW M2 := IW_cg (fun p => hF 205 p rfl) (fun p => hF 1291 p rfl) hI
theorem IW_zs {M : zM} {i j : Nat} {v : Int} (h : cIW i j = false) (hI : IW M) : IW (zs M i j v) := IW_fr (fun a b hab => by rw [zg_zs, if_neg]; rintro ⟨rfl, rfl⟩; rw [h] at hab; cases hab) hI
theorem IW_zci {M : zM} {q x y z w : Nat} (h : ∀ j, cIW q j = false) (hI : IW M) : IW (zci M x q y z w) := IW_fr (fun a b hab => by rw [zg_zci, if_neg]; rintro rfl; rw [h b] at hab; cases hab) hI
theorem IW_zt {M : zM} {i j : Nat} {v : Int} (hI : IW M) : IW (zt M i j v) := hI
theorem IW_zcl {M : zM} {q x y z w : Nat} (hI : IW M) : IW (zcl M x q y z w) := hI
def IF (M : zM) : Prop := ∀ a : Nat, a < 12 → zg M 206 a = zg M 1292 a ∧ (zg M 1292 a = 0 ∨ zg M 1292 a = 1)
def cIF (i j : Nat) : Bool := i == 206 || i == 1292
theorem IF_cg {M M2 : zM} (h206 : ∀ p, zg M2 206 p = zg M 206 p) (h1292 : ∀ p, zg M2 1292 p = zg M 1292 p)  (hI : IF M) : IF M2 := by
  simp only [IF, h206, h1292] at hI ⊢
  exact hI
theorem IF_fr {M M2 : zM} (hF : ∀ i j, cIF i j = true → zg M2 i j = zg M i j) (hI : IF M) : IF M2 := IF_cg (fun p => hF 206 p rfl) (fun p => hF 1292 p rfl) hI
theorem IF_zs {M : zM} {i j : Nat} {v : Int} (h : cIF i j = false) (hI : IF M) : IF (zs M i j v) := IF_fr (fun a b hab => by rw [zg_zs, if_neg]; rintro ⟨rfl, rfl⟩; rw [h] at hab; cases hab) hI
theorem IF_zci {M : zM} {q x y z w : Nat} (h : ∀ j, cIF q j = false) (hI : IF M) : IF (zci M x q y z w) := IF_fr (fun a b hab => by rw [zg_zci, if_neg]; rintro rfl; rw [h b] at hab; cases hab) hI
theorem IF_zt {M : zM} {i j : Nat} {v : Int} (hI : IF M) : IF (zt M i j v) := hI
theorem IF_zcl {M : zM} {q x y z w : Nat} (hI : IF M) : IF (zcl M x q y z w) := hI
def IC (M : zM) : Prop := ∃ dn kp : Nat, dn ≤ kp ∧ kp ≤ 40 ∧ zg M 448 4 = (dn : Int) ∧ zg M 448 5 = (kp : Int) ∧ zg M 1280 12 = (dn : Int) ∧ zg M 1280 13 = (kp : Int) - (dn : Int) ∧ (∀ i : Nat, i < kp → zg M 449 i = zg M 1295 i ∧ zg M 450 i = zg M 1296 i ∧ zg M 451 i = zg M 1297 i ∧ zg M 452 i = zg M 1298 i ∧ ((zg M 1295 i = 0 ∧ 0 ≤ zg M 1296 i ∧ zg M 1296 i < zg M 1280 1 ∧ zg M 1283 (zg M 1296 i).toNat < zg M 1297 i ∧ zg M 1297 i ≤ 100 ∧ zg M 1283 (zg M 1296 i).toNat < zg M 1298 i ∧ zg M 1298 i ≤ 100) ∨ (zg M 1295 i = 1 ∧ 0 ≤ zg M 1296 i ∧ zg M 1296 i < 12 ∧ 0 ≤ zg M 1297 i ∧ zg M 1297 i ≤ 9 ∧ 0 ≤ zg M 1298 i ∧ zg M 1298 i ≤ 9)))
def cIC (i j : Nat) : Bool := i == 449 || i == 450 || i == 451 || i == 452 || i == 1295 || i == 1296 || i == 1297 || i == 1298 || i == 1283 || (i == 448 && j == 4) || (i == 448 && j == 5) || (i == 1280 && j == 12) || (i == 1280 && j == 13) || (i == 1280 && j == 1)
theorem IC_cg {M M2 : zM} (h449 : ∀ p, zg M2 449 p = zg M 449 p) (h450 : ∀ p, zg M2 450 p = zg M 450 p) (h451 : ∀ p, zg M2 451 p = zg M 451 p) (h452 : ∀ p, zg M2 452 p = zg M 452 p) (h1295 : ∀ p, zg M2 1295 p = zg M 1295 p) (h1296 : ∀ p, zg M2 1296 p = zg M 1296 p) (h1297 : ∀ p, zg M2 1297 p = zg M 1297 p) (h1298 : ∀ p, zg M2 1298 p = zg M 1298 p) (h1283 : ∀ p, zg M2 1283 p = zg M 1283 p) (f448_4 : zg M2 448 4 = zg M 448 4) (f448_5 : zg M2 448 5 = zg M 448 5) (f1280_12 : zg M2 1280 12 = zg M 1280 12) (f1280_13 : zg M2 1280 13 = zg M 1280 13) (f1280_1 : zg M2 1280 1 = zg M 1280 1) (hI : IC M) : IC M2 := by
  simp only [IC, h449, h450, h451, h452, h1295, h1296, h1297, h1298, h1283, f448_4, f448_5, f1280_12, f1280_13, f1280_1] at hI ⊢
  exact hI
theorem IC_fr {M M2 : zM} (hF : ∀ i j, cIC i j = true → zg M2 i j = zg M i j) (hI : IC M) : IC M2 := IC_cg (fun p => hF 449 p rfl) (fun p => hF 450 p rfl) (fun p => hF 451 p rfl) (fun p => hF 452 p rfl) (fun p => hF 1295 p rfl) (fun p => hF 1296 p rfl) (fun p => hF 1297 p rfl) (fun p => hF 1298 p rfl) (fun p => hF 1283 p rfl) (hF 448 4 rfl) (hF 448 5 rfl) (hF 1280 12 rfl) (hF 1280 13 rfl) (hF 1280 1 rfl) hI
theorem IC_zs {M : zM} {i j : Nat} {v : Int} (h : cIC i j = false) (hI : IC M) : IC (zs M i j v) := IC_fr (fun a b hab => by rw [zg_zs, if_neg]; rintro ⟨rfl, rfl⟩; rw [h] at hab; cases hab) hI
theorem IC_zci {M : zM} {q x y z w : Nat} (h : ∀ j, cIC q j = false) (hI : IC M) : IC (zci M x q y z w) := IC_fr (fun a b hab => by rw [zg_zci, if_neg]; rintro rfl; rw [h b] at hab; cases hab) hI
theorem IC_zt {M : zM} {i j : Nat} {v : Int} (hI : IC M) : IC (zt M i j v) := hI
theorem IC_zcl {M : zM} {q x y z w : Nat} (hI : IC M) : IC (zcl M x q y z w) := hI
def II (M : zM) : Prop := (zg M 64 8 = -1 ∧ zg M 1280 36 = 0) ∨ (∃ q : Nat, zg M 64 8 = (q : Int) ∧ zg M 1280 36 = 1 ∧ zg M 1280 37 = (q : Int) ∧ (q : Int) ≤ zg M 1280 1 ∧ ∀ p : Nat, p < q → zg M 72 p = zg M 1319 p ∧ -1 ≤ zg M 1319 p ∧ zg M 1319 p < 12)
def cII (i j : Nat) : Bool := i == 72 || i == 1319 || (i == 64 && j == 8) || (i == 1280 && j == 36) || (i == 1280 && j == 37) || (i == 1280 && j == 1)
theorem II_cg {M M2 : zM} (h72 : ∀ p, zg M2 72 p = zg M 72 p) (h1319 : ∀ p, zg M2 1319 p = zg M 1319 p) (f64_8 : zg M2 64 8 = zg M 64 8) (f1280_36 : zg M2 1280 36 = zg M 1280 36) (f1280_37 : zg M2 1280 37 = zg M 1280 37) (f1280_1 : zg M2 1280 1 = zg M 1280 1) (hI : II M) : II M2 := by
  simp only [II, h72, h1319, f64_8, f1280_36, f1280_37, f1280_1] at hI ⊢
  exact hI
theorem II_fr {M M2 : zM} (hF : ∀ i j, cII i j = true → zg M2 i j = zg M i j) (hI : II M) : II M2 := II_cg (fun p => hF 72 p rfl) (fun p => hF 1319 p rfl) (hF 64 8 rfl) (hF 1280 36 rfl) (hF 1280 37 rfl) (hF 1280 1 rfl) hI
theorem II_zs {M : zM} {i j : Nat} {v : Int} (h : cII i j = false) (hI : II M) : II (zs M i j v) := II_fr (fun a b hab => by rw [zg_zs, if_neg]; rintro ⟨rfl, rfl⟩; rw [h] at hab; cases hab) hI
theorem II_zci {M : zM} {q x y z w : Nat} (h : ∀ j, cII q j = false) (hI : II M) : II (zci M x q y z w) := II_fr (fun a b hab => by rw [zg_zci, if_neg]; rintro rfl; rw [h b] at hab; cases hab) hI
theorem II_zt {M : zM} {i j : Nat} {v : Int} (hI : II M) : II (zt M i j v) := hI
theorem II_zcl {M : zM} {q x y z w : Nat} (hI : II M) : II (zcl M x q y z w) := hI
def IT (M : zM) : Prop := ∃ t : Nat, t ≤ 120 ∧ zg M 128 1 = (t : Int) ∧ zg M 1280 19 = (t : Int) ∧ ∀ i : Nat, i < t → 0 ≤ zg M 129 i ∧ zg M 129 i ≤ 255 ∧ zg M 1299 i = z_b (zg M 129 i)
def cIT (i j : Nat) : Bool := i == 129 || i == 1299 || (i == 128 && j == 1) || (i == 1280 && j == 19)
theorem IT_cg {M M2 : zM} (h129 : ∀ p, zg M2 129 p = zg M 129 p) (h1299 : ∀ p, zg M2 1299 p = zg M 1299 p) (f128_1 : zg M2 128 1 = zg M 128 1) (f1280_19 : zg M2 1280 19 = zg M 1280 19) (hI : IT M) : IT M2 := by
  simp only [IT, h129, h1299, f128_1, f1280_19] at hI ⊢
  exact hI
theorem IT_fr {M M2 : zM} (hF : ∀ i j, cIT i j = true → zg M2 i j = zg M i j) (hI : IT M) : IT M2 := IT_cg (fun p => hF 129 p rfl) (fun p => hF 1299 p rfl) (hF 128 1 rfl) (hF 1280 19 rfl) hI
theorem IT_zs {M : zM} {i j : Nat} {v : Int} (h : cIT i j = false) (hI : IT M) : IT (zs M i j v) := IT_fr (fun a b hab => by rw [zg_zs, if_neg]; rintro ⟨rfl, rfl⟩; rw [h] at hab; cases hab) hI
theorem IT_zci {M : zM} {q x y z w : Nat} (h : ∀ j, cIT q j = false) (hI : IT M) : IT (zci M x q y z w) := IT_fr (fun a b hab => by rw [zg_zci, if_neg]; rintro rfl; rw [h b] at hab; cases hab) hI
theorem IT_zt {M : zM} {i j : Nat} {v : Int} (hI : IT M) : IT (zt M i j v) := hI
theorem IT_zcl {M : zM} {q x y z w : Nat} (hI : IT M) : IT (zcl M x q y z w) := hI
def IG (M : zM) : Prop := ∃ nb : Nat, nb ≤ 50 ∧ zg M 512 1 = (nb : Int) ∧ zg M 1280 39 = (nb : Int) ∧ (∀ b : Nat, b < nb → zg M 513 b = zg M 1321 b ∧ 0 ≤ zg M 1321 b ∧ zg M 1321 b < 8)
def cIG (i j : Nat) : Bool := i == 513 || i == 1321 || (i == 512 && j == 1) || (i == 1280 && j == 39)
theorem IG_cg {M M2 : zM} (h513 : ∀ p, zg M2 513 p = zg M 513 p) (h1321 : ∀ p, zg M2 1321 p = zg M 1321 p) (f512_1 : zg M2 512 1 = zg M 512 1) (f1280_39 : zg M2 1280 39 = zg M 1280 39) (hI : IG M) : IG M2 := by
  simp only [IG, h513, h1321, f512_1, f1280_39] at hI ⊢
  exact hI
theorem IG_fr {M M2 : zM} (hF : ∀ i j, cIG i j = true → zg M2 i j = zg M i j) (hI : IG M) : IG M2 := IG_cg (fun p => hF 513 p rfl) (fun p => hF 1321 p rfl) (hF 512 1 rfl) (hF 1280 39 rfl) hI
theorem IG_zs {M : zM} {i j : Nat} {v : Int} (h : cIG i j = false) (hI : IG M) : IG (zs M i j v) := IG_fr (fun a b hab => by rw [zg_zs, if_neg]; rintro ⟨rfl, rfl⟩; rw [h] at hab; cases hab) hI
theorem IG_zci {M : zM} {q x y z w : Nat} (h : ∀ j, cIG q j = false) (hI : IG M) : IG (zci M x q y z w) := IG_fr (fun a b hab => by rw [zg_zci, if_neg]; rintro rfl; rw [h b] at hab; cases hab) hI
theorem IG_zt {M : zM} {i j : Nat} {v : Int} (hI : IG M) : IG (zt M i j v) := hI
theorem IG_zcl {M : zM} {q x y z w : Nat} (hI : IG M) : IG (zcl M x q y z w) := hI
def IR (M : zM) : Prop := ∃ rn : Nat, rn ≤ 1000000 ∧ zg M 512 3 = (rn : Int) ∧ zg M 1280 41 = (rn : Int) ∧ (∀ i : Nat, i < rn → i < 24 → zg M 515 i = zg M 1323 i)
def cIR (i j : Nat) : Bool := i == 515 || i == 1323 || (i == 512 && j == 3) || (i == 1280 && j == 41)
theorem IR_cg {M M2 : zM} (h515 : ∀ p, zg M2 515 p = zg M 515 p) (h1323 : ∀ p, zg M2 1323 p = zg M 1323 p) (f512_3 : zg M2 512 3 = zg M 512 3) (f1280_41 : zg M2 1280 41 = zg M 1280 41) (hI : IR M) : IR M2 := by
  simp only [IR, h515, h1323, f512_3, f1280_41] at hI ⊢
  exact hI
theorem IR_fr {M M2 : zM} (hF : ∀ i j, cIR i j = true → zg M2 i j = zg M i j) (hI : IR M) : IR M2 := IR_cg (fun p => hF 515 p rfl) (fun p => hF 1323 p rfl) (hF 512 3 rfl) (hF 1280 41 rfl) hI
theorem IR_zs {M : zM} {i j : Nat} {v : Int} (h : cIR i j = false) (hI : IR M) : IR (zs M i j v) := IR_fr (fun a b hab => by rw [zg_zs, if_neg]; rintro ⟨rfl, rfl⟩; rw [h] at hab; cases hab) hI
theorem IR_zci {M : zM} {q x y z w : Nat} (h : ∀ j, cIR q j = false) (hI : IR M) : IR (zci M x q y z w) := IR_fr (fun a b hab => by rw [zg_zci, if_neg]; rintro rfl; rw [h b] at hab; cases hab) hI
theorem IR_zt {M : zM} {i j : Nat} {v : Int} (hI : IR M) : IR (zt M i j v) := hI
theorem IR_zcl {M : zM} {q x y z w : Nat} (hI : IR M) : IR (zcl M x q y z w) := hI
def ISj (M : zM) (j : Nat) : Prop := (zg M (640 + 64 * j) 2 = -1 ∧ zg M 1324 j = zg M (640 + 64 * j) 1 ∧ -1 ≤ zg M (640 + 64 * j) 1 ∧ zg M (640 + 64 * j) 1 < zg M 1280 39) ∨ (0 ≤ zg M (640 + 64 * j) 2 ∧ zg M (640 + 64 * j) 2 ≤ 4 ∧ zg M 1324 j = -2 - zg M (640 + 64 * j) 2 ∧ zg M (640 + 64 * j) 1 = -1 ∧ zg M 1325 j = zg M (640 + 64 * j) 3 ∧ 0 ≤ zg M (640 + 64 * j) 3 ∧ zg M (640 + 64 * j) 3 ≤ 60 ∧ ∀ i : Nat, i < 60 → zh M (640 + 64 * j + 1) i = zh M 1326 (60 * j + i))
def IS (M : zM) : Prop := ∀ j : Nat, j < 6 → ISj M j
def cIS (i j : Nat) : Bool := (640 ≤ i && i < 1024) || i == 1324 || i == 1325 || (i == 1280 && j == 39)
theorem IS_fr {M M2 : zM} (hF : ∀ i j, cIS i j = true → zg M2 i j = zg M i j) (hH : ∀ i j, (640 ≤ i ∧ i < 1024) ∨ i = 1326 → zh M2 i j = zh M i j) (hI : IS M) : IS M2 := by
  intro j hj
  have h := hI j hj
  have e : ∀ k, zg M2 (640 + 64 * j) k = zg M (640 + 64 * j) k := by
    intro k
    have h1 : 640 + 64 * j < 1024 := by omega
    exact hF _ _ (by simp [cIS, h1])
  have e2 : ∀ k, zh M2 (640 + 64 * j + 1) k = zh M (640 + 64 * j + 1) k := fun k => hH _ _ (Or.inl (by omega))
  have e3 : ∀ k, zh M2 1326 k = zh M 1326 k := fun k => hH _ _ (Or.inr rfl)
  unfold ISj at h ⊢
  simp only [e, e2, e3, hF 1324 _ rfl, hF 1325 _ rfl, hF 1280 39 rfl]
  exact h
theorem IS_zs {M : zM} {i j : Nat} {v : Int} (h : cIS i j = false) (hI : IS M) : IS (zs M i j v) := IS_fr (M := M) (fun a b hab => by rw [zg_zs, if_neg]; rintro ⟨rfl, rfl⟩; rw [h] at hab; cases hab) (fun _ _ _ => rfl) hI
theorem IS_zci {M : zM} {q x y z w : Nat} (h : ∀ j, cIS q j = false) (hI : IS M) : IS (zci M x q y z w) := IS_fr (M := M) (fun a b hab => by rw [zg_zci, if_neg]; rintro rfl; rw [h b] at hab; cases hab) (fun _ _ _ => rfl) hI
/-- a class code as the reference's step -/
def tk1 (c : Int) : Int := if 0 ≤ c then 1 else if -6 ≤ c then 2 else if c = -33 then 3 else if c = -126 then 4 else -c
def tk2 (c : Int) : Int := if 0 ≤ c then c else if -6 ≤ c then -1 - c else 0
/-- a line: its test's codes (none: no test), its own codes -/
abbrev lwL : Type := Option (List Int) × List Int
def lwC (l : lwL) : List Int := match l.1 with | none => l.2 | some t => t ++ (-63) :: l.2
def lwS (l : lwL) : List Int := match l.1 with | none => l.2 | some t => t ++ l.2
def lwCs : List lwL → List Int | [] => [] | [l] => lwC l | l :: ls => lwC l ++ (-59) :: lwCs ls
def lwSs (ls : List lwL) : List Int := ls.flatMap lwS
/-- codes that leave h2 numbers where h1 were -/
def lwH : List Int → Nat → Option Nat
  | [], h => some h
  | c :: cs, h => if -6 ≤ c then lwH cs (h + 1) else if c = -33 ∨ c = -126 then (if 1 ≤ h then lwH cs h else none) else if c = -37 ∨ c = -38 ∨ c = -42 ∨ c = -43 ∨ c = -45 ∨ c = -47 ∨ c = -60 ∨ c = -61 ∨ c = -62 ∨ c = -124 then (if 2 ≤ h then lwH cs (h - 1) else none) else none
def lwOk (ls : List lwL) : Prop := ls ≠ [] ∧ ∀ l ∈ ls, lwH l.2 0 = some 1 ∧ l.2 ≠ [] ∧ ∀ t, l.1 = some t → lwH t 0 = some 1 ∧ t ≠ []
/-- where line k's steps begin -/
def lwB (ls : List lwL) (k : Nat) : Nat := (lwSs (ls.take k)).length
def IL (M : zM) : Prop := (zg M 128 7 = 0 ∧ zg M 1280 31 = 0) ∨ (zg M 1280 31 = 1 ∧ ∃ ls : List lwL, lwOk ls ∧ zg M 128 7 = ((lwCs ls).length : Int) ∧ (lwCs ls).length ≤ 120 ∧ (∀ i : Nat, i < (lwCs ls).length → zg M 135 i = (lwCs ls).getD i 0) ∧ zg M 1307 0 = (ls.length : Int) ∧ ls.length ≤ 60 ∧ (lwSs ls).length ≤ 120 ∧ (∀ i : Nat, i < 130 → i < (lwSs ls).length → zg M 1305 i = tk1 ((lwSs ls).getD i 0) ∧ zg M 1306 i = tk2 ((lwSs ls).getD i 0)) ∧ (∀ k : Nat, k < 61 → k < ls.length → zg M 1308 k = ((lwB ls k + (((ls.getD k (none, [])).1).getD []).length : Nat) : Int) ∧ zg M 1309 k = ((lwB ls (k + 1) : Nat) : Int)))
def cIL (i j : Nat) : Bool := i == 135 || ((i == 1305 || i == 1306) && decide (j < 130)) || (i == 1307 && j == 0) || ((i == 1308 || i == 1309) && decide (j < 61)) || (i == 128 && j == 7) || (i == 1280 && j == 31)
theorem IL_fr {M M2 : zM} (hF : ∀ i j, cIL i j = true → zg M2 i j = zg M i j) (hI : IL M) : IL M2 := by
  have f1 : zg M2 128 7 = zg M 128 7 := hF 128 7 rfl
  have f2 : zg M2 1280 31 = zg M 1280 31 := hF 1280 31 rfl
  have f3 : zg M2 1307 0 = zg M 1307 0 := hF 1307 0 rfl
  have f4 : ∀ p, zg M2 135 p = zg M 135 p := fun p => hF 135 p rfl
  unfold IL at hI ⊢
  rw [f1, f2]
  rcases hI with h | ⟨h1, ls, h2, h3, h4, h5, h6, h7, h8, h9, h10⟩
  · exact Or.inl h
  · refine Or.inr ⟨h1, ls, h2, h3, h4, fun i hi => by rw [f4]; exact h5 i hi, by rw [f3]; exact h6, h7, h8, fun i hi hl => ?_, fun k hk hl => ?_⟩
    · rw [hF 1305 i (by simp [cIL, hi]), hF 1306 i (by simp [cIL, hi])]; exact h9 i hi hl
    · rw [hF 1308 k (by simp [cIL, hk]), hF 1309 k (by simp [cIL, hk])]; exact h10 k hk hl
theorem IL_zs {M : zM} {i j : Nat} {v : Int} (h : cIL i j = false) (hI : IL M) : IL (zs M i j v) := IL_fr (fun a b hab => by rw [zg_zs, if_neg]; rintro ⟨rfl, rfl⟩; rw [h] at hab; cases hab) hI
theorem IL_zci {M : zM} {q x y z w : Nat} (h : ∀ j, cIL q j = false) (hI : IL M) : IL (zci M x q y z w) := IL_fr (fun a b hab => by rw [zg_zci, if_neg]; rintro rfl; rw [h b] at hab; cases hab) hI
theorem IL_zt {M : zM} {i j : Nat} {v : Int} (hI : IL M) : IL (zt M i j v) := hI
theorem IL_zcl {M : zM} {q x y z w : Nat} (hI : IL M) : IL (zcl M x q y z w) := hI
/-- class and reference hold the same -/
def Inv (M : zM) : Prop := IP M ∧ ID M ∧ IN M ∧ IM M ∧ IH M ∧ IW M ∧ IF M ∧ IC M ∧ II M ∧ IT M ∧ IL M ∧ IG M ∧ IR M ∧ IS M
/-- a cell that no part of it speaks of -/
def cInv (i j : Nat) : Bool := cIP i j || cID i j || cIN i j || cIM i j || cIH i j || cIW i j || cIF i j || cIC i j || cII i j || cIT i j || cIL i j || cIG i j || cIR i j || cIS i j
theorem Inv_fr {M M2 : zM} (hF : ∀ i j, cInv i j = true → zg M2 i j = zg M i j) (hH : ∀ i j, (640 ≤ i ∧ i < 1024) ∨ i = 1326 → zh M2 i j = zh M i j) (hI : Inv M) : Inv M2 := by
  obtain ⟨h1, h2, h3, h4, h5, h6, h7, h8, h9, h10, h11, h12, h13, h14⟩ := hI
  refine ⟨IP_fr (fun i j h => hF i j ?_) h1, ID_fr (fun i j h => hF i j ?_) h2, IN_fr (fun i j h => hF i j ?_) h3, IM_fr (fun i j h => hF i j ?_) h4, IH_fr (fun i j h => hF i j ?_) h5, IW_fr (fun i j h => hF i j ?_) h6, IF_fr (fun i j h => hF i j ?_) h7, IC_fr (fun i j h => hF i j ?_) h8, II_fr (fun i j h => hF i j ?_) h9, IT_fr (fun i j h => hF i j ?_) h10, IL_fr (fun i j h => hF i j ?_) h11, IG_fr (fun i j h => hF i j ?_) h12, IR_fr (fun i j h => hF i j ?_) h13, IS_fr (fun i j h => hF i j ?_) hH h14⟩ <;> simp only [cInv, h, Bool.or_true, Bool.true_or]
theorem Inv_zs {M : zM} {i j : Nat} {v : Int} (h : cInv i j = false) (hI : Inv M) : Inv (zs M i j v) := Inv_fr (M := M) (fun a b hab => by rw [zg_zs, if_neg]; rintro ⟨rfl, rfl⟩; rw [h] at hab; cases hab) (fun _ _ _ => rfl) hI
theorem e_of {d : Nat} (k : Nat) (h : k + 1 ≤ d) : ∃ e, d = e + 1 ∧ k ≤ e := ⟨d - 1, by omega, by omega⟩
