/-! the world behind the two constructors -/
theorem fa_c {p : Nat → Prop} {a : Nat} {l : List Nat} (h : p a) (t : ∀ x ∈ l, p x) : ∀ x ∈ a :: l, p x := fun x hx => (List.mem_cons.mp hx).elim (fun e => e ▸ h) (t x)
theorem fa_n {p : Nat → Prop} : ∀ x ∈ ([] : List Nat), p x := fun x hx => by cases hx
def idL : List Nat := [64, 128, 129, 131, 135, 137, 138, 192, 194, 195, 197, 199, 200, 201, 202, 206, 207, 196, 205, 256, 258, 259, 261, 263, 264, 265, 266, 270, 271, 260, 269, 320, 323, 384, 386, 387, 448, 449, 450, 451, 452, 512, 513, 515, 71, 640, 641, 704, 705, 768, 769, 832, 833, 896, 897, 960, 961, 72, 1280, 1283, 1284, 1285, 1287, 1288, 1289, 1291, 1292, 1295, 1296, 1297, 1298, 1299, 1305, 1306, 1307, 1308, 1309, 1310, 1311, 1313, 1314, 1315, 1316, 1319, 1321, 1323, 1324, 1325, 1326, 1327]
theorem idL_in : ∀ i ∈ zIDS, i ∈ idL := by decide +kernel
theorem zIDS_in : ∀ i ∈ idL, i ∈ zIDS := by decide +kernel
def w7 (cy : Nat → ClassId) (adr : Nat → Nat) : va_W := [((adr 64), .inr (7, [.ref (adr 128), .ref (adr 192), .ref (adr 320), .ref (adr 384), .ref (adr 448), .ref (adr 512), .ref (adr 71), .ref (adr 72), .int (-1)])), ((adr 128), .inr (2, [.ref (adr 129), .int 0, .ref (adr 131), .int 0, .int 0, .int 0, .ref (adr 135), .int 0, .ref (adr 137), .ref (adr 138), .int 0])), ((adr 129), .inl ((cy 0), 120, .inl (fun _ => 0))), ((adr 131), .inl ((cy 0), 120, .inl (fun _ => 0))), ((adr 135), .inl ((cy 0), 120, .inl (fun _ => 0))), ((adr 137), .inl ((cy 0), 6, .inl (fun _ => 0))), ((adr 138), .inl ((cy 0), 120, .inl (fun _ => 0))), ((adr 192), .inr (4, [.ref (adr 128), .ref (adr 194), .ref (adr 195), .ref (adr 196), .ref (adr 197), .int 0, .ref (adr 199), .ref (adr 200), .ref (adr 201), .ref (adr 202), .int 0, .int 0, .ref (adr 205), .ref (adr 206), .ref (adr 207)])), ((adr 194), .inl ((cy 0), 12, .inl (fun _ => 0))), ((adr 195), .inl ((cy 0), 12, .inl (fun _ => 0))), ((adr 197), .inl ((cy 0), 12, .inl (fun _ => 0))), ((adr 199), .inl ((cy 0), 16, .inl (fun _ => 0))), ((adr 200), .inl ((cy 0), 16, .inl (fun _ => 0))), ((adr 201), .inl ((cy 0), 16, .inl (fun _ => 0))), ((adr 202), .inl ((cy 0), 16, .inl (fun _ => 0))), ((adr 206), .inl ((cy 0), 12, .inl (fun _ => 0))), ((adr 207), .inl ((cy 0), 12, .inl (fun _ => 0))), ((adr 196), .inl ((cy 0), 12, .inl (flF (fun _ => 0) (-1) 12))), ((adr 205), .inl ((cy 0), 12, .inl (flF (fun _ => 0) 1 12))), ((adr 256), .inr (4, [.ref (adr 128), .ref (adr 258), .ref (adr 259), .ref (adr 260), .ref (adr 261), .int 0, .ref (adr 263), .ref (adr 264), .ref (adr 265), .ref (adr 266), .int 0, .int 0, .ref (adr 269), .ref (adr 270), .ref (adr 271)])), ((adr 258), .inl ((cy 0), 12, .inl (fun _ => 0))), ((adr 259), .inl ((cy 0), 12, .inl (fun _ => 0))), ((adr 261), .inl ((cy 0), 12, .inl (fun _ => 0))), ((adr 263), .inl ((cy 0), 16, .inl (fun _ => 0))), ((adr 264), .inl ((cy 0), 16, .inl (fun _ => 0))), ((adr 265), .inl ((cy 0), 16, .inl (fun _ => 0))), ((adr 266), .inl ((cy 0), 16, .inl (fun _ => 0))), ((adr 270), .inl ((cy 0), 12, .inl (fun _ => 0))), ((adr 271), .inl ((cy 0), 12, .inl (fun _ => 0))), ((adr 260), .inl ((cy 0), 12, .inl (flF (fun _ => 0) (-1) 12))), ((adr 269), .inl ((cy 0), 12, .inl (flF (fun _ => 0) 1 12))), ((adr 320), .inr (3, [.ref (adr 192), .ref (adr 256), .ref (adr 323), .int 0])), ((adr 323), .inl ((cy 0), 12, .inl (fun _ => 0))), ((adr 384), .inr (5, [.ref (adr 192), .ref (adr 386), .ref (adr 387), .int 0, .int 0, .int 0])), ((adr 386), .inl ((cy 0), 12, .inl (fun _ => 0))), ((adr 387), .inl ((cy 0), 144, .inl (fun _ => 0))), ((adr 448), .inr (0, [.ref (adr 449), .ref (adr 450), .ref (adr 451), .ref (adr 452), .int 0, .int 0])), ((adr 449), .inl ((cy 0), 40, .inl (fun _ => 0))), ((adr 450), .inl ((cy 0), 40, .inl (fun _ => 0))), ((adr 451), .inl ((cy 0), 40, .inl (fun _ => 0))), ((adr 452), .inl ((cy 0), 40, .inl (fun _ => 0))), ((adr 512), .inr (1, [.ref (adr 513), .int 0, .ref (adr 515), .int 0, .int 0])), ((adr 513), .inl ((cy 0), 50, .inl (fun _ => 0))), ((adr 515), .inl ((cy 0), 24, .inl (fun _ => 0))), ((adr 71), .inl ((cy 5), 6, .inr (.inr (.inr (.inr (va_up ((va_up ((va_up ((va_up ((va_up ((va_up ((fun _ => none)) 0 (some (adr 640)))) 1 (some (adr 704)))) 2 (some (adr 768)))) 3 (some (adr 832)))) 4 (some (adr 896)))) 5 (some (adr 960)))))))), ((adr 640), .inr (6, [.ref (adr 641), .int (-1), .int (-1), .int 0])), ((adr 641), .inl ((cy 4), 60, .inr (.inl (fun _ => 0)))), ((adr 704), .inr (6, [.ref (adr 705), .int (-1), .int (-1), .int 0])), ((adr 705), .inl ((cy 4), 60, .inr (.inl (fun _ => 0)))), ((adr 768), .inr (6, [.ref (adr 769), .int (-1), .int (-1), .int 0])), ((adr 769), .inl ((cy 4), 60, .inr (.inl (fun _ => 0)))), ((adr 832), .inr (6, [.ref (adr 833), .int (-1), .int (-1), .int 0])), ((adr 833), .inl ((cy 4), 60, .inr (.inl (fun _ => 0)))), ((adr 896), .inr (6, [.ref (adr 897), .int (-1), .int (-1), .int 0])), ((adr 897), .inl ((cy 4), 60, .inr (.inl (fun _ => 0)))), ((adr 960), .inr (6, [.ref (adr 961), .int (-1), .int (-1), .int 0])), ((adr 961), .inl ((cy 4), 60, .inr (.inl (fun _ => 0)))), ((adr 72), .inl ((cy 0), 12, .inl (fun _ => 0)))]
def w8 (cy : Nat → ClassId) (adr : Nat → Nat) : va_W := [((adr 1280), .inr (8, [.int 0, .int 0, .ref (adr 1283), .ref (adr 1284), .ref (adr 1285), .int 0, .ref (adr 1287), .ref (adr 1288), .ref (adr 1289), .int 0, .ref (adr 1291), .ref (adr 1292), .int 0, .int 0, .ref (adr 1295), .ref (adr 1296), .ref (adr 1297), .ref (adr 1298), .ref (adr 1299), .int 0, .int 0, .int 0, .int 0, .int 0, .ref (adr 1305), .ref (adr 1306), .ref (adr 1307), .ref (adr 1308), .ref (adr 1309), .ref (adr 1310), .ref (adr 1311), .int 0, .ref (adr 1313), .ref (adr 1314), .ref (adr 1315), .ref (adr 1316), .int 0, .int 0, .ref (adr 1319), .int 0, .ref (adr 1321), .int 0, .ref (adr 1323), .ref (adr 1324), .ref (adr 1325), .ref (adr 1326), .ref (adr 1327)])), ((adr 1283), .inl ((cy 0), 12, .inl (fun _ => 0))), ((adr 1284), .inl ((cy 0), 12, .inl (fun _ => 0))), ((adr 1285), .inl ((cy 0), 12, .inl (flF (fun _ => 0) (-1) 12))), ((adr 1287), .inl ((cy 0), 16, .inl (fun _ => 0))), ((adr 1288), .inl ((cy 0), 16, .inl (fun _ => 0))), ((adr 1289), .inl ((cy 0), 16, .inl (fun _ => 0))), ((adr 1291), .inl ((cy 0), 12, .inl (flF (fun _ => 0) 1 12))), ((adr 1292), .inl ((cy 0), 12, .inl (fun _ => 0))), ((adr 1295), .inl ((cy 0), 40, .inl (fun _ => 0))), ((adr 1296), .inl ((cy 0), 40, .inl (fun _ => 0))), ((adr 1297), .inl ((cy 0), 40, .inl (fun _ => 0))), ((adr 1298), .inl ((cy 0), 40, .inl (fun _ => 0))), ((adr 1299), .inl ((cy 1), 120, .inl (fun _ => 0))), ((adr 1305), .inl ((cy 1), 260, .inl (fun _ => 0))), ((adr 1306), .inl ((cy 0), 260, .inl (fun _ => 0))), ((adr 1307), .inl ((cy 0), 2, .inl (fun _ => 0))), ((adr 1308), .inl ((cy 2), 122, .inl (fun _ => 0))), ((adr 1309), .inl ((cy 2), 122, .inl (fun _ => 0))), ((adr 1310), .inl ((cy 0), 6, .inl (fun _ => 0))), ((adr 1311), .inl ((cy 0), 130, .inl (fun _ => 0))), ((adr 1313), .inl ((cy 0), 12, .inl (fun _ => 0))), ((adr 1314), .inl ((cy 3), 16, .inl (fun _ => 0))), ((adr 1315), .inl ((cy 0), 12, .inl (fun _ => 0))), ((adr 1316), .inl ((cy 0), 12, .inl (fun _ => 0))), ((adr 1319), .inl ((cy 0), 12, .inl (fun _ => 0))), ((adr 1321), .inl ((cy 0), 50, .inl (fun _ => 0))), ((adr 1323), .inl ((cy 0), 24, .inl (fun _ => 0))), ((adr 1324), .inl ((cy 0), 6, .inl (flF (fun _ => 0) (-1) 6))), ((adr 1325), .inl ((cy 0), 6, .inl (fun _ => 0))), ((adr 1326), .inl ((cy 4), 360, .inr (.inl (fun _ => 0)))), ((adr 1327), .inl ((cy 4), 60, .inr (.inl (fun _ => 0))))]
set_option maxRecDepth 100000 in
theorem zk_64 (cy : Nat → ClassId) (adr : Nat → Nat) : zcell cy adr M00 64 = .inr (7, [.ref (adr 128), .ref (adr 192), .ref (adr 320), .ref (adr 384), .ref (adr 448), .ref (adr 512), .ref (adr 71), .ref (adr 72), .int (-1)]) := by rfl
set_option maxRecDepth 100000 in
theorem zk_128 (cy : Nat → ClassId) (adr : Nat → Nat) : zcell cy adr M00 128 = .inr (2, [.ref (adr 129), .int 0, .ref (adr 131), .int 0, .int 0, .int 0, .ref (adr 135), .int 0, .ref (adr 137), .ref (adr 138), .int 0]) := by rfl
theorem zk_129 (cy : Nat → ClassId) (adr : Nat → Nat) : zcell cy adr M00 129 = .inl ((cy 0), 120, .inl (fun _ => 0)) := by rw [zc_int cy adr M00 (a2_0 ob_128)]; rfl
theorem zk_131 (cy : Nat → ClassId) (adr : Nat → Nat) : zcell cy adr M00 131 = .inl ((cy 0), 120, .inl (fun _ => 0)) := by rw [zc_int cy adr M00 (a2_2 ob_128)]; rfl
theorem zk_135 (cy : Nat → ClassId) (adr : Nat → Nat) : zcell cy adr M00 135 = .inl ((cy 0), 120, .inl (fun _ => 0)) := by rw [zc_int cy adr M00 (a2_6 ob_128)]; rfl
theorem zk_137 (cy : Nat → ClassId) (adr : Nat → Nat) : zcell cy adr M00 137 = .inl ((cy 0), 6, .inl (fun _ => 0)) := by rw [zc_int cy adr M00 (a2_8 ob_128)]; rfl
theorem zk_138 (cy : Nat → ClassId) (adr : Nat → Nat) : zcell cy adr M00 138 = .inl ((cy 0), 120, .inl (fun _ => 0)) := by rw [zc_int cy adr M00 (a2_9 ob_128)]; rfl
set_option maxRecDepth 100000 in
theorem zk_192 (cy : Nat → ClassId) (adr : Nat → Nat) : zcell cy adr M00 192 = .inr (4, [.ref (adr 128), .ref (adr 194), .ref (adr 195), .ref (adr 196), .ref (adr 197), .int 0, .ref (adr 199), .ref (adr 200), .ref (adr 201), .ref (adr 202), .int 0, .int 0, .ref (adr 205), .ref (adr 206), .ref (adr 207)]) := by rfl
theorem zk_194 (cy : Nat → ClassId) (adr : Nat → Nat) : zcell cy adr M00 194 = .inl ((cy 0), 12, .inl (fun _ => 0)) := by rw [zc_int cy adr M00 (a4_1 ob_192)]; rfl
theorem zk_195 (cy : Nat → ClassId) (adr : Nat → Nat) : zcell cy adr M00 195 = .inl ((cy 0), 12, .inl (fun _ => 0)) := by rw [zc_int cy adr M00 (a4_2 ob_192)]; rfl
theorem zk_197 (cy : Nat → ClassId) (adr : Nat → Nat) : zcell cy adr M00 197 = .inl ((cy 0), 12, .inl (fun _ => 0)) := by rw [zc_int cy adr M00 (a4_4 ob_192)]; rfl
theorem zk_199 (cy : Nat → ClassId) (adr : Nat → Nat) : zcell cy adr M00 199 = .inl ((cy 0), 16, .inl (fun _ => 0)) := by rw [zc_int cy adr M00 (a4_6 ob_192)]; rfl
theorem zk_200 (cy : Nat → ClassId) (adr : Nat → Nat) : zcell cy adr M00 200 = .inl ((cy 0), 16, .inl (fun _ => 0)) := by rw [zc_int cy adr M00 (a4_7 ob_192)]; rfl
theorem zk_201 (cy : Nat → ClassId) (adr : Nat → Nat) : zcell cy adr M00 201 = .inl ((cy 0), 16, .inl (fun _ => 0)) := by rw [zc_int cy adr M00 (a4_8 ob_192)]; rfl
theorem zk_202 (cy : Nat → ClassId) (adr : Nat → Nat) : zcell cy adr M00 202 = .inl ((cy 0), 16, .inl (fun _ => 0)) := by rw [zc_int cy adr M00 (a4_9 ob_192)]; rfl
theorem zk_206 (cy : Nat → ClassId) (adr : Nat → Nat) : zcell cy adr M00 206 = .inl ((cy 0), 12, .inl (fun _ => 0)) := by rw [zc_int cy adr M00 (a4_13 ob_192)]; rfl
theorem zk_207 (cy : Nat → ClassId) (adr : Nat → Nat) : zcell cy adr M00 207 = .inl ((cy 0), 12, .inl (fun _ => 0)) := by rw [zc_int cy adr M00 (a4_14 ob_192)]; rfl
theorem zk_196 (cy : Nat → ClassId) (adr : Nat → Nat) : zcell cy adr M00 196 = .inl ((cy 0), 12, .inl (flF (fun _ => 0) (-1) 12)) := by rw [zc_int cy adr M00 (a4_3 ob_192)]; rfl
theorem zk_205 (cy : Nat → ClassId) (adr : Nat → Nat) : zcell cy adr M00 205 = .inl ((cy 0), 12, .inl (flF (fun _ => 0) 1 12)) := by rw [zc_int cy adr M00 (a4_12 ob_192)]; rfl
set_option maxRecDepth 100000 in
theorem zk_256 (cy : Nat → ClassId) (adr : Nat → Nat) : zcell cy adr M00 256 = .inr (4, [.ref (adr 128), .ref (adr 258), .ref (adr 259), .ref (adr 260), .ref (adr 261), .int 0, .ref (adr 263), .ref (adr 264), .ref (adr 265), .ref (adr 266), .int 0, .int 0, .ref (adr 269), .ref (adr 270), .ref (adr 271)]) := by rfl
theorem zk_258 (cy : Nat → ClassId) (adr : Nat → Nat) : zcell cy adr M00 258 = .inl ((cy 0), 12, .inl (fun _ => 0)) := by rw [zc_int cy adr M00 (a4_1 ob_256)]; rfl
theorem zk_259 (cy : Nat → ClassId) (adr : Nat → Nat) : zcell cy adr M00 259 = .inl ((cy 0), 12, .inl (fun _ => 0)) := by rw [zc_int cy adr M00 (a4_2 ob_256)]; rfl
theorem zk_261 (cy : Nat → ClassId) (adr : Nat → Nat) : zcell cy adr M00 261 = .inl ((cy 0), 12, .inl (fun _ => 0)) := by rw [zc_int cy adr M00 (a4_4 ob_256)]; rfl
theorem zk_263 (cy : Nat → ClassId) (adr : Nat → Nat) : zcell cy adr M00 263 = .inl ((cy 0), 16, .inl (fun _ => 0)) := by rw [zc_int cy adr M00 (a4_6 ob_256)]; rfl
theorem zk_264 (cy : Nat → ClassId) (adr : Nat → Nat) : zcell cy adr M00 264 = .inl ((cy 0), 16, .inl (fun _ => 0)) := by rw [zc_int cy adr M00 (a4_7 ob_256)]; rfl
theorem zk_265 (cy : Nat → ClassId) (adr : Nat → Nat) : zcell cy adr M00 265 = .inl ((cy 0), 16, .inl (fun _ => 0)) := by rw [zc_int cy adr M00 (a4_8 ob_256)]; rfl
theorem zk_266 (cy : Nat → ClassId) (adr : Nat → Nat) : zcell cy adr M00 266 = .inl ((cy 0), 16, .inl (fun _ => 0)) := by rw [zc_int cy adr M00 (a4_9 ob_256)]; rfl
theorem zk_270 (cy : Nat → ClassId) (adr : Nat → Nat) : zcell cy adr M00 270 = .inl ((cy 0), 12, .inl (fun _ => 0)) := by rw [zc_int cy adr M00 (a4_13 ob_256)]; rfl
theorem zk_271 (cy : Nat → ClassId) (adr : Nat → Nat) : zcell cy adr M00 271 = .inl ((cy 0), 12, .inl (fun _ => 0)) := by rw [zc_int cy adr M00 (a4_14 ob_256)]; rfl
theorem zk_260 (cy : Nat → ClassId) (adr : Nat → Nat) : zcell cy adr M00 260 = .inl ((cy 0), 12, .inl (flF (fun _ => 0) (-1) 12)) := by rw [zc_int cy adr M00 (a4_3 ob_256)]; rfl
theorem zk_269 (cy : Nat → ClassId) (adr : Nat → Nat) : zcell cy adr M00 269 = .inl ((cy 0), 12, .inl (flF (fun _ => 0) 1 12)) := by rw [zc_int cy adr M00 (a4_12 ob_256)]; rfl
set_option maxRecDepth 100000 in
theorem zk_320 (cy : Nat → ClassId) (adr : Nat → Nat) : zcell cy adr M00 320 = .inr (3, [.ref (adr 192), .ref (adr 256), .ref (adr 323), .int 0]) := by rfl
theorem zk_323 (cy : Nat → ClassId) (adr : Nat → Nat) : zcell cy adr M00 323 = .inl ((cy 0), 12, .inl (fun _ => 0)) := by rw [zc_int cy adr M00 (a3_2 ob_320)]; rfl
set_option maxRecDepth 100000 in
theorem zk_384 (cy : Nat → ClassId) (adr : Nat → Nat) : zcell cy adr M00 384 = .inr (5, [.ref (adr 192), .ref (adr 386), .ref (adr 387), .int 0, .int 0, .int 0]) := by rfl
theorem zk_386 (cy : Nat → ClassId) (adr : Nat → Nat) : zcell cy adr M00 386 = .inl ((cy 0), 12, .inl (fun _ => 0)) := by rw [zc_int cy adr M00 (a5_1 ob_384)]; rfl
theorem zk_387 (cy : Nat → ClassId) (adr : Nat → Nat) : zcell cy adr M00 387 = .inl ((cy 0), 144, .inl (fun _ => 0)) := by rw [zc_int cy adr M00 (a5_2 ob_384)]; rfl
set_option maxRecDepth 100000 in
theorem zk_448 (cy : Nat → ClassId) (adr : Nat → Nat) : zcell cy adr M00 448 = .inr (0, [.ref (adr 449), .ref (adr 450), .ref (adr 451), .ref (adr 452), .int 0, .int 0]) := by rfl
theorem zk_449 (cy : Nat → ClassId) (adr : Nat → Nat) : zcell cy adr M00 449 = .inl ((cy 0), 40, .inl (fun _ => 0)) := by rw [zc_int cy adr M00 (a0_0 ob_448)]; rfl
theorem zk_450 (cy : Nat → ClassId) (adr : Nat → Nat) : zcell cy adr M00 450 = .inl ((cy 0), 40, .inl (fun _ => 0)) := by rw [zc_int cy adr M00 (a0_1 ob_448)]; rfl
theorem zk_451 (cy : Nat → ClassId) (adr : Nat → Nat) : zcell cy adr M00 451 = .inl ((cy 0), 40, .inl (fun _ => 0)) := by rw [zc_int cy adr M00 (a0_2 ob_448)]; rfl
theorem zk_452 (cy : Nat → ClassId) (adr : Nat → Nat) : zcell cy adr M00 452 = .inl ((cy 0), 40, .inl (fun _ => 0)) := by rw [zc_int cy adr M00 (a0_3 ob_448)]; rfl
set_option maxRecDepth 100000 in
theorem zk_512 (cy : Nat → ClassId) (adr : Nat → Nat) : zcell cy adr M00 512 = .inr (1, [.ref (adr 513), .int 0, .ref (adr 515), .int 0, .int 0]) := by rfl
theorem zk_513 (cy : Nat → ClassId) (adr : Nat → Nat) : zcell cy adr M00 513 = .inl ((cy 0), 50, .inl (fun _ => 0)) := by rw [zc_int cy adr M00 (a1_0 ob_512)]; rfl
theorem zk_515 (cy : Nat → ClassId) (adr : Nat → Nat) : zcell cy adr M00 515 = .inl ((cy 0), 24, .inl (fun _ => 0)) := by rw [zc_int cy adr M00 (a1_2 ob_512)]; rfl
set_option maxRecDepth 100000 in
theorem zk_640 (cy : Nat → ClassId) (adr : Nat → Nat) : zcell cy adr M00 640 = .inr (6, [.ref (adr 641), .int (-1), .int (-1), .int 0]) := by rfl
theorem zk_641 (cy : Nat → ClassId) (adr : Nat → Nat) : zcell cy adr M00 641 = .inl ((cy 4), 60, .inr (.inl (fun _ => 0))) := by rw [zc_long cy adr M00 (a6_0 ob_640)]; rfl
set_option maxRecDepth 100000 in
theorem zk_704 (cy : Nat → ClassId) (adr : Nat → Nat) : zcell cy adr M00 704 = .inr (6, [.ref (adr 705), .int (-1), .int (-1), .int 0]) := by rfl
theorem zk_705 (cy : Nat → ClassId) (adr : Nat → Nat) : zcell cy adr M00 705 = .inl ((cy 4), 60, .inr (.inl (fun _ => 0))) := by rw [zc_long cy adr M00 (a6_0 ob_704)]; rfl
set_option maxRecDepth 100000 in
theorem zk_768 (cy : Nat → ClassId) (adr : Nat → Nat) : zcell cy adr M00 768 = .inr (6, [.ref (adr 769), .int (-1), .int (-1), .int 0]) := by rfl
theorem zk_769 (cy : Nat → ClassId) (adr : Nat → Nat) : zcell cy adr M00 769 = .inl ((cy 4), 60, .inr (.inl (fun _ => 0))) := by rw [zc_long cy adr M00 (a6_0 ob_768)]; rfl
set_option maxRecDepth 100000 in
theorem zk_832 (cy : Nat → ClassId) (adr : Nat → Nat) : zcell cy adr M00 832 = .inr (6, [.ref (adr 833), .int (-1), .int (-1), .int 0]) := by rfl
theorem zk_833 (cy : Nat → ClassId) (adr : Nat → Nat) : zcell cy adr M00 833 = .inl ((cy 4), 60, .inr (.inl (fun _ => 0))) := by rw [zc_long cy adr M00 (a6_0 ob_832)]; rfl
set_option maxRecDepth 100000 in
theorem zk_896 (cy : Nat → ClassId) (adr : Nat → Nat) : zcell cy adr M00 896 = .inr (6, [.ref (adr 897), .int (-1), .int (-1), .int 0]) := by rfl
theorem zk_897 (cy : Nat → ClassId) (adr : Nat → Nat) : zcell cy adr M00 897 = .inl ((cy 4), 60, .inr (.inl (fun _ => 0))) := by rw [zc_long cy adr M00 (a6_0 ob_896)]; rfl
set_option maxRecDepth 100000 in
theorem zk_960 (cy : Nat → ClassId) (adr : Nat → Nat) : zcell cy adr M00 960 = .inr (6, [.ref (adr 961), .int (-1), .int (-1), .int 0]) := by rfl
theorem zk_961 (cy : Nat → ClassId) (adr : Nat → Nat) : zcell cy adr M00 961 = .inl ((cy 4), 60, .inr (.inl (fun _ => 0))) := by rw [zc_long cy adr M00 (a6_0 ob_960)]; rfl
theorem zk_72 (cy : Nat → ClassId) (adr : Nat → Nat) : zcell cy adr M00 72 = .inl ((cy 0), 12, .inl (fun _ => 0)) := by rw [zc_int cy adr M00 (a7_7 ob_64)]; rfl
set_option maxRecDepth 100000 in
theorem zk_1280 (cy : Nat → ClassId) (adr : Nat → Nat) : zcell cy adr M00 1280 = .inr (8, [.int 0, .int 0, .ref (adr 1283), .ref (adr 1284), .ref (adr 1285), .int 0, .ref (adr 1287), .ref (adr 1288), .ref (adr 1289), .int 0, .ref (adr 1291), .ref (adr 1292), .int 0, .int 0, .ref (adr 1295), .ref (adr 1296), .ref (adr 1297), .ref (adr 1298), .ref (adr 1299), .int 0, .int 0, .int 0, .int 0, .int 0, .ref (adr 1305), .ref (adr 1306), .ref (adr 1307), .ref (adr 1308), .ref (adr 1309), .ref (adr 1310), .ref (adr 1311), .int 0, .ref (adr 1313), .ref (adr 1314), .ref (adr 1315), .ref (adr 1316), .int 0, .int 0, .ref (adr 1319), .int 0, .ref (adr 1321), .int 0, .ref (adr 1323), .ref (adr 1324), .ref (adr 1325), .ref (adr 1326), .ref (adr 1327)]) := by rfl
theorem zk_1283 (cy : Nat → ClassId) (adr : Nat → Nat) : zcell cy adr M00 1283 = .inl ((cy 0), 12, .inl (fun _ => 0)) := by rw [zc_int cy adr M00 (a8_2 ob_1280)]; rfl
theorem zk_1284 (cy : Nat → ClassId) (adr : Nat → Nat) : zcell cy adr M00 1284 = .inl ((cy 0), 12, .inl (fun _ => 0)) := by rw [zc_int cy adr M00 (a8_3 ob_1280)]; rfl
theorem zk_1285 (cy : Nat → ClassId) (adr : Nat → Nat) : zcell cy adr M00 1285 = .inl ((cy 0), 12, .inl (flF (fun _ => 0) (-1) 12)) := by rw [zc_int cy adr M00 (a8_4 ob_1280)]; rfl
theorem zk_1287 (cy : Nat → ClassId) (adr : Nat → Nat) : zcell cy adr M00 1287 = .inl ((cy 0), 16, .inl (fun _ => 0)) := by rw [zc_int cy adr M00 (a8_6 ob_1280)]; rfl
theorem zk_1288 (cy : Nat → ClassId) (adr : Nat → Nat) : zcell cy adr M00 1288 = .inl ((cy 0), 16, .inl (fun _ => 0)) := by rw [zc_int cy adr M00 (a8_7 ob_1280)]; rfl
theorem zk_1289 (cy : Nat → ClassId) (adr : Nat → Nat) : zcell cy adr M00 1289 = .inl ((cy 0), 16, .inl (fun _ => 0)) := by rw [zc_int cy adr M00 (a8_8 ob_1280)]; rfl
theorem zk_1291 (cy : Nat → ClassId) (adr : Nat → Nat) : zcell cy adr M00 1291 = .inl ((cy 0), 12, .inl (flF (fun _ => 0) 1 12)) := by rw [zc_int cy adr M00 (a8_10 ob_1280)]; rfl
theorem zk_1292 (cy : Nat → ClassId) (adr : Nat → Nat) : zcell cy adr M00 1292 = .inl ((cy 0), 12, .inl (fun _ => 0)) := by rw [zc_int cy adr M00 (a8_11 ob_1280)]; rfl
theorem zk_1295 (cy : Nat → ClassId) (adr : Nat → Nat) : zcell cy adr M00 1295 = .inl ((cy 0), 40, .inl (fun _ => 0)) := by rw [zc_int cy adr M00 (a8_14 ob_1280)]; rfl
theorem zk_1296 (cy : Nat → ClassId) (adr : Nat → Nat) : zcell cy adr M00 1296 = .inl ((cy 0), 40, .inl (fun _ => 0)) := by rw [zc_int cy adr M00 (a8_15 ob_1280)]; rfl
theorem zk_1297 (cy : Nat → ClassId) (adr : Nat → Nat) : zcell cy adr M00 1297 = .inl ((cy 0), 40, .inl (fun _ => 0)) := by rw [zc_int cy adr M00 (a8_16 ob_1280)]; rfl
theorem zk_1298 (cy : Nat → ClassId) (adr : Nat → Nat) : zcell cy adr M00 1298 = .inl ((cy 0), 40, .inl (fun _ => 0)) := by rw [zc_int cy adr M00 (a8_17 ob_1280)]; rfl
theorem zk_1299 (cy : Nat → ClassId) (adr : Nat → Nat) : zcell cy adr M00 1299 = .inl ((cy 1), 120, .inl (fun _ => 0)) := by rw [zc_byte cy adr M00 (a8_18 ob_1280)]; rfl
theorem zk_1305 (cy : Nat → ClassId) (adr : Nat → Nat) : zcell cy adr M00 1305 = .inl ((cy 1), 260, .inl (fun _ => 0)) := by rw [zc_byte cy adr M00 (a8_24 ob_1280)]; rfl
theorem zk_1306 (cy : Nat → ClassId) (adr : Nat → Nat) : zcell cy adr M00 1306 = .inl ((cy 0), 260, .inl (fun _ => 0)) := by rw [zc_int cy adr M00 (a8_25 ob_1280)]; rfl
theorem zk_1307 (cy : Nat → ClassId) (adr : Nat → Nat) : zcell cy adr M00 1307 = .inl ((cy 0), 2, .inl (fun _ => 0)) := by rw [zc_int cy adr M00 (a8_26 ob_1280)]; rfl
theorem zk_1308 (cy : Nat → ClassId) (adr : Nat → Nat) : zcell cy adr M00 1308 = .inl ((cy 2), 122, .inl (fun _ => 0)) := by rw [zc_short cy adr M00 (a8_27 ob_1280)]; rfl
theorem zk_1309 (cy : Nat → ClassId) (adr : Nat → Nat) : zcell cy adr M00 1309 = .inl ((cy 2), 122, .inl (fun _ => 0)) := by rw [zc_short cy adr M00 (a8_28 ob_1280)]; rfl
theorem zk_1310 (cy : Nat → ClassId) (adr : Nat → Nat) : zcell cy adr M00 1310 = .inl ((cy 0), 6, .inl (fun _ => 0)) := by rw [zc_int cy adr M00 (a8_29 ob_1280)]; rfl
theorem zk_1311 (cy : Nat → ClassId) (adr : Nat → Nat) : zcell cy adr M00 1311 = .inl ((cy 0), 130, .inl (fun _ => 0)) := by rw [zc_int cy adr M00 (a8_30 ob_1280)]; rfl
theorem zk_1313 (cy : Nat → ClassId) (adr : Nat → Nat) : zcell cy adr M00 1313 = .inl ((cy 0), 12, .inl (fun _ => 0)) := by rw [zc_int cy adr M00 (a8_32 ob_1280)]; rfl
theorem zk_1314 (cy : Nat → ClassId) (adr : Nat → Nat) : zcell cy adr M00 1314 = .inl ((cy 3), 16, .inl (fun _ => 0)) := by rw [zc_bool cy adr M00 (a8_33 ob_1280)]; rfl
theorem zk_1315 (cy : Nat → ClassId) (adr : Nat → Nat) : zcell cy adr M00 1315 = .inl ((cy 0), 12, .inl (fun _ => 0)) := by rw [zc_int cy adr M00 (a8_34 ob_1280)]; rfl
theorem zk_1316 (cy : Nat → ClassId) (adr : Nat → Nat) : zcell cy adr M00 1316 = .inl ((cy 0), 12, .inl (fun _ => 0)) := by rw [zc_int cy adr M00 (a8_35 ob_1280)]; rfl
theorem zk_1319 (cy : Nat → ClassId) (adr : Nat → Nat) : zcell cy adr M00 1319 = .inl ((cy 0), 12, .inl (fun _ => 0)) := by rw [zc_int cy adr M00 (a8_38 ob_1280)]; rfl
theorem zk_1321 (cy : Nat → ClassId) (adr : Nat → Nat) : zcell cy adr M00 1321 = .inl ((cy 0), 50, .inl (fun _ => 0)) := by rw [zc_int cy adr M00 (a8_40 ob_1280)]; rfl
theorem zk_1323 (cy : Nat → ClassId) (adr : Nat → Nat) : zcell cy adr M00 1323 = .inl ((cy 0), 24, .inl (fun _ => 0)) := by rw [zc_int cy adr M00 (a8_42 ob_1280)]; rfl
theorem zk_1324 (cy : Nat → ClassId) (adr : Nat → Nat) : zcell cy adr M00 1324 = .inl ((cy 0), 6, .inl (flF (fun _ => 0) (-1) 6)) := by rw [zc_int cy adr M00 (a8_43 ob_1280)]; rfl
theorem zk_1325 (cy : Nat → ClassId) (adr : Nat → Nat) : zcell cy adr M00 1325 = .inl ((cy 0), 6, .inl (fun _ => 0)) := by rw [zc_int cy adr M00 (a8_44 ob_1280)]; rfl
theorem zk_1326 (cy : Nat → ClassId) (adr : Nat → Nat) : zcell cy adr M00 1326 = .inl ((cy 4), 360, .inr (.inl (fun _ => 0))) := by rw [zc_long cy adr M00 (a8_45 ob_1280)]; rfl
theorem zk_1327 (cy : Nat → ClassId) (adr : Nat → Nat) : zcell cy adr M00 1327 = .inl ((cy 4), 60, .inr (.inl (fun _ => 0))) := by rw [zc_long cy adr M00 (a8_46 ob_1280)]; rfl
theorem arrV_cg {cA : ClassId} {n : Nat} {f g : Nat → Value} (h : ∀ j, j < n → f j = g j) : arrV cA n f = arrV cA n g := by
  unfold arrV
  congr 1
  apply Array.ext_getElem?
  intro j
  by_cases hj : j < n
  · simp [hj, h j hj]
  · simp [hj]
theorem world0 {D : va_G} {H : Heap} {cy : Nat → ClassId} {adr : Nat → Nat} (hP : va_P D vwCl (w7 cy adr ++ w8 cy adr) H) : va_P D vwCl (zws cy adr M00) H := by
  have key : ∀ i ∈ zIDS, va_at D vwCl (adr i, zcell cy adr M00 i) H := by
    have c71 : va_at D vwCl (adr 71, zcell cy adr M00 71) H := by
      have h := hP 44 _ rfl
      rw [zc_obj cy adr M00 (a7_6 ob_64)]
      refine h.trans ?_
      refine congrArg some (((vp_cell_q _ _ _).trans (arrV_cg (n := 6) fun j hj => ?_)).trans (vp_cell_q _ _ _).symm)
      have hj6 : j = 0 ∨ j = 1 ∨ j = 2 ∨ j = 3 ∨ j = 4 ∨ j = 5 := by
        have : j < 6 := hj
        omega
      rcases hj6 with rfl | rfl | rfl | rfl | rfl | rfl <;> rfl
    exact fa_c (by rw [zk_64]; exact hP 0 _ rfl) (fa_c c71 (fa_c (by rw [zk_72]; exact hP 57 _ rfl) (fa_c (by rw [zk_128]; exact hP 1 _ rfl) (fa_c (by rw [zk_129]; exact hP 2 _ rfl) (fa_c (by rw [zk_131]; exact hP 3 _ rfl) (fa_c (by rw [zk_135]; exact hP 4 _ rfl) (fa_c (by rw [zk_137]; exact hP 5 _ rfl) (fa_c (by rw [zk_138]; exact hP 6 _ rfl) (fa_c (by rw [zk_192]; exact hP 7 _ rfl) (fa_c (by rw [zk_194]; exact hP 8 _ rfl) (fa_c (by rw [zk_195]; exact hP 9 _ rfl) (fa_c (by rw [zk_196]; exact hP 17 _ rfl) (fa_c (by rw [zk_197]; exact hP 10 _ rfl) (fa_c (by rw [zk_199]; exact hP 11 _ rfl) (fa_c (by rw [zk_200]; exact hP 12 _ rfl) (fa_c (by rw [zk_201]; exact hP 13 _ rfl) (fa_c (by rw [zk_202]; exact hP 14 _ rfl) (fa_c (by rw [zk_205]; exact hP 18 _ rfl) (fa_c (by rw [zk_206]; exact hP 15 _ rfl) (fa_c (by rw [zk_207]; exact hP 16 _ rfl) (fa_c (by rw [zk_256]; exact hP 19 _ rfl) (fa_c (by rw [zk_258]; exact hP 20 _ rfl) (fa_c (by rw [zk_259]; exact hP 21 _ rfl) (fa_c (by rw [zk_260]; exact hP 29 _ rfl) (fa_c (by rw [zk_261]; exact hP 22 _ rfl) (fa_c (by rw [zk_263]; exact hP 23 _ rfl) (fa_c (by rw [zk_264]; exact hP 24 _ rfl) (fa_c (by rw [zk_265]; exact hP 25 _ rfl) (fa_c (by rw [zk_266]; exact hP 26 _ rfl) (fa_c (by rw [zk_269]; exact hP 30 _ rfl) (fa_c (by rw [zk_270]; exact hP 27 _ rfl) (fa_c (by rw [zk_271]; exact hP 28 _ rfl) (fa_c (by rw [zk_320]; exact hP 31 _ rfl) (fa_c (by rw [zk_323]; exact hP 32 _ rfl) (fa_c (by rw [zk_384]; exact hP 33 _ rfl) (fa_c (by rw [zk_386]; exact hP 34 _ rfl) (fa_c (by rw [zk_387]; exact hP 35 _ rfl) (fa_c (by rw [zk_448]; exact hP 36 _ rfl) (fa_c (by rw [zk_449]; exact hP 37 _ rfl) (fa_c (by rw [zk_450]; exact hP 38 _ rfl) (fa_c (by rw [zk_451]; exact hP 39 _ rfl) (fa_c (by rw [zk_452]; exact hP 40 _ rfl) (fa_c (by rw [zk_512]; exact hP 41 _ rfl) (fa_c (by rw [zk_513]; exact hP 42 _ rfl) (fa_c (by rw [zk_515]; exact hP 43 _ rfl) (fa_c (by rw [zk_640]; exact hP 45 _ rfl) (fa_c (by rw [zk_641]; exact hP 46 _ rfl) (fa_c (by rw [zk_704]; exact hP 47 _ rfl) (fa_c (by rw [zk_705]; exact hP 48 _ rfl) (fa_c (by rw [zk_768]; exact hP 49 _ rfl) (fa_c (by rw [zk_769]; exact hP 50 _ rfl) (fa_c (by rw [zk_832]; exact hP 51 _ rfl) (fa_c (by rw [zk_833]; exact hP 52 _ rfl) (fa_c (by rw [zk_896]; exact hP 53 _ rfl) (fa_c (by rw [zk_897]; exact hP 54 _ rfl) (fa_c (by rw [zk_960]; exact hP 55 _ rfl) (fa_c (by rw [zk_961]; exact hP 56 _ rfl) (fa_c (by rw [zk_1280]; exact hP 58 _ rfl) (fa_c (by rw [zk_1283]; exact hP 59 _ rfl) (fa_c (by rw [zk_1284]; exact hP 60 _ rfl) (fa_c (by rw [zk_1285]; exact hP 61 _ rfl) (fa_c (by rw [zk_1287]; exact hP 62 _ rfl) (fa_c (by rw [zk_1288]; exact hP 63 _ rfl) (fa_c (by rw [zk_1289]; exact hP 64 _ rfl) (fa_c (by rw [zk_1291]; exact hP 65 _ rfl) (fa_c (by rw [zk_1292]; exact hP 66 _ rfl) (fa_c (by rw [zk_1295]; exact hP 67 _ rfl) (fa_c (by rw [zk_1296]; exact hP 68 _ rfl) (fa_c (by rw [zk_1297]; exact hP 69 _ rfl) (fa_c (by rw [zk_1298]; exact hP 70 _ rfl) (fa_c (by rw [zk_1299]; exact hP 71 _ rfl) (fa_c (by rw [zk_1305]; exact hP 72 _ rfl) (fa_c (by rw [zk_1306]; exact hP 73 _ rfl) (fa_c (by rw [zk_1307]; exact hP 74 _ rfl) (fa_c (by rw [zk_1308]; exact hP 75 _ rfl) (fa_c (by rw [zk_1309]; exact hP 76 _ rfl) (fa_c (by rw [zk_1310]; exact hP 77 _ rfl) (fa_c (by rw [zk_1311]; exact hP 78 _ rfl) (fa_c (by rw [zk_1313]; exact hP 79 _ rfl) (fa_c (by rw [zk_1314]; exact hP 80 _ rfl) (fa_c (by rw [zk_1315]; exact hP 81 _ rfl) (fa_c (by rw [zk_1316]; exact hP 82 _ rfl) (fa_c (by rw [zk_1319]; exact hP 83 _ rfl) (fa_c (by rw [zk_1321]; exact hP 84 _ rfl) (fa_c (by rw [zk_1323]; exact hP 85 _ rfl) (fa_c (by rw [zk_1324]; exact hP 86 _ rfl) (fa_c (by rw [zk_1325]; exact hP 87 _ rfl) (fa_c (by rw [zk_1326]; exact hP 88 _ rfl) (fa_c (by rw [zk_1327]; exact hP 89 _ rfl) (fa_n))))))))))))))))))))))))))))))))))))))))))))))))))))))))))))))))))))))))))))))))))))))))))
  rw [vaP_mem]
  intro q hq
  obtain ⟨i, hi, rfl⟩ := List.mem_map.mp hq
  exact key i hi
theorem nd_inj {f : Nat → Nat} : ∀ {l : List Nat}, (l.map f).Nodup → ∀ i ∈ l, ∀ j ∈ l, f i = f j → i = j
  | [], _, i, hi, _, _, _ => by cases hi
  | a :: l, h, i, hi, j, hj, e => by
    rw [List.map_cons, List.nodup_cons] at h
    rcases List.mem_cons.mp hi with rfl | hi2
    · rcases List.mem_cons.mp hj with rfl | hj2
      · rfl
      · exact absurd (e ▸ List.mem_map.mpr ⟨j, hj2, rfl⟩) h.1
    · rcases List.mem_cons.mp hj with rfl | hj2
      · exact absurd (e ▸ List.mem_map.mpr ⟨i, hi2, rfl⟩) h.1
      · exact nd_inj h.2 i hi2 j hj2 e
theorem w_ids (cy : Nat → ClassId) (adr : Nat → Nat) : (w7 cy adr ++ w8 cy adr).map (fun q => q.1) = idL.map adr := rfl
theorem world1 {D : va_G} {H : Heap} {sz : Nat} {cy : Nat → ClassId} {adr : Nat → Nat} (hP : va_P D vwCl (w7 cy adr ++ w8 cy adr) H) (hD : va_D (fun q : Nat => sz ≤ q) (w7 cy adr ++ w8 cy adr)) : (∀ i ∈ zIDS, ∀ j ∈ zIDS, adr i = adr j → i = j) ∧ (∀ i ∈ zIDS, sz ≤ adr i) ∧ va_P D vwCl (zws cy adr M00) H := by
  obtain ⟨h1, h2⟩ := vaD_iff.mp hD
  rw [w_ids] at h1
  refine ⟨fun i hi j hj e => nd_inj h1 i (idL_in i hi) j (idL_in j hj) e, fun i hi => ?_, world0 hP⟩
  have : adr i ∈ (w7 cy adr ++ w8 cy adr).map (fun q => q.1) := by rw [w_ids]; exact List.mem_map.mpr ⟨i, idL_in i hi, rfl⟩
  obtain ⟨q, hq, e⟩ := List.mem_map.mp this
  have := h2 q hq
  rw [e] at this
  exact this
/-- a function with given answers -/
theorem ad_ex : ∀ (l : List (Nat × Nat)), (l.map (fun q => q.1)).Nodup → ∃ f : Nat → Nat, ∀ q ∈ l, f q.1 = q.2
  | [], _ => ⟨fun _ => 0, fun q hq => by cases hq⟩
  | (a, b) :: l, h => by
    rw [List.map_cons, List.nodup_cons] at h
    obtain ⟨f, hf⟩ := ad_ex l h.2
    refine ⟨fun i => if i = a then b else f i, fun q hq => ?_⟩
    rcases List.mem_cons.mp hq with rfl | hq
    · simp
    · have hne : q.1 ≠ a := fun e => h.1 (e ▸ List.mem_map.mpr ⟨q, hq, rfl⟩)
      simp [hne, hf q hq]
set_option maxRecDepth 100000 in
theorem world2 {D : va_G} {H : Heap} {sz : Nat} {cy : Nat → ClassId} {a1 a2 b : Nat} {h7 r1 r2 r3 r4 r5 r6 r7 r8 r9 r11 r12 r13 r14 r15 r17 r18 r10 r16 r20 r21 r22 r24 r25 r26 r27 r28 r30 r31 r23 r29 r19 r32 r33 r34 r35 r36 r37 r38 r39 r40 r41 r42 r43 r44 r45 r46 r47 r48 r49 r50 r51 r52 r53 r54 r55 r56 r57 h8 u1 u2 u3 u4 u5 u6 u7 u8 u9 u10 u11 u12 u13 u14 u15 u16 u17 u18 u19 u20 u21 u22 u23 u24 u25 u26 u27 u28 u29 u30 u31 : Nat} (hP : va_P D vwCl ([(h7, .inr (7, [.ref r1, .ref r7, .ref r19, .ref r33, .ref r36, .ref r41, .ref r44, .ref r57, .int (-1)])), (r1, .inr (2, [.ref r2, .int 0, .ref r3, .int 0, .int 0, .int 0, .ref r4, .int 0, .ref r5, .ref r6, .int 0])), (r2, .inl ((cy 0), 120, .inl (fun _ => 0))), (r3, .inl ((cy 0), 120, .inl (fun _ => 0))), (r4, .inl ((cy 0), 120, .inl (fun _ => 0))), (r5, .inl ((cy 0), 6, .inl (fun _ => 0))), (r6, .inl ((cy 0), 120, .inl (fun _ => 0))), (r7, .inr (4, [.ref r1, .ref r8, .ref r9, .ref r10, .ref r11, .int 0, .ref r12, .ref r13, .ref r14, .ref r15, .int 0, .int 0, .ref r16, .ref r17, .ref r18])), (r8, .inl ((cy 0), 12, .inl (fun _ => 0))), (r9, .inl ((cy 0), 12, .inl (fun _ => 0))), (r11, .inl ((cy 0), 12, .inl (fun _ => 0))), (r12, .inl ((cy 0), 16, .inl (fun _ => 0))), (r13, .inl ((cy 0), 16, .inl (fun _ => 0))), (r14, .inl ((cy 0), 16, .inl (fun _ => 0))), (r15, .inl ((cy 0), 16, .inl (fun _ => 0))), (r17, .inl ((cy 0), 12, .inl (fun _ => 0))), (r18, .inl ((cy 0), 12, .inl (fun _ => 0))), (r10, .inl ((cy 0), 12, .inl (flF (fun _ => 0) (-1) 12))), (r16, .inl ((cy 0), 12, .inl (flF (fun _ => 0) 1 12))), (r20, .inr (4, [.ref r1, .ref r21, .ref r22, .ref r23, .ref r24, .int 0, .ref r25, .ref r26, .ref r27, .ref r28, .int 0, .int 0, .ref r29, .ref r30, .ref r31])), (r21, .inl ((cy 0), 12, .inl (fun _ => 0))), (r22, .inl ((cy 0), 12, .inl (fun _ => 0))), (r24, .inl ((cy 0), 12, .inl (fun _ => 0))), (r25, .inl ((cy 0), 16, .inl (fun _ => 0))), (r26, .inl ((cy 0), 16, .inl (fun _ => 0))), (r27, .inl ((cy 0), 16, .inl (fun _ => 0))), (r28, .inl ((cy 0), 16, .inl (fun _ => 0))), (r30, .inl ((cy 0), 12, .inl (fun _ => 0))), (r31, .inl ((cy 0), 12, .inl (fun _ => 0))), (r23, .inl ((cy 0), 12, .inl (flF (fun _ => 0) (-1) 12))), (r29, .inl ((cy 0), 12, .inl (flF (fun _ => 0) 1 12))), (r19, .inr (3, [.ref r7, .ref r20, .ref r32, .int 0])), (r32, .inl ((cy 0), 12, .inl (fun _ => 0))), (r33, .inr (5, [.ref r7, .ref r34, .ref r35, .int 0, .int 0, .int 0])), (r34, .inl ((cy 0), 12, .inl (fun _ => 0))), (r35, .inl ((cy 0), 144, .inl (fun _ => 0))), (r36, .inr (0, [.ref r37, .ref r38, .ref r39, .ref r40, .int 0, .int 0])), (r37, .inl ((cy 0), 40, .inl (fun _ => 0))), (r38, .inl ((cy 0), 40, .inl (fun _ => 0))), (r39, .inl ((cy 0), 40, .inl (fun _ => 0))), (r40, .inl ((cy 0), 40, .inl (fun _ => 0))), (r41, .inr (1, [.ref r42, .int 0, .ref r43, .int 0, .int 0])), (r42, .inl ((cy 0), 50, .inl (fun _ => 0))), (r43, .inl ((cy 0), 24, .inl (fun _ => 0))), (r44, .inl ((cy 5), 6, .inr (.inr (.inr (.inr (va_up ((va_up ((va_up ((va_up ((va_up ((va_up ((fun _ => none)) 0 (some r45))) 1 (some r47))) 2 (some r49))) 3 (some r51))) 4 (some r53))) 5 (some r55))))))), (r45, .inr (6, [.ref r46, .int (-1), .int (-1), .int 0])), (r46, .inl ((cy 4), 60, .inr (.inl (fun _ => 0)))), (r47, .inr (6, [.ref r48, .int (-1), .int (-1), .int 0])), (r48, .inl ((cy 4), 60, .inr (.inl (fun _ => 0)))), (r49, .inr (6, [.ref r50, .int (-1), .int (-1), .int 0])), (r50, .inl ((cy 4), 60, .inr (.inl (fun _ => 0)))), (r51, .inr (6, [.ref r52, .int (-1), .int (-1), .int 0])), (r52, .inl ((cy 4), 60, .inr (.inl (fun _ => 0)))), (r53, .inr (6, [.ref r54, .int (-1), .int (-1), .int 0])), (r54, .inl ((cy 4), 60, .inr (.inl (fun _ => 0)))), (r55, .inr (6, [.ref r56, .int (-1), .int (-1), .int 0])), (r56, .inl ((cy 4), 60, .inr (.inl (fun _ => 0)))), (r57, .inl ((cy 0), 12, .inl (fun _ => 0)))] ++ [(h8, .inr (8, [.int 0, .int 0, .ref u1, .ref u2, .ref u3, .int 0, .ref u4, .ref u5, .ref u6, .int 0, .ref u7, .ref u8, .int 0, .int 0, .ref u9, .ref u10, .ref u11, .ref u12, .ref u13, .int 0, .int 0, .int 0, .int 0, .int 0, .ref u14, .ref u15, .ref u16, .ref u17, .ref u18, .ref u19, .ref u20, .int 0, .ref u21, .ref u22, .ref u23, .ref u24, .int 0, .int 0, .ref u25, .int 0, .ref u26, .int 0, .ref u27, .ref u28, .ref u29, .ref u30, .ref u31])), (u1, .inl ((cy 0), 12, .inl (fun _ => 0))), (u2, .inl ((cy 0), 12, .inl (fun _ => 0))), (u3, .inl ((cy 0), 12, .inl (flF (fun _ => 0) (-1) 12))), (u4, .inl ((cy 0), 16, .inl (fun _ => 0))), (u5, .inl ((cy 0), 16, .inl (fun _ => 0))), (u6, .inl ((cy 0), 16, .inl (fun _ => 0))), (u7, .inl ((cy 0), 12, .inl (flF (fun _ => 0) 1 12))), (u8, .inl ((cy 0), 12, .inl (fun _ => 0))), (u9, .inl ((cy 0), 40, .inl (fun _ => 0))), (u10, .inl ((cy 0), 40, .inl (fun _ => 0))), (u11, .inl ((cy 0), 40, .inl (fun _ => 0))), (u12, .inl ((cy 0), 40, .inl (fun _ => 0))), (u13, .inl ((cy 1), 120, .inl (fun _ => 0))), (u14, .inl ((cy 1), 260, .inl (fun _ => 0))), (u15, .inl ((cy 0), 260, .inl (fun _ => 0))), (u16, .inl ((cy 0), 2, .inl (fun _ => 0))), (u17, .inl ((cy 2), 122, .inl (fun _ => 0))), (u18, .inl ((cy 2), 122, .inl (fun _ => 0))), (u19, .inl ((cy 0), 6, .inl (fun _ => 0))), (u20, .inl ((cy 0), 130, .inl (fun _ => 0))), (u21, .inl ((cy 0), 12, .inl (fun _ => 0))), (u22, .inl ((cy 3), 16, .inl (fun _ => 0))), (u23, .inl ((cy 0), 12, .inl (fun _ => 0))), (u24, .inl ((cy 0), 12, .inl (fun _ => 0))), (u25, .inl ((cy 0), 12, .inl (fun _ => 0))), (u26, .inl ((cy 0), 50, .inl (fun _ => 0))), (u27, .inl ((cy 0), 24, .inl (fun _ => 0))), (u28, .inl ((cy 0), 6, .inl (flF (fun _ => 0) (-1) 6))), (u29, .inl ((cy 0), 6, .inl (fun _ => 0))), (u30, .inl ((cy 4), 360, .inr (.inl (fun _ => 0)))), (u31, .inl ((cy 4), 60, .inr (.inl (fun _ => 0))))]) H) (hD : va_D (fun q : Nat => sz ≤ q) ([(h7, .inr (7, [.ref r1, .ref r7, .ref r19, .ref r33, .ref r36, .ref r41, .ref r44, .ref r57, .int (-1)])), (r1, .inr (2, [.ref r2, .int 0, .ref r3, .int 0, .int 0, .int 0, .ref r4, .int 0, .ref r5, .ref r6, .int 0])), (r2, .inl ((cy 0), 120, .inl (fun _ => 0))), (r3, .inl ((cy 0), 120, .inl (fun _ => 0))), (r4, .inl ((cy 0), 120, .inl (fun _ => 0))), (r5, .inl ((cy 0), 6, .inl (fun _ => 0))), (r6, .inl ((cy 0), 120, .inl (fun _ => 0))), (r7, .inr (4, [.ref r1, .ref r8, .ref r9, .ref r10, .ref r11, .int 0, .ref r12, .ref r13, .ref r14, .ref r15, .int 0, .int 0, .ref r16, .ref r17, .ref r18])), (r8, .inl ((cy 0), 12, .inl (fun _ => 0))), (r9, .inl ((cy 0), 12, .inl (fun _ => 0))), (r11, .inl ((cy 0), 12, .inl (fun _ => 0))), (r12, .inl ((cy 0), 16, .inl (fun _ => 0))), (r13, .inl ((cy 0), 16, .inl (fun _ => 0))), (r14, .inl ((cy 0), 16, .inl (fun _ => 0))), (r15, .inl ((cy 0), 16, .inl (fun _ => 0))), (r17, .inl ((cy 0), 12, .inl (fun _ => 0))), (r18, .inl ((cy 0), 12, .inl (fun _ => 0))), (r10, .inl ((cy 0), 12, .inl (flF (fun _ => 0) (-1) 12))), (r16, .inl ((cy 0), 12, .inl (flF (fun _ => 0) 1 12))), (r20, .inr (4, [.ref r1, .ref r21, .ref r22, .ref r23, .ref r24, .int 0, .ref r25, .ref r26, .ref r27, .ref r28, .int 0, .int 0, .ref r29, .ref r30, .ref r31])), (r21, .inl ((cy 0), 12, .inl (fun _ => 0))), (r22, .inl ((cy 0), 12, .inl (fun _ => 0))), (r24, .inl ((cy 0), 12, .inl (fun _ => 0))), (r25, .inl ((cy 0), 16, .inl (fun _ => 0))), (r26, .inl ((cy 0), 16, .inl (fun _ => 0))), (r27, .inl ((cy 0), 16, .inl (fun _ => 0))), (r28, .inl ((cy 0), 16, .inl (fun _ => 0))), (r30, .inl ((cy 0), 12, .inl (fun _ => 0))), (r31, .inl ((cy 0), 12, .inl (fun _ => 0))), (r23, .inl ((cy 0), 12, .inl (flF (fun _ => 0) (-1) 12))), (r29, .inl ((cy 0), 12, .inl (flF (fun _ => 0) 1 12))), (r19, .inr (3, [.ref r7, .ref r20, .ref r32, .int 0])), (r32, .inl ((cy 0), 12, .inl (fun _ => 0))), (r33, .inr (5, [.ref r7, .ref r34, .ref r35, .int 0, .int 0, .int 0])), (r34, .inl ((cy 0), 12, .inl (fun _ => 0))), (r35, .inl ((cy 0), 144, .inl (fun _ => 0))), (r36, .inr (0, [.ref r37, .ref r38, .ref r39, .ref r40, .int 0, .int 0])), (r37, .inl ((cy 0), 40, .inl (fun _ => 0))), (r38, .inl ((cy 0), 40, .inl (fun _ => 0))), (r39, .inl ((cy 0), 40, .inl (fun _ => 0))), (r40, .inl ((cy 0), 40, .inl (fun _ => 0))), (r41, .inr (1, [.ref r42, .int 0, .ref r43, .int 0, .int 0])), (r42, .inl ((cy 0), 50, .inl (fun _ => 0))), (r43, .inl ((cy 0), 24, .inl (fun _ => 0))), (r44, .inl ((cy 5), 6, .inr (.inr (.inr (.inr (va_up ((va_up ((va_up ((va_up ((va_up ((va_up ((fun _ => none)) 0 (some r45))) 1 (some r47))) 2 (some r49))) 3 (some r51))) 4 (some r53))) 5 (some r55))))))), (r45, .inr (6, [.ref r46, .int (-1), .int (-1), .int 0])), (r46, .inl ((cy 4), 60, .inr (.inl (fun _ => 0)))), (r47, .inr (6, [.ref r48, .int (-1), .int (-1), .int 0])), (r48, .inl ((cy 4), 60, .inr (.inl (fun _ => 0)))), (r49, .inr (6, [.ref r50, .int (-1), .int (-1), .int 0])), (r50, .inl ((cy 4), 60, .inr (.inl (fun _ => 0)))), (r51, .inr (6, [.ref r52, .int (-1), .int (-1), .int 0])), (r52, .inl ((cy 4), 60, .inr (.inl (fun _ => 0)))), (r53, .inr (6, [.ref r54, .int (-1), .int (-1), .int 0])), (r54, .inl ((cy 4), 60, .inr (.inl (fun _ => 0)))), (r55, .inr (6, [.ref r56, .int (-1), .int (-1), .int 0])), (r56, .inl ((cy 4), 60, .inr (.inl (fun _ => 0)))), (r57, .inl ((cy 0), 12, .inl (fun _ => 0)))] ++ [(h8, .inr (8, [.int 0, .int 0, .ref u1, .ref u2, .ref u3, .int 0, .ref u4, .ref u5, .ref u6, .int 0, .ref u7, .ref u8, .int 0, .int 0, .ref u9, .ref u10, .ref u11, .ref u12, .ref u13, .int 0, .int 0, .int 0, .int 0, .int 0, .ref u14, .ref u15, .ref u16, .ref u17, .ref u18, .ref u19, .ref u20, .int 0, .ref u21, .ref u22, .ref u23, .ref u24, .int 0, .int 0, .ref u25, .int 0, .ref u26, .int 0, .ref u27, .ref u28, .ref u29, .ref u30, .ref u31])), (u1, .inl ((cy 0), 12, .inl (fun _ => 0))), (u2, .inl ((cy 0), 12, .inl (fun _ => 0))), (u3, .inl ((cy 0), 12, .inl (flF (fun _ => 0) (-1) 12))), (u4, .inl ((cy 0), 16, .inl (fun _ => 0))), (u5, .inl ((cy 0), 16, .inl (fun _ => 0))), (u6, .inl ((cy 0), 16, .inl (fun _ => 0))), (u7, .inl ((cy 0), 12, .inl (flF (fun _ => 0) 1 12))), (u8, .inl ((cy 0), 12, .inl (fun _ => 0))), (u9, .inl ((cy 0), 40, .inl (fun _ => 0))), (u10, .inl ((cy 0), 40, .inl (fun _ => 0))), (u11, .inl ((cy 0), 40, .inl (fun _ => 0))), (u12, .inl ((cy 0), 40, .inl (fun _ => 0))), (u13, .inl ((cy 1), 120, .inl (fun _ => 0))), (u14, .inl ((cy 1), 260, .inl (fun _ => 0))), (u15, .inl ((cy 0), 260, .inl (fun _ => 0))), (u16, .inl ((cy 0), 2, .inl (fun _ => 0))), (u17, .inl ((cy 2), 122, .inl (fun _ => 0))), (u18, .inl ((cy 2), 122, .inl (fun _ => 0))), (u19, .inl ((cy 0), 6, .inl (fun _ => 0))), (u20, .inl ((cy 0), 130, .inl (fun _ => 0))), (u21, .inl ((cy 0), 12, .inl (fun _ => 0))), (u22, .inl ((cy 3), 16, .inl (fun _ => 0))), (u23, .inl ((cy 0), 12, .inl (fun _ => 0))), (u24, .inl ((cy 0), 12, .inl (fun _ => 0))), (u25, .inl ((cy 0), 12, .inl (fun _ => 0))), (u26, .inl ((cy 0), 50, .inl (fun _ => 0))), (u27, .inl ((cy 0), 24, .inl (fun _ => 0))), (u28, .inl ((cy 0), 6, .inl (flF (fun _ => 0) (-1) 6))), (u29, .inl ((cy 0), 6, .inl (fun _ => 0))), (u30, .inl ((cy 4), 360, .inr (.inl (fun _ => 0)))), (u31, .inl ((cy 4), 60, .inr (.inl (fun _ => 0))))])) : ∃ adr : Nat → Nat, adr 64 = h7 ∧ adr 1280 = h8 ∧ adr 1 = a1 ∧ adr 2 = a2 ∧ adr 3 = b ∧ (∀ i ∈ zIDS, ∀ j ∈ zIDS, adr i = adr j → i = j) ∧ (∀ i ∈ zIDS, sz ≤ adr i) ∧ va_P D vwCl (zws cy adr M00) H := by
  obtain ⟨adr, ha⟩ := ad_ex [(64, h7), (128, r1), (129, r2), (131, r3), (135, r4), (137, r5), (138, r6), (192, r7), (194, r8), (195, r9), (197, r11), (199, r12), (200, r13), (201, r14), (202, r15), (206, r17), (207, r18), (196, r10), (205, r16), (256, r20), (258, r21), (259, r22), (261, r24), (263, r25), (264, r26), (265, r27), (266, r28), (270, r30), (271, r31), (260, r23), (269, r29), (320, r19), (323, r32), (384, r33), (386, r34), (387, r35), (448, r36), (449, r37), (450, r38), (451, r39), (452, r40), (512, r41), (513, r42), (515, r43), (71, r44), (640, r45), (641, r46), (704, r47), (705, r48), (768, r49), (769, r50), (832, r51), (833, r52), (896, r53), (897, r54), (960, r55), (961, r56), (72, r57), (1280, h8), (1283, u1), (1284, u2), (1285, u3), (1287, u4), (1288, u5), (1289, u6), (1291, u7), (1292, u8), (1295, u9), (1296, u10), (1297, u11), (1298, u12), (1299, u13), (1305, u14), (1306, u15), (1307, u16), (1308, u17), (1309, u18), (1310, u19), (1311, u20), (1313, u21), (1314, u22), (1315, u23), (1316, u24), (1319, u25), (1321, u26), (1323, u27), (1324, u28), (1325, u29), (1326, u30), (1327, u31), (1, a1), (2, a2), (3, b)] (by show ([64, 128, 129, 131, 135, 137, 138, 192, 194, 195, 197, 199, 200, 201, 202, 206, 207, 196, 205, 256, 258, 259, 261, 263, 264, 265, 266, 270, 271, 260, 269, 320, 323, 384, 386, 387, 448, 449, 450, 451, 452, 512, 513, 515, 71, 640, 641, 704, 705, 768, 769, 832, 833, 896, 897, 960, 961, 72, 1280, 1283, 1284, 1285, 1287, 1288, 1289, 1291, 1292, 1295, 1296, 1297, 1298, 1299, 1305, 1306, 1307, 1308, 1309, 1310, 1311, 1313, 1314, 1315, 1316, 1319, 1321, 1323, 1324, 1325, 1326, 1327, 1, 2, 3] : List Nat).Nodup; decide +kernel)
  have e64 : adr 64 = h7 := ha _ (List.mem_of_getElem? (i := 0) rfl)
  have e128 : adr 128 = r1 := ha _ (List.mem_of_getElem? (i := 1) rfl)
  have e129 : adr 129 = r2 := ha _ (List.mem_of_getElem? (i := 2) rfl)
  have e131 : adr 131 = r3 := ha _ (List.mem_of_getElem? (i := 3) rfl)
  have e135 : adr 135 = r4 := ha _ (List.mem_of_getElem? (i := 4) rfl)
  have e137 : adr 137 = r5 := ha _ (List.mem_of_getElem? (i := 5) rfl)
  have e138 : adr 138 = r6 := ha _ (List.mem_of_getElem? (i := 6) rfl)
  have e192 : adr 192 = r7 := ha _ (List.mem_of_getElem? (i := 7) rfl)
  have e194 : adr 194 = r8 := ha _ (List.mem_of_getElem? (i := 8) rfl)
  have e195 : adr 195 = r9 := ha _ (List.mem_of_getElem? (i := 9) rfl)
  have e197 : adr 197 = r11 := ha _ (List.mem_of_getElem? (i := 10) rfl)
  have e199 : adr 199 = r12 := ha _ (List.mem_of_getElem? (i := 11) rfl)
  have e200 : adr 200 = r13 := ha _ (List.mem_of_getElem? (i := 12) rfl)
  have e201 : adr 201 = r14 := ha _ (List.mem_of_getElem? (i := 13) rfl)
  have e202 : adr 202 = r15 := ha _ (List.mem_of_getElem? (i := 14) rfl)
  have e206 : adr 206 = r17 := ha _ (List.mem_of_getElem? (i := 15) rfl)
  have e207 : adr 207 = r18 := ha _ (List.mem_of_getElem? (i := 16) rfl)
  have e196 : adr 196 = r10 := ha _ (List.mem_of_getElem? (i := 17) rfl)
  have e205 : adr 205 = r16 := ha _ (List.mem_of_getElem? (i := 18) rfl)
  have e256 : adr 256 = r20 := ha _ (List.mem_of_getElem? (i := 19) rfl)
  have e258 : adr 258 = r21 := ha _ (List.mem_of_getElem? (i := 20) rfl)
  have e259 : adr 259 = r22 := ha _ (List.mem_of_getElem? (i := 21) rfl)
  have e261 : adr 261 = r24 := ha _ (List.mem_of_getElem? (i := 22) rfl)
  have e263 : adr 263 = r25 := ha _ (List.mem_of_getElem? (i := 23) rfl)
  have e264 : adr 264 = r26 := ha _ (List.mem_of_getElem? (i := 24) rfl)
  have e265 : adr 265 = r27 := ha _ (List.mem_of_getElem? (i := 25) rfl)
  have e266 : adr 266 = r28 := ha _ (List.mem_of_getElem? (i := 26) rfl)
  have e270 : adr 270 = r30 := ha _ (List.mem_of_getElem? (i := 27) rfl)
  have e271 : adr 271 = r31 := ha _ (List.mem_of_getElem? (i := 28) rfl)
  have e260 : adr 260 = r23 := ha _ (List.mem_of_getElem? (i := 29) rfl)
  have e269 : adr 269 = r29 := ha _ (List.mem_of_getElem? (i := 30) rfl)
  have e320 : adr 320 = r19 := ha _ (List.mem_of_getElem? (i := 31) rfl)
  have e323 : adr 323 = r32 := ha _ (List.mem_of_getElem? (i := 32) rfl)
  have e384 : adr 384 = r33 := ha _ (List.mem_of_getElem? (i := 33) rfl)
  have e386 : adr 386 = r34 := ha _ (List.mem_of_getElem? (i := 34) rfl)
  have e387 : adr 387 = r35 := ha _ (List.mem_of_getElem? (i := 35) rfl)
  have e448 : adr 448 = r36 := ha _ (List.mem_of_getElem? (i := 36) rfl)
  have e449 : adr 449 = r37 := ha _ (List.mem_of_getElem? (i := 37) rfl)
  have e450 : adr 450 = r38 := ha _ (List.mem_of_getElem? (i := 38) rfl)
  have e451 : adr 451 = r39 := ha _ (List.mem_of_getElem? (i := 39) rfl)
  have e452 : adr 452 = r40 := ha _ (List.mem_of_getElem? (i := 40) rfl)
  have e512 : adr 512 = r41 := ha _ (List.mem_of_getElem? (i := 41) rfl)
  have e513 : adr 513 = r42 := ha _ (List.mem_of_getElem? (i := 42) rfl)
  have e515 : adr 515 = r43 := ha _ (List.mem_of_getElem? (i := 43) rfl)
  have e71 : adr 71 = r44 := ha _ (List.mem_of_getElem? (i := 44) rfl)
  have e640 : adr 640 = r45 := ha _ (List.mem_of_getElem? (i := 45) rfl)
  have e641 : adr 641 = r46 := ha _ (List.mem_of_getElem? (i := 46) rfl)
  have e704 : adr 704 = r47 := ha _ (List.mem_of_getElem? (i := 47) rfl)
  have e705 : adr 705 = r48 := ha _ (List.mem_of_getElem? (i := 48) rfl)
  have e768 : adr 768 = r49 := ha _ (List.mem_of_getElem? (i := 49) rfl)
  have e769 : adr 769 = r50 := ha _ (List.mem_of_getElem? (i := 50) rfl)
  have e832 : adr 832 = r51 := ha _ (List.mem_of_getElem? (i := 51) rfl)
  have e833 : adr 833 = r52 := ha _ (List.mem_of_getElem? (i := 52) rfl)
  have e896 : adr 896 = r53 := ha _ (List.mem_of_getElem? (i := 53) rfl)
  have e897 : adr 897 = r54 := ha _ (List.mem_of_getElem? (i := 54) rfl)
  have e960 : adr 960 = r55 := ha _ (List.mem_of_getElem? (i := 55) rfl)
  have e961 : adr 961 = r56 := ha _ (List.mem_of_getElem? (i := 56) rfl)
  have e72 : adr 72 = r57 := ha _ (List.mem_of_getElem? (i := 57) rfl)
  have e1280 : adr 1280 = h8 := ha _ (List.mem_of_getElem? (i := 58) rfl)
  have e1283 : adr 1283 = u1 := ha _ (List.mem_of_getElem? (i := 59) rfl)
  have e1284 : adr 1284 = u2 := ha _ (List.mem_of_getElem? (i := 60) rfl)
  have e1285 : adr 1285 = u3 := ha _ (List.mem_of_getElem? (i := 61) rfl)
  have e1287 : adr 1287 = u4 := ha _ (List.mem_of_getElem? (i := 62) rfl)
  have e1288 : adr 1288 = u5 := ha _ (List.mem_of_getElem? (i := 63) rfl)
  have e1289 : adr 1289 = u6 := ha _ (List.mem_of_getElem? (i := 64) rfl)
  have e1291 : adr 1291 = u7 := ha _ (List.mem_of_getElem? (i := 65) rfl)
  have e1292 : adr 1292 = u8 := ha _ (List.mem_of_getElem? (i := 66) rfl)
  have e1295 : adr 1295 = u9 := ha _ (List.mem_of_getElem? (i := 67) rfl)
  have e1296 : adr 1296 = u10 := ha _ (List.mem_of_getElem? (i := 68) rfl)
  have e1297 : adr 1297 = u11 := ha _ (List.mem_of_getElem? (i := 69) rfl)
  have e1298 : adr 1298 = u12 := ha _ (List.mem_of_getElem? (i := 70) rfl)
  have e1299 : adr 1299 = u13 := ha _ (List.mem_of_getElem? (i := 71) rfl)
  have e1305 : adr 1305 = u14 := ha _ (List.mem_of_getElem? (i := 72) rfl)
  have e1306 : adr 1306 = u15 := ha _ (List.mem_of_getElem? (i := 73) rfl)
  have e1307 : adr 1307 = u16 := ha _ (List.mem_of_getElem? (i := 74) rfl)
  have e1308 : adr 1308 = u17 := ha _ (List.mem_of_getElem? (i := 75) rfl)
  have e1309 : adr 1309 = u18 := ha _ (List.mem_of_getElem? (i := 76) rfl)
  have e1310 : adr 1310 = u19 := ha _ (List.mem_of_getElem? (i := 77) rfl)
  have e1311 : adr 1311 = u20 := ha _ (List.mem_of_getElem? (i := 78) rfl)
  have e1313 : adr 1313 = u21 := ha _ (List.mem_of_getElem? (i := 79) rfl)
  have e1314 : adr 1314 = u22 := ha _ (List.mem_of_getElem? (i := 80) rfl)
  have e1315 : adr 1315 = u23 := ha _ (List.mem_of_getElem? (i := 81) rfl)
  have e1316 : adr 1316 = u24 := ha _ (List.mem_of_getElem? (i := 82) rfl)
  have e1319 : adr 1319 = u25 := ha _ (List.mem_of_getElem? (i := 83) rfl)
  have e1321 : adr 1321 = u26 := ha _ (List.mem_of_getElem? (i := 84) rfl)
  have e1323 : adr 1323 = u27 := ha _ (List.mem_of_getElem? (i := 85) rfl)
  have e1324 : adr 1324 = u28 := ha _ (List.mem_of_getElem? (i := 86) rfl)
  have e1325 : adr 1325 = u29 := ha _ (List.mem_of_getElem? (i := 87) rfl)
  have e1326 : adr 1326 = u30 := ha _ (List.mem_of_getElem? (i := 88) rfl)
  have e1327 : adr 1327 = u31 := ha _ (List.mem_of_getElem? (i := 89) rfl)
  have e1 : adr 1 = a1 := ha _ (List.mem_of_getElem? (i := 90) rfl)
  have e2 : adr 2 = a2 := ha _ (List.mem_of_getElem? (i := 91) rfl)
  have e3 : adr 3 = b := ha _ (List.mem_of_getElem? (i := 92) rfl)
  clear ha
  subst e64
  subst e128
  subst e129
  subst e131
  subst e135
  subst e137
  subst e138
  subst e192
  subst e194
  subst e195
  subst e197
  subst e199
  subst e200
  subst e201
  subst e202
  subst e206
  subst e207
  subst e196
  subst e205
  subst e256
  subst e258
  subst e259
  subst e261
  subst e263
  subst e264
  subst e265
  subst e266
  subst e270
  subst e271
  subst e260
  subst e269
  subst e320
  subst e323
  subst e384
  subst e386
  subst e387
  subst e448
  subst e449
  subst e450
  subst e451
  subst e452
  subst e512
  subst e513
  subst e515
  subst e71
  subst e640
  subst e641
  subst e704
  subst e705
  subst e768
  subst e769
  subst e832
  subst e833
  subst e896
  subst e897
  subst e960
  subst e961
  subst e72
  subst e1280
  subst e1283
  subst e1284
  subst e1285
  subst e1287
  subst e1288
  subst e1289
  subst e1291
  subst e1292
  subst e1295
  subst e1296
  subst e1297
  subst e1298
  subst e1299
  subst e1305
  subst e1306
  subst e1307
  subst e1308
  subst e1309
  subst e1310
  subst e1311
  subst e1313
  subst e1314
  subst e1315
  subst e1316
  subst e1319
  subst e1321
  subst e1323
  subst e1324
  subst e1325
  subst e1326
  subst e1327
  obtain ⟨x1, x2, x3⟩ := world1 (cy := cy) (adr := adr) hP hD
  exact ⟨adr, rfl, rfl, e1, e2, e3, x1, x2, x3⟩
