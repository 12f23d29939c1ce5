theorem zinP {w : Cond} (i : Nat) (h : (k2_sels lw_privs)[i]? = some w) (g : goodWord w = true) : w ∈ zTB := List.mem_filter.mpr ⟨List.mem_append_left _ (List.mem_of_getElem? h), g⟩
theorem zin1 {w : Cond} (i : Nat) (h : tables_1_1[i]? = some w) (g : goodWord w = true) : w ∈ zTB := List.mem_filter.mpr ⟨List.mem_append_right _ (List.mem_append_left _ (List.mem_of_getElem? h)), g⟩
theorem zin2 {w : Cond} (i : Nat) (h : tables_1_2[i]? = some w) (g : goodWord w = true) : w ∈ zTB := List.mem_filter.mpr ⟨List.mem_append_right _ (List.mem_append_right _ (List.mem_append_left _ (List.mem_of_getElem? h))), g⟩
theorem zin3 {w : Cond} (i : Nat) (h : tables_1_3[i]? = some w) (g : goodWord w = true) : w ∈ zTB := List.mem_filter.mpr ⟨List.mem_append_right _ (List.mem_append_right _ (List.mem_append_right _ (List.mem_append_left _ (List.mem_of_getElem? h)))), g⟩
theorem zin4 {w : Cond} (i : Nat) (h : tables_1_4[i]? = some w) (g : goodWord w = true) : w ∈ zTB := List.mem_filter.mpr ⟨List.mem_append_right _ (List.mem_append_right _ (List.mem_append_right _ (List.mem_append_right _ (List.mem_append_left _ (List.mem_of_getElem? h))))), g⟩
theorem zin5 {w : Cond} (i : Nat) (h : tables_1_5[i]? = some w) (g : goodWord w = true) : w ∈ zTB := List.mem_filter.mpr ⟨List.mem_append_right _ (List.mem_append_right _ (List.mem_append_right _ (List.mem_append_right _ (List.mem_append_right _ (List.mem_append_left _ (List.mem_of_getElem? h)))))), g⟩
theorem zin6 {w : Cond} (i : Nat) (h : tables_1_6[i]? = some w) (g : goodWord w = true) : w ∈ zTB := List.mem_filter.mpr ⟨List.mem_append_right _ (List.mem_append_right _ (List.mem_append_right _ (List.mem_append_right _ (List.mem_append_right _ (List.mem_append_right _ (List.mem_append_left _ (List.mem_of_getElem? h))))))), g⟩
theorem zin7 {w : Cond} (i : Nat) (h : tables_1_7[i]? = some w) (g : goodWord w = true) : w ∈ zTB := List.mem_filter.mpr ⟨List.mem_append_right _ (List.mem_append_right _ (List.mem_append_right _ (List.mem_append_right _ (List.mem_append_right _ (List.mem_append_right _ (List.mem_append_right _ (List.mem_of_getElem? h))))))), g⟩
theorem zobs (o : Nat) (h1 : o ∈ zIDS) (h2 : o % 64 = 0) : o ∈ ([64, 128, 192, 256, 320, 384, 448, 512, 640, 704, 768, 832, 896, 960, 1280] : List Nat) := by
  have key : ∀ x ∈ zIDS, x % 64 = 0 → x ∈ ([64, 128, 192, 256, 320, 384, 448, 512, 640, 704, 768, 832, 896, 960, 1280] : List Nat) := by decide +kernel
  exact key o h1 h2
theorem ob_64 : zob 64 7 := ⟨by decide, by decide, by decide, by decide⟩
theorem ob_128 : zob 128 2 := ⟨by decide, by decide, by decide, by decide⟩
theorem ob_192 : zob 192 4 := ⟨by decide, by decide, by decide, by decide⟩
theorem ob_256 : zob 256 4 := ⟨by decide, by decide, by decide, by decide⟩
theorem ob_320 : zob 320 3 := ⟨by decide, by decide, by decide, by decide⟩
theorem ob_384 : zob 384 5 := ⟨by decide, by decide, by decide, by decide⟩
theorem ob_448 : zob 448 0 := ⟨by decide, by decide, by decide, by decide⟩
theorem ob_512 : zob 512 1 := ⟨by decide, by decide, by decide, by decide⟩
theorem ob_640 : zob 640 6 := ⟨by decide, by decide, by decide, by decide⟩
theorem ob_704 : zob 704 6 := ⟨by decide, by decide, by decide, by decide⟩
theorem ob_768 : zob 768 6 := ⟨by decide, by decide, by decide, by decide⟩
theorem ob_832 : zob 832 6 := ⟨by decide, by decide, by decide, by decide⟩
theorem ob_896 : zob 896 6 := ⟨by decide, by decide, by decide, by decide⟩
theorem ob_960 : zob 960 6 := ⟨by decide, by decide, by decide, by decide⟩
theorem ob_1280 : zob 1280 8 := ⟨by decide, by decide, by decide, by decide⟩
theorem ob_sh {j : Nat} (h : j < 6) : zob (640 + 64 * j) 6 := by
  match j, h with
  | 0, _ => exact ob_640
  | 1, _ => exact ob_704
  | 2, _ => exact ob_768
  | 3, _ => exact ob_832
  | 4, _ => exact ob_896
  | 5, _ => exact ob_960
def mX0_add : zRow := (yX0_add, cX0_add, 5, none, 0, 4, false, false)
set_option maxRecDepth 100000 in
theorem kX0_add : zGood mX0_add := ⟨zin2 148 rfl rfl, zin1 7 (by decide +kernel) rfl, by decide +kernel, rfl, by decide +kernel, by show (if _ = true then _ else _); exact ⟨zin2 146 (by decide +kernel) rfl, zin2 147 (by decide +kernel) rfl⟩, by decide⟩
def mX0_dropOldest : zRow := (yX0_dropOldest, cX0_dropOldest, 1, none, 0, 0, false, false)
set_option maxRecDepth 100000 in
theorem kX0_dropOldest : zGood mX0_dropOldest := ⟨zin2 152 rfl rfl, zin1 7 (by decide +kernel) rfl, by decide +kernel, rfl, by decide +kernel, by show (if _ = true then _ else _); exact ⟨zin2 150 (by decide +kernel) rfl, zin2 151 (by decide +kernel) rfl⟩, by decide⟩
def mX0_stepBack : zRow := (yX0_stepBack, cX0_stepBack, 1, some .boolean, 0, 0, false, false)
set_option maxRecDepth 100000 in
theorem kX0_stepBack : zGood mX0_stepBack := ⟨zin4 108 rfl rfl, zin1 7 (by decide +kernel) rfl, by decide +kernel, rfl, by decide +kernel, by show (if _ = true then _ else _); exact ⟨zin4 106 (by decide +kernel) rfl, zin4 107 (by decide +kernel) rfl⟩, by decide⟩
def mX0_hasUndone : zRow := (yX0_hasUndone, cX0_hasUndone, 1, some .boolean, 0, 0, false, false)
set_option maxRecDepth 100000 in
theorem kX0_hasUndone : zGood mX0_hasUndone := ⟨zin4 120 rfl rfl, zin1 7 (by decide +kernel) rfl, by decide +kernel, rfl, by decide +kernel, by show (if _ = true then _ else _); exact ⟨zin4 118 (by decide +kernel) rfl, zin4 119 (by decide +kernel) rfl⟩, by decide⟩
def mX0_stepOn : zRow := (yX0_stepOn, cX0_stepOn, 1, none, 0, 0, false, false)
set_option maxRecDepth 100000 in
theorem kX0_stepOn : zGood mX0_stepOn := ⟨zin4 124 rfl rfl, zin1 7 (by decide +kernel) rfl, by decide +kernel, rfl, by decide +kernel, by show (if _ = true then _ else _); exact ⟨zin4 122 (by decide +kernel) rfl, zin4 123 (by decide +kernel) rfl⟩, by decide⟩
def mX1_has : zRow := (yX1_has, cX1_has, 2, some .boolean, 1, 1, false, false)
set_option maxRecDepth 100000 in
theorem kX1_has : zGood mX1_has := ⟨zin4 147 rfl rfl, zin1 8 (by decide +kernel) rfl, by decide +kernel, rfl, by decide +kernel, by show (if _ = true then _ else _); exact ⟨zin4 145 (by decide +kernel) rfl, zin4 146 (by decide +kernel) rfl⟩, by decide⟩
def mX1_add : zRow := (yX1_add, cX1_add, 2, some .int, 1, 1, false, false)
set_option maxRecDepth 100000 in
theorem kX1_add : zGood mX1_add := ⟨zin4 135 rfl rfl, zin1 8 (by decide +kernel) rfl, by decide +kernel, rfl, by decide +kernel, by show (if _ = true then _ else _); exact ⟨zin4 133 (by decide +kernel) rfl, zin4 134 (by decide +kernel) rfl⟩, by decide⟩
def mX1_traced : zRow := (yX1_traced, cX1_traced, 1, some .int, 1, 0, false, false)
set_option maxRecDepth 100000 in
theorem kX1_traced : zGood mX1_traced := ⟨zin4 175 rfl rfl, zin1 8 (by decide +kernel) rfl, by decide +kernel, rfl, by decide +kernel, by show (if _ = true then _ else _); exact ⟨zin4 173 (by decide +kernel) rfl, zin4 174 (by decide +kernel) rfl⟩, by decide⟩
def mX1_isUnder : zRow := (yX1_isUnder, cX1_isUnder, 4, some .boolean, 1, 2, true, false)
set_option maxRecDepth 100000 in
theorem kX1_isUnder : zGood mX1_isUnder := ⟨zin4 233 rfl rfl, zin1 8 (by decide +kernel) rfl, by decide +kernel, rfl, by decide +kernel, by show (if _ = true then _ else _); exact zin4 232 (by decide +kernel) rfl, by decide⟩
def mX1_perform : zRow := (yX1_perform, cX1_perform, 4, some .int, 1, 3, false, false)
set_option maxRecDepth 100000 in
theorem kX1_perform : zGood mX1_perform := ⟨zin4 143 rfl rfl, zin1 8 (by decide +kernel) rfl, by decide +kernel, rfl, by decide +kernel, by show (if _ = true then _ else _); exact ⟨zin4 141 (by decide +kernel) rfl, zin4 142 (by decide +kernel) rfl⟩, by decide⟩
def mX1_own : zRow := (yX1_own, cX1_own, 4, some .int, 1, 3, false, false)
set_option maxRecDepth 100000 in
theorem kX1_own : zGood mX1_own := ⟨zin4 151 rfl rfl, zin1 8 (by decide +kernel) rfl, by decide +kernel, rfl, by decide +kernel, by show (if _ = true then _ else _); exact ⟨zin4 149 (by decide +kernel) rfl, zin4 150 (by decide +kernel) rfl⟩, by decide⟩
def mX1_runFrom : zRow := (yX1_runFrom, cX1_runFrom, 8, some .int, 1, 4, false, false)
set_option maxRecDepth 100000 in
theorem kX1_runFrom : zGood mX1_runFrom := ⟨zin4 155 rfl rfl, zin1 8 (by decide +kernel) rfl, by decide +kernel, rfl, by decide +kernel, by show (if _ = true then _ else _); exact ⟨zin4 153 (by decide +kernel) rfl, zin4 154 (by decide +kernel) rfl⟩, by decide⟩
def mX1_noteBegun : zRow := (yX1_noteBegun, cX1_noteBegun, 2, none, 1, 1, false, false)
set_option maxRecDepth 100000 in
theorem kX1_noteBegun : zGood mX1_noteBegun := ⟨zin4 161 rfl rfl, zin1 8 (by decide +kernel) rfl, by decide +kernel, rfl, by decide +kernel, by show (if _ = true then _ else _); exact ⟨zin4 159 (by decide +kernel) rfl, zin4 160 (by decide +kernel) rfl⟩, by decide⟩
def mX1_runBody : zRow := (yX1_runBody, cX1_runBody, 5, some .int, 1, 4, false, false)
set_option maxRecDepth 100000 in
theorem kX1_runBody : zGood mX1_runBody := ⟨zin4 167 rfl rfl, zin1 8 (by decide +kernel) rfl, by decide +kernel, rfl, by decide +kernel, by show (if _ = true then _ else _); exact ⟨zin4 165 (by decide +kernel) rfl, zin4 166 (by decide +kernel) rfl⟩, by decide⟩
def mX2_takeByte : zRow := (yX2_takeByte, cX2_takeByte, 2, some .int, 2, 1, false, false)
set_option maxRecDepth 100000 in
theorem kX2_takeByte : zGood mX2_takeByte := ⟨zin2 195 rfl rfl, zin1 2 (by decide +kernel) rfl, by decide +kernel, rfl, by decide +kernel, by show (if _ = true then _ else _); exact ⟨zin2 193 (by decide +kernel) rfl, zin2 194 (by decide +kernel) rfl⟩, by decide⟩
def mX2_takeTape : zRow := (yX2_takeTape, cX2_takeTape, 1, some .int, 2, 0, false, false)
set_option maxRecDepth 100000 in
theorem kX2_takeTape : zGood mX2_takeTape := ⟨zin2 203 rfl rfl, zin1 2 (by decide +kernel) rfl, by decide +kernel, rfl, by decide +kernel, by show (if _ = true then _ else _); exact ⟨zin2 201 (by decide +kernel) rfl, zin2 202 (by decide +kernel) rfl⟩, by decide⟩
def mX2_readLines : zRow := (yX2_readLines, cX2_readLines, 2, none, 2, 0, false, false)
set_option maxRecDepth 100000 in
theorem kX2_readLines : zGood mX2_readLines := ⟨zin2 207 rfl rfl, zin1 2 (by decide +kernel) rfl, by decide +kernel, rfl, by decide +kernel, by show (if _ = true then _ else _); exact ⟨zin2 205 (by decide +kernel) rfl, zin2 206 (by decide +kernel) rfl⟩, by decide⟩
def mX2_readLine : zRow := (yX2_readLine, cX2_readLine, 1, none, 2, 0, false, false)
set_option maxRecDepth 100000 in
theorem kX2_readLine : zGood mX2_readLine := ⟨zin2 211 rfl rfl, zin1 2 (by decide +kernel) rfl, by decide +kernel, rfl, by decide +kernel, by show (if _ = true then _ else _); exact ⟨zin2 209 (by decide +kernel) rfl, zin2 210 (by decide +kernel) rfl⟩, by decide⟩
def mX2_readRank : zRow := (yX2_readRank, cX2_readRank, 5, none, 2, 2, false, false)
set_option maxRecDepth 100000 in
theorem kX2_readRank : zGood mX2_readRank := ⟨zin2 215 rfl rfl, zin1 2 (by decide +kernel) rfl, by decide +kernel, rfl, by decide +kernel, by show (if _ = true then _ else _); exact ⟨zin2 213 (by decide +kernel) rfl, zin2 214 (by decide +kernel) rfl⟩, by decide⟩
def mX2_readOperand : zRow := (yX2_readOperand, cX2_readOperand, 3, none, 2, 1, false, false)
set_option maxRecDepth 100000 in
theorem kX2_readOperand : zGood mX2_readOperand := ⟨zin2 219 rfl rfl, zin1 2 (by decide +kernel) rfl, by decide +kernel, rfl, by decide +kernel, by show (if _ = true then _ else _); exact ⟨zin2 217 (by decide +kernel) rfl, zin2 218 (by decide +kernel) rfl⟩, by decide⟩
def mX2_readClosing : zRow := (yX2_readClosing, cX2_readClosing, 1, none, 2, 0, false, false)
set_option maxRecDepth 100000 in
theorem kX2_readClosing : zGood mX2_readClosing := ⟨zin3 88 rfl rfl, zin1 2 (by decide +kernel) rfl, by decide +kernel, rfl, by decide +kernel, by show (if _ = true then _ else _); exact ⟨zin3 86 (by decide +kernel) rfl, zin3 87 (by decide +kernel) rfl⟩, by decide⟩
def mX2_readNumber : zRow := (yX2_readNumber, cX2_readNumber, 3, none, 2, 0, false, false)
set_option maxRecDepth 100000 in
theorem kX2_readNumber : zGood mX2_readNumber := ⟨zin2 230 rfl rfl, zin1 2 (by decide +kernel) rfl, by decide +kernel, rfl, by decide +kernel, by show (if _ = true then _ else _); exact ⟨zin2 228 (by decide +kernel) rfl, zin2 229 (by decide +kernel) rfl⟩, by decide⟩
def mX2_refuse : zRow := (yX2_refuse, cX2_refuse, 1, none, 2, 0, false, false)
set_option maxRecDepth 100000 in
theorem kX2_refuse : zGood mX2_refuse := ⟨zin3 92 rfl rfl, zin1 2 (by decide +kernel) rfl, by decide +kernel, rfl, by decide +kernel, by show (if _ = true then _ else _); exact ⟨zin3 90 (by decide +kernel) rfl, zin3 91 (by decide +kernel) rfl⟩, by decide⟩
def mX2_nextByte : zRow := (yX2_nextByte, cX2_nextByte, 1, some .int, 2, 0, false, false)
set_option maxRecDepth 100000 in
theorem kX2_nextByte : zGood mX2_nextByte := ⟨zin2 223 rfl rfl, zin1 2 (by decide +kernel) rfl, by decide +kernel, rfl, by decide +kernel, by show (if _ = true then _ else _); exact ⟨zin2 221 (by decide +kernel) rfl, zin2 222 (by decide +kernel) rfl⟩, by decide⟩
def mX2_draftSign : zRow := (yX2_draftSign, cX2_draftSign, 1, none, 2, 0, false, false)
set_option maxRecDepth 100000 in
theorem kX2_draftSign : zGood mX2_draftSign := ⟨zin3 99 rfl rfl, zin1 2 (by decide +kernel) rfl, by decide +kernel, rfl, by decide +kernel, by show (if _ = true then _ else _); exact ⟨zin3 97 (by decide +kernel) rfl, zin3 98 (by decide +kernel) rfl⟩, by decide⟩
def mX2_draftCode : zRow := (yX2_draftCode, cX2_draftCode, 2, none, 2, 1, false, false)
set_option maxRecDepth 100000 in
theorem kX2_draftCode : zGood mX2_draftCode := ⟨zin2 234 rfl rfl, zin1 2 (by decide +kernel) rfl, by decide +kernel, rfl, by decide +kernel, by show (if _ = true then _ else _); exact ⟨zin2 232 (by decide +kernel) rfl, zin2 233 (by decide +kernel) rfl⟩, by decide⟩
def mX2_isDigit : zRow := (yX2_isDigit, cX2_isDigit, 1, some .boolean, 2, 1, true, false)
set_option maxRecDepth 100000 in
theorem kX2_isDigit : zGood mX2_isDigit := ⟨zin2 226 rfl rfl, zin1 2 (by decide +kernel) rfl, by decide +kernel, rfl, by decide +kernel, by show (if _ = true then _ else _); exact zin2 225 (by decide +kernel) rfl, by decide⟩
set_option maxRecDepth 100000 in
theorem kX2_letterOf : zGood mX2_letterOf := ⟨zin2 237 rfl rfl, zin1 2 (by decide +kernel) rfl, by decide +kernel, rfl, by decide +kernel, by show (if _ = true then _ else _); exact zin2 236 (by decide +kernel) rfl, by decide⟩
def mX2_rankOf : zRow := (yX2_rankOf, cX2_rankOf, 1, some .int, 2, 1, true, false)
set_option maxRecDepth 100000 in
theorem kX2_rankOf : zGood mX2_rankOf := ⟨zin3 95 rfl rfl, zin1 2 (by decide +kernel) rfl, by decide +kernel, rfl, by decide +kernel, by show (if _ = true then _ else _); exact zin3 94 (by decide +kernel) rfl, by decide⟩
def mX2_tell : zRow := (yX2_tell, cX2_tell, 7, none, 2, 6, false, false)
set_option maxRecDepth 100000 in
theorem kX2_tell : zGood mX2_tell := ⟨zin3 144 rfl rfl, zin1 2 (by decide +kernel) rfl, by decide +kernel, rfl, by decide +kernel, by show (if _ = true then _ else _); exact ⟨zin3 142 (by decide +kernel) rfl, zin3 143 (by decide +kernel) rfl⟩, by decide⟩
def mX2_reckon : zRow := (yX2_reckon, cX2_reckon, 4, some .int, 2, 0, false, false)
set_option maxRecDepth 100000 in
theorem kX2_reckon : zGood mX2_reckon := ⟨zin3 148 rfl rfl, zin1 2 (by decide +kernel) rfl, by decide +kernel, rfl, by decide +kernel, by show (if _ = true then _ else _); exact ⟨zin3 146 (by decide +kernel) rfl, zin3 147 (by decide +kernel) rfl⟩, by decide⟩
def mX2_reckonSign : zRow := (yX2_reckonSign, cX2_reckonSign, 3, none, 2, 1, false, false)
set_option maxRecDepth 100000 in
theorem kX2_reckonSign : zGood mX2_reckonSign := ⟨zin3 160 rfl rfl, zin1 2 (by decide +kernel) rfl, by decide +kernel, rfl, by decide +kernel, by show (if _ = true then _ else _); exact ⟨zin3 158 (by decide +kernel) rfl, zin3 159 (by decide +kernel) rfl⟩, by decide⟩
def mX2_joined : zRow := (yX2_joined, cX2_joined, 3, some .int, 2, 3, true, false)
set_option maxRecDepth 100000 in
theorem kX2_joined : zGood mX2_joined := ⟨zin3 163 rfl rfl, zin1 2 (by decide +kernel) rfl, by decide +kernel, rfl, by decide +kernel, by show (if _ = true then _ else _); exact zin3 162 (by decide +kernel) rfl, by decide⟩
def mX2_push : zRow := (yX2_push, cX2_push, 2, none, 2, 1, false, false)
set_option maxRecDepth 100000 in
theorem kX2_push : zGood mX2_push := ⟨zin3 156 rfl rfl, zin1 2 (by decide +kernel) rfl, by decide +kernel, rfl, by decide +kernel, by show (if _ = true then _ else _); exact ⟨zin3 154 (by decide +kernel) rfl, zin3 155 (by decide +kernel) rfl⟩, by decide⟩
def mX2_pop : zRow := (yX2_pop, cX2_pop, 1, some .int, 2, 0, false, false)
set_option maxRecDepth 100000 in
theorem kX2_pop : zGood mX2_pop := ⟨zin3 152 rfl rfl, zin1 2 (by decide +kernel) rfl, by decide +kernel, rfl, by decide +kernel, by show (if _ = true then _ else _); exact ⟨zin3 150 (by decide +kernel) rfl, zin3 151 (by decide +kernel) rfl⟩, by decide⟩
def mX3_begin : zRow := (yX3_begin, cX3_begin, 1, none, 3, 0, false, false)
set_option maxRecDepth 100000 in
theorem kX3_begin : zGood mX3_begin := ⟨zin3 201 rfl rfl, zin1 5 (by decide +kernel) rfl, by decide +kernel, rfl, by decide +kernel, by show (if _ = true then _ else _); exact ⟨zin3 199 (by decide +kernel) rfl, zin3 200 (by decide +kernel) rfl⟩, by decide⟩
def mX3_forgetNames : zRow := (yX3_forgetNames, cX3_forgetNames, 1, none, 3, 0, false, false)
set_option maxRecDepth 100000 in
theorem kX3_forgetNames : zGood mX3_forgetNames := ⟨zin3 210 rfl rfl, zin1 5 (by decide +kernel) rfl, by decide +kernel, rfl, by decide +kernel, by show (if _ = true then _ else _); exact ⟨zin3 208 (by decide +kernel) rfl, zin3 209 (by decide +kernel) rfl⟩, by decide⟩
def mX3_noteHeldAheadOf : zRow := (yX3_noteHeldAheadOf, cX3_noteHeldAheadOf, 5, none, 3, 1, false, false)
set_option maxRecDepth 100000 in
theorem kX3_noteHeldAheadOf : zGood mX3_noteHeldAheadOf := ⟨zin3 227 rfl rfl, zin1 5 (by decide +kernel) rfl, by decide +kernel, rfl, by decide +kernel, by show (if _ = true then _ else _); exact ⟨zin3 225 (by decide +kernel) rfl, zin3 226 (by decide +kernel) rfl⟩, by decide⟩
def mX3_isBetter : zRow := (yX3_isBetter, cX3_isBetter, 4, some .boolean, 3, 3, false, false)
set_option maxRecDepth 100000 in
theorem kX3_isBetter : zGood mX3_isBetter := ⟨zin3 236 rfl rfl, zin1 5 (by decide +kernel) rfl, by decide +kernel, rfl, by decide +kernel, by show (if _ = true then _ else _); exact ⟨zin3 234 (by decide +kernel) rfl, zin3 235 (by decide +kernel) rfl⟩, by decide⟩
def mX3_choose : zRow := (yX3_choose, cX3_choose, 6, some .int, 3, 2, false, false)
set_option maxRecDepth 100000 in
theorem kX3_choose : zGood mX3_choose := ⟨zin3 232 rfl rfl, zin1 5 (by decide +kernel) rfl, by decide +kernel, rfl, by decide +kernel, by show (if _ = true then _ else _); exact ⟨zin3 230 (by decide +kernel) rfl, zin3 231 (by decide +kernel) rfl⟩, by decide⟩
def mX3_chosenFor : zRow := (yX3_chosenFor, cX3_chosenFor, 4, some .int, 3, 2, false, false)
set_option maxRecDepth 100000 in
theorem kX3_chosenFor : zGood mX3_chosenFor := ⟨zin3 223 rfl rfl, zin1 5 (by decide +kernel) rfl, by decide +kernel, rfl, by decide +kernel, by show (if _ = true then _ else _); exact ⟨zin3 221 (by decide +kernel) rfl, zin3 222 (by decide +kernel) rfl⟩, by decide⟩
def mX3_firstHeldAtBirth : zRow := (yX3_firstHeldAtBirth, cX3_firstHeldAtBirth, 4, some .int, 3, 0, false, false)
set_option maxRecDepth 100000 in
theorem kX3_firstHeldAtBirth : zGood mX3_firstHeldAtBirth := ⟨zin3 197 rfl rfl, zin1 5 (by decide +kernel) rfl, by decide +kernel, rfl, by decide +kernel, by show (if _ = true then _ else _); exact ⟨zin3 195 (by decide +kernel) rfl, zin3 196 (by decide +kernel) rfl⟩, by decide⟩
def mX3_nameAll : zRow := (yX3_nameAll, cX3_nameAll, 5, none, 3, 1, false, false)
set_option maxRecDepth 100000 in
theorem kX3_nameAll : zGood mX3_nameAll := ⟨zin4 5 rfl rfl, zin1 5 (by decide +kernel) rfl, by decide +kernel, rfl, by decide +kernel, by show (if _ = true then _ else _); exact ⟨zin4 3 (by decide +kernel) rfl, zin4 4 (by decide +kernel) rfl⟩, by decide⟩
def mX3_namesThatCame : zRow := (yX3_namesThatCame, cX3_namesThatCame, 3, some .int, 3, 0, false, false)
set_option maxRecDepth 100000 in
theorem kX3_namesThatCame : zGood mX3_namesThatCame := ⟨zin4 13 rfl rfl, zin1 5 (by decide +kernel) rfl, by decide +kernel, rfl, by decide +kernel, by show (if _ = true then _ else _); exact ⟨zin4 11 (by decide +kernel) rfl, zin4 12 (by decide +kernel) rfl⟩, by decide⟩
def mX3_sumOfWorths : zRow := (yX3_sumOfWorths, cX3_sumOfWorths, 3, some .int, 3, 0, false, false)
set_option maxRecDepth 100000 in
theorem kX3_sumOfWorths : zGood mX3_sumOfWorths := ⟨zin4 18 rfl rfl, zin1 5 (by decide +kernel) rfl, by decide +kernel, rfl, by decide +kernel, by show (if _ = true then _ else _); exact ⟨zin4 16 (by decide +kernel) rfl, zin4 17 (by decide +kernel) rfl⟩, by decide⟩
def mX3_peopleWithout : zRow := (yX3_peopleWithout, cX3_peopleWithout, 1, some .int, 3, 0, false, false)
set_option maxRecDepth 100000 in
theorem kX3_peopleWithout : zGood mX3_peopleWithout := ⟨zin4 22 rfl rfl, zin1 5 (by decide +kernel) rfl, by decide +kernel, rfl, by decide +kernel, by show (if _ = true then _ else _); exact ⟨zin4 20 (by decide +kernel) rfl, zin4 21 (by decide +kernel) rfl⟩, by decide⟩
def mX3_drawDeaths : zRow := (yX3_drawDeaths, cX3_drawDeaths, 5, some .int, 3, 1, false, false)
set_option maxRecDepth 100000 in
theorem kX3_drawDeaths : zGood mX3_drawDeaths := ⟨zin4 89 rfl rfl, zin1 5 (by decide +kernel) rfl, by decide +kernel, rfl, by decide +kernel, by show (if _ = true then _ else _); exact ⟨zin4 87 (by decide +kernel) rfl, zin4 88 (by decide +kernel) rfl⟩, by decide⟩
def mX4_copyAllButNames : zRow := (yX4_copyAllButNames, cX4_copyAllButNames, 2, none, 4, 1, false, false)
set_option maxRecDepth 100000 in
theorem kX4_copyAllButNames : zGood mX4_copyAllButNames := ⟨zin3 205 rfl rfl, zin1 3 (by decide +kernel) rfl, by decide +kernel, rfl, by decide +kernel, by show (if _ = true then _ else _); exact ⟨zin3 203 (by decide +kernel) rfl, zin3 204 (by decide +kernel) rfl⟩, by decide⟩
def mX4_hasPerson : zRow := (yX4_hasPerson, cX4_hasPerson, 2, some .boolean, 4, 1, false, false)
set_option maxRecDepth 100000 in
theorem kX4_hasPerson : zGood mX4_hasPerson := ⟨zin2 114 rfl rfl, zin1 3 (by decide +kernel) rfl, by decide +kernel, rfl, by decide +kernel, by show (if _ = true then _ else _); exact ⟨zin2 112 (by decide +kernel) rfl, zin2 113 (by decide +kernel) rfl⟩, by decide⟩
def mX4_hasMeeting : zRow := (yX4_hasMeeting, cX4_hasMeeting, 2, some .boolean, 4, 1, false, false)
set_option maxRecDepth 100000 in
theorem kX4_hasMeeting : zGood mX4_hasMeeting := ⟨zin2 179 rfl rfl, zin1 3 (by decide +kernel) rfl, by decide +kernel, rfl, by decide +kernel, by show (if _ = true then _ else _); exact ⟨zin2 177 (by decide +kernel) rfl, zin2 178 (by decide +kernel) rfl⟩, by decide⟩
def mX4_come : zRow := (yX4_come, cX4_come, 6, some .int, 4, 3, false, false)
set_option maxRecDepth 100000 in
theorem kX4_come : zGood mX4_come := ⟨zin2 77 rfl rfl, zin1 3 (by decide +kernel) rfl, by decide +kernel, rfl, by decide +kernel, by show (if _ = true then _ else _); exact ⟨zin2 75 (by decide +kernel) rfl, zin2 76 (by decide +kernel) rfl⟩, by decide⟩
def mX4_placeOf : zRow := (yX4_placeOf, cX4_placeOf, 3, some .int, 4, 1, false, false)
set_option maxRecDepth 100000 in
theorem kX4_placeOf : zGood mX4_placeOf := ⟨zin2 167 rfl rfl, zin1 3 (by decide +kernel) rfl, by decide +kernel, rfl, by decide +kernel, by show (if _ = true then _ else _); exact ⟨zin2 165 (by decide +kernel) rfl, zin2 166 (by decide +kernel) rfl⟩, by decide⟩
def mX4_lives : zRow := (yX4_lives, cX4_lives, 3, some .boolean, 4, 2, false, false)
set_option maxRecDepth 100000 in
theorem kX4_lives : zGood mX4_lives := ⟨zin2 118 rfl rfl, zin1 3 (by decide +kernel) rfl, by decide +kernel, rfl, by decide +kernel, by show (if _ = true then _ else _); exact ⟨zin2 116 (by decide +kernel) rfl, zin2 117 (by decide +kernel) rfl⟩, by decide⟩
def mX4_livingIn : zRow := (yX4_livingIn, cX4_livingIn, 4, some .int, 4, 1, false, false)
set_option maxRecDepth 100000 in
theorem kX4_livingIn : zGood mX4_livingIn := ⟨zin4 81 rfl rfl, zin1 3 (by decide +kernel) rfl, by decide +kernel, rfl, by decide +kernel, by show (if _ = true then _ else _); exact ⟨zin4 79 (by decide +kernel) rfl, zin4 80 (by decide +kernel) rfl⟩, by decide⟩
def mX4_mayMeet : zRow := (yX4_mayMeet, cX4_mayMeet, 4, some .boolean, 4, 3, false, false)
set_option maxRecDepth 100000 in
theorem kX4_mayMeet : zGood mX4_mayMeet := ⟨zin2 110 rfl rfl, zin1 3 (by decide +kernel) rfl, by decide +kernel, rfl, by decide +kernel, by show (if _ = true then _ else _); exact ⟨zin2 108 (by decide +kernel) rfl, zin2 109 (by decide +kernel) rfl⟩, by decide⟩
def mX4_addMeeting : zRow := (yX4_addMeeting, cX4_addMeeting, 6, some .int, 4, 3, false, false)
set_option maxRecDepth 100000 in
theorem kX4_addMeeting : zGood mX4_addMeeting := ⟨zin2 122 rfl rfl, zin1 3 (by decide +kernel) rfl, by decide +kernel, rfl, by decide +kernel, by show (if _ = true then _ else _); exact ⟨zin2 120 (by decide +kernel) rfl, zin2 121 (by decide +kernel) rfl⟩, by decide⟩
def mX4_counts : zRow := (yX4_counts, cX4_counts, 2, some .boolean, 4, 1, false, false)
set_option maxRecDepth 100000 in
theorem kX4_counts : zGood mX4_counts := ⟨zin2 187 rfl rfl, zin1 3 (by decide +kernel) rfl, by decide +kernel, rfl, by decide +kernel, by show (if _ = true then _ else _); exact ⟨zin2 185 (by decide +kernel) rfl, zin2 186 (by decide +kernel) rfl⟩, by decide⟩
def mX4_countsBy : zRow := (yX4_countsBy, cX4_countsBy, 3, some .boolean, 4, 2, false, false)
set_option maxRecDepth 100000 in
theorem kX4_countsBy : zGood mX4_countsBy := ⟨zin3 117 rfl rfl, zin1 3 (by decide +kernel) rfl, by decide +kernel, rfl, by decide +kernel, by show (if _ = true then _ else _); exact ⟨zin3 115 (by decide +kernel) rfl, zin3 116 (by decide +kernel) rfl⟩, by decide⟩
def mX4_learnUpTo : zRow := (yX4_learnUpTo, cX4_learnUpTo, 3, none, 4, 1, false, false)
set_option maxRecDepth 100000 in
theorem kX4_learnUpTo : zGood mX4_learnUpTo := ⟨zin3 109 rfl rfl, zin1 3 (by decide +kernel) rfl, by decide +kernel, rfl, by decide +kernel, by show (if _ = true then _ else _); exact ⟨zin3 107 (by decide +kernel) rfl, zin3 108 (by decide +kernel) rfl⟩, by decide⟩
def mX4_knowOneself : zRow := (yX4_knowOneself, cX4_knowOneself, 2, none, 4, 0, false, false)
set_option maxRecDepth 100000 in
theorem kX4_knowOneself : zGood mX4_knowOneself := ⟨zin3 113 rfl rfl, zin1 3 (by decide +kernel) rfl, by decide +kernel, rfl, by decide +kernel, by show (if _ = true then _ else _); exact ⟨zin3 111 (by decide +kernel) rfl, zin3 112 (by decide +kernel) rfl⟩, by decide⟩
def mX4_greet : zRow := (yX4_greet, cX4_greet, 6, none, 4, 1, false, false)
set_option maxRecDepth 100000 in
theorem kX4_greet : zGood mX4_greet := ⟨zin3 122 rfl rfl, zin1 3 (by decide +kernel) rfl, by decide +kernel, rfl, by decide +kernel, by show (if _ = true then _ else _); exact ⟨zin3 120 (by decide +kernel) rfl, zin3 121 (by decide +kernel) rfl⟩, by decide⟩
def mX4_bearersOf : zRow := (yX4_bearersOf, cX4_bearersOf, 4, some .int, 4, 1, false, false)
set_option maxRecDepth 100000 in
theorem kX4_bearersOf : zGood mX4_bearersOf := ⟨zin2 175 rfl rfl, zin1 3 (by decide +kernel) rfl, by decide +kernel, rfl, by decide +kernel, by show (if _ = true then _ else _); exact ⟨zin2 173 (by decide +kernel) rfl, zin2 174 (by decide +kernel) rfl⟩, by decide⟩
def mX4_namedPeople : zRow := (yX4_namedPeople, cX4_namedPeople, 3, some .int, 4, 0, false, false)
set_option maxRecDepth 100000 in
theorem kX4_namedPeople : zGood mX4_namedPeople := ⟨zin4 26 rfl rfl, zin1 3 (by decide +kernel) rfl, by decide +kernel, rfl, by decide +kernel, by show (if _ = true then _ else _); exact ⟨zin4 24 (by decide +kernel) rfl, zin4 25 (by decide +kernel) rfl⟩, by decide⟩
def mX4_isBearer : zRow := (yX4_isBearer, cX4_isBearer, 4, some .boolean, 4, 3, false, false)
set_option maxRecDepth 100000 in
theorem kX4_isBearer : zGood mX4_isBearer := ⟨zin3 171 rfl rfl, zin1 3 (by decide +kernel) rfl, by decide +kernel, rfl, by decide +kernel, by show (if _ = true then _ else _); exact ⟨zin3 169 (by decide +kernel) rfl, zin3 170 (by decide +kernel) rfl⟩, by decide⟩
def mX4_isFamed : zRow := (yX4_isFamed, cX4_isFamed, 4, some .boolean, 4, 2, false, false)
set_option maxRecDepth 100000 in
theorem kX4_isFamed : zGood mX4_isFamed := ⟨zin4 38 rfl rfl, zin1 3 (by decide +kernel) rfl, by decide +kernel, rfl, by decide +kernel, by show (if _ = true then _ else _); exact ⟨zin4 36 (by decide +kernel) rfl, zin4 37 (by decide +kernel) rfl⟩, by decide⟩
def mX4_livesKnowing : zRow := (yX4_livesKnowing, cX4_livesKnowing, 4, some .boolean, 4, 3, false, false)
set_option maxRecDepth 100000 in
theorem kX4_livesKnowing : zGood mX4_livesKnowing := ⟨zin3 135 rfl rfl, zin1 3 (by decide +kernel) rfl, by decide +kernel, rfl, by decide +kernel, by show (if _ = true then _ else _); exact ⟨zin3 133 (by decide +kernel) rfl, zin3 134 (by decide +kernel) rfl⟩, by decide⟩
def mX4_wouldHold : zRow := (yX4_wouldHold, cX4_wouldHold, 7, some .boolean, 4, 3, false, false)
set_option maxRecDepth 100000 in
theorem kX4_wouldHold : zGood mX4_wouldHold := ⟨zin3 139 rfl rfl, zin1 3 (by decide +kernel) rfl, by decide +kernel, rfl, by decide +kernel, by show (if _ = true then _ else _); exact ⟨zin3 137 (by decide +kernel) rfl, zin3 138 (by decide +kernel) rfl⟩, by decide⟩
def mX4_holdersOf : zRow := (yX4_holdersOf, cX4_holdersOf, 6, some .int, 4, 2, false, false)
set_option maxRecDepth 100000 in
theorem kX4_holdersOf : zGood mX4_holdersOf := ⟨zin3 167 rfl rfl, zin1 3 (by decide +kernel) rfl, by decide +kernel, rfl, by decide +kernel, by show (if _ = true then _ else _); exact ⟨zin3 165 (by decide +kernel) rfl, zin3 166 (by decide +kernel) rfl⟩, by decide⟩
def mX4_heldIn : zRow := (yX4_heldIn, cX4_heldIn, 7, some .int, 4, 1, false, false)
set_option maxRecDepth 100000 in
theorem kX4_heldIn : zGood mX4_heldIn := ⟨zin3 130 rfl rfl, zin1 3 (by decide +kernel) rfl, by decide +kernel, rfl, by decide +kernel, by show (if _ = true then _ else _); exact ⟨zin3 128 (by decide +kernel) rfl, zin3 129 (by decide +kernel) rfl⟩, by decide⟩
def mX5_fewest : zRow := (yX5_fewest, cX5_fewest, 3, some .int, 5, 2, false, false)
set_option maxRecDepth 100000 in
theorem kX5_fewest : zGood mX5_fewest := ⟨zin4 34 rfl rfl, zin1 6 (by decide +kernel) rfl, by decide +kernel, rfl, by decide +kernel, by show (if _ = true then _ else _); exact ⟨zin4 32 (by decide +kernel) rfl, zin4 33 (by decide +kernel) rfl⟩, by decide⟩
def mX5_noteWhoHolds : zRow := (yX5_noteWhoHolds, cX5_noteWhoHolds, 4, some .boolean, 5, 1, false, false)
set_option maxRecDepth 100000 in
theorem kX5_noteWhoHolds : zGood mX5_noteWhoHolds := ⟨zin4 42 rfl rfl, zin1 6 (by decide +kernel) rfl, by decide +kernel, rfl, by decide +kernel, by show (if _ = true then _ else _); exact ⟨zin4 40 (by decide +kernel) rfl, zin4 41 (by decide +kernel) rfl⟩, by decide⟩
def mX5_seek : zRow := (yX5_seek, cX5_seek, 7, none, 5, 3, false, false)
set_option maxRecDepth 100000 in
theorem kX5_seek : zGood mX5_seek := ⟨zin4 49 rfl rfl, zin1 6 (by decide +kernel) rfl, by decide +kernel, rfl, by decide +kernel, by show (if _ = true then _ else _); exact ⟨zin4 47 (by decide +kernel) rfl, zin4 48 (by decide +kernel) rfl⟩, by decide⟩
def mX5_chainWithout : zRow := (yX5_chainWithout, cX5_chainWithout, 5, some .int, 5, 1, false, false)
set_option maxRecDepth 100000 in
theorem kX5_chainWithout : zGood mX5_chainWithout := ⟨zin4 53 rfl rfl, zin1 6 (by decide +kernel) rfl, by decide +kernel, rfl, by decide +kernel, by show (if _ = true then _ else _); exact ⟨zin4 51 (by decide +kernel) rfl, zin4 52 (by decide +kernel) rfl⟩, by decide⟩
def mX5_greetAndNote : zRow := (yX5_greetAndNote, cX5_greetAndNote, 6, none, 5, 1, false, false)
set_option maxRecDepth 100000 in
theorem kX5_greetAndNote : zGood mX5_greetAndNote := ⟨zin4 59 rfl rfl, zin1 6 (by decide +kernel) rfl, by decide +kernel, rfl, by decide +kernel, by show (if _ = true then _ else _); exact ⟨zin4 57 (by decide +kernel) rfl, zin4 58 (by decide +kernel) rfl⟩, by decide⟩
def mX5_noteLearnt : zRow := (yX5_noteLearnt, cX5_noteLearnt, 5, none, 5, 3, false, false)
set_option maxRecDepth 100000 in
theorem kX5_noteLearnt : zGood mX5_noteLearnt := ⟨zin4 64 rfl rfl, zin1 6 (by decide +kernel) rfl, by decide +kernel, rfl, by decide +kernel, by show (if _ = true then _ else _); exact ⟨zin4 62 (by decide +kernel) rfl, zin4 63 (by decide +kernel) rfl⟩, by decide⟩
def mX5_chainOf : zRow := (yX5_chainOf, cX5_chainOf, 7, some .int, 5, 2, false, false)
set_option maxRecDepth 100000 in
theorem kX5_chainOf : zGood mX5_chainOf := ⟨zin4 68 rfl rfl, zin1 6 (by decide +kernel) rfl, by decide +kernel, rfl, by decide +kernel, by show (if _ = true then _ else _); exact ⟨zin4 66 (by decide +kernel) rfl, zin4 67 (by decide +kernel) rfl⟩, by decide⟩
def mX6_isRow : zRow := (yX6_isRow, cX6_isRow, 1, some .boolean, 6, 0, false, false)
set_option maxRecDepth 100000 in
theorem kX6_isRow : zGood mX6_isRow := ⟨zin2 92 rfl rfl, zin1 9 (by decide +kernel) rfl, by decide +kernel, rfl, by decide +kernel, by show (if _ = true then _ else _); exact ⟨zin2 90 (by decide +kernel) rfl, zin2 91 (by decide +kernel) rfl⟩, by decide⟩
def mX6_isEmpty : zRow := (yX6_isEmpty, cX6_isEmpty, 1, some .boolean, 6, 0, false, false)
set_option maxRecDepth 100000 in
theorem kX6_isEmpty : zGood mX6_isEmpty := ⟨zin2 88 rfl rfl, zin1 9 (by decide +kernel) rfl, by decide +kernel, rfl, by decide +kernel, by show (if _ = true then _ else _); exact ⟨zin2 86 (by decide +kernel) rfl, zin2 87 (by decide +kernel) rfl⟩, by decide⟩
def mX6_holdBody : zRow := (yX6_holdBody, cX6_holdBody, 2, none, 6, 1, false, false)
set_option maxRecDepth 100000 in
theorem kX6_holdBody : zGood mX6_holdBody := ⟨zin4 185 rfl rfl, zin1 9 (by decide +kernel) rfl, by decide +kernel, rfl, by decide +kernel, by show (if _ = true then _ else _); exact ⟨zin4 183 (by decide +kernel) rfl, zin4 184 (by decide +kernel) rfl⟩, by decide⟩
def mX6_holdRow : zRow := (yX6_holdRow, cX6_holdRow, 3, none, 6, 2, false, false)
set_option maxRecDepth 100000 in
theorem kX6_holdRow : zGood mX6_holdRow := ⟨zin4 193 rfl rfl, zin1 9 (by decide +kernel) rfl, by decide +kernel, rfl, by decide +kernel, by show (if _ = true then _ else _); exact ⟨zin4 191 (by decide +kernel) rfl, zin4 192 (by decide +kernel) rfl⟩, by decide⟩
def mX6_hasPlaces : zRow := (yX6_hasPlaces, cX6_hasPlaces, 3, some .boolean, 6, 2, false, false)
set_option maxRecDepth 100000 in
theorem kX6_hasPlaces : zGood mX6_hasPlaces := ⟨zin4 208 rfl rfl, zin1 9 (by decide +kernel) rfl, by decide +kernel, rfl, by decide +kernel, by show (if _ = true then _ else _); exact ⟨zin4 206 (by decide +kernel) rfl, zin4 207 (by decide +kernel) rfl⟩, by decide⟩
def mX6_setElement : zRow := (yX6_setElement, cX6_setElement, 4, none, 6, 2, false, false)
set_option maxRecDepth 100000 in
theorem kX6_setElement : zGood mX6_setElement := ⟨zin4 212 rfl rfl, zin1 9 (by decide +kernel) rfl, by decide +kernel, rfl, by decide +kernel, by show (if _ = true then _ else _); exact ⟨zin4 210 (by decide +kernel) rfl, zin4 211 (by decide +kernel) rfl⟩, by decide⟩
def mX6_lowestBits : zRow := (yX6_lowestBits, cX6_lowestBits, 3, some .long, 6, 1, false, false)
set_option maxRecDepth 100000 in
theorem kX6_lowestBits : zGood mX6_lowestBits := ⟨zin4 217 rfl rfl, zin1 9 (by decide +kernel) rfl, by decide +kernel, rfl, by decide +kernel, by show (if _ = true then _ else _); exact ⟨zin4 215 (by decide +kernel) rfl, zin4 216 (by decide +kernel) rfl⟩, by decide⟩
def mX7_person : zRow := (yX7_person, cX7_person, 3, some .int, 7, 2, false, false)
set_option maxRecDepth 100000 in
theorem kX7_person : zGood mX7_person := ⟨zin2 67 rfl rfl, zin1 1 (by decide +kernel) rfl, by decide +kernel, rfl, by decide +kernel, by show (if _ = true then _ else _); exact ⟨zin2 65 (by decide +kernel) rfl, zin2 66 (by decide +kernel) rfl⟩, by decide⟩
def mX7_people : zRow := (yX7_people, cX7_people, 6, some .int, 7, 3, false, false)
set_option maxRecDepth 100000 in
theorem kX7_people : zGood mX7_people := ⟨zin2 81 rfl rfl, zin1 1 (by decide +kernel) rfl, by decide +kernel, rfl, by decide +kernel, by show (if _ = true then _ else _); exact ⟨zin2 79 (by decide +kernel) rfl, zin2 80 (by decide +kernel) rfl⟩, by decide⟩
def mX7_meet : zRow := (yX7_meet, cX7_meet, 3, some .int, 7, 2, false, false)
set_option maxRecDepth 100000 in
theorem kX7_meet : zGood mX7_meet := ⟨zin2 106 rfl rfl, zin1 1 (by decide +kernel) rfl, by decide +kernel, rfl, by decide +kernel, by show (if _ = true then _ else _); exact ⟨zin2 104 (by decide +kernel) rfl, zin2 105 (by decide +kernel) rfl⟩, by decide⟩
def mX7_hearing : zRow := (yX7_hearing, cX7_hearing, 3, some .int, 7, 1, false, false)
set_option maxRecDepth 100000 in
theorem kX7_hearing : zGood mX7_hearing := ⟨zin2 126 rfl rfl, zin1 1 (by decide +kernel) rfl, by decide +kernel, rfl, by decide +kernel, by show (if _ = true then _ else _); exact ⟨zin2 124 (by decide +kernel) rfl, zin2 125 (by decide +kernel) rfl⟩, by decide⟩
def mX7_name : zRow := (yX7_name, cX7_name, 4, some .int, 7, 2, false, false)
set_option maxRecDepth 100000 in
theorem kX7_name : zGood mX7_name := ⟨zin2 130 rfl rfl, zin1 1 (by decide +kernel) rfl, by decide +kernel, rfl, by decide +kernel, by show (if _ = true then _ else _); exact ⟨zin2 128 (by decide +kernel) rfl, zin2 129 (by decide +kernel) rfl⟩, by decide⟩
def mX7_fame : zRow := (yX7_fame, cX7_fame, 4, some .int, 7, 2, false, false)
set_option maxRecDepth 100000 in
theorem kX7_fame : zGood mX7_fame := ⟨zin2 136 rfl rfl, zin1 1 (by decide +kernel) rfl, by decide +kernel, rfl, by decide +kernel, by show (if _ = true then _ else _); exact ⟨zin2 134 (by decide +kernel) rfl, zin2 135 (by decide +kernel) rfl⟩, by decide⟩
def mX7_mend : zRow := (yX7_mend, cX7_mend, 6, some .int, 7, 3, false, false)
set_option maxRecDepth 100000 in
theorem kX7_mend : zGood mX7_mend := ⟨zin2 140 rfl rfl, zin1 1 (by decide +kernel) rfl, by decide +kernel, rfl, by decide +kernel, by show (if _ = true then _ else _); exact ⟨zin2 138 (by decide +kernel) rfl, zin2 139 (by decide +kernel) rfl⟩, by decide⟩
def mX7_of : zRow := (yX7_of, cX7_of, 3, some .int, 7, 2, false, false)
set_option maxRecDepth 100000 in
theorem kX7_of : zGood mX7_of := ⟨zin2 159 rfl rfl, zin1 1 (by decide +kernel) rfl, by decide +kernel, rfl, by decide +kernel, by show (if _ = true then _ else _); exact ⟨zin2 157 (by decide +kernel) rfl, zin2 158 (by decide +kernel) rfl⟩, by decide⟩
def mX7_feed : zRow := (yX7_feed, cX7_feed, 2, some .int, 7, 1, false, false)
set_option maxRecDepth 100000 in
theorem kX7_feed : zGood mX7_feed := ⟨zin2 191 rfl rfl, zin1 1 (by decide +kernel) rfl, by decide +kernel, rfl, by decide +kernel, by show (if _ = true then _ else _); exact ⟨zin2 189 (by decide +kernel) rfl, zin2 190 (by decide +kernel) rfl⟩, by decide⟩
def mX7_law : zRow := (yX7_law, cX7_law, 2, some .int, 7, 0, false, false)
set_option maxRecDepth 100000 in
theorem kX7_law : zGood mX7_law := ⟨zin2 199 rfl rfl, zin1 1 (by decide +kernel) rfl, by decide +kernel, rfl, by decide +kernel, by show (if _ = true then _ else _); exact ⟨zin2 197 (by decide +kernel) rfl, zin2 198 (by decide +kernel) rfl⟩, by decide⟩
def mX7_knows : zRow := (yX7_knows, cX7_knows, 3, some .int, 7, 2, false, false)
set_option maxRecDepth 100000 in
theorem kX7_knows : zGood mX7_knows := ⟨zin3 105 rfl rfl, zin1 1 (by decide +kernel) rfl, by decide +kernel, rfl, by decide +kernel, by show (if _ = true then _ else _); exact ⟨zin3 103 (by decide +kernel) rfl, zin3 104 (by decide +kernel) rfl⟩, by decide⟩
def mX7_held : zRow := (yX7_held, cX7_held, 4, some .int, 7, 3, false, false)
set_option maxRecDepth 100000 in
theorem kX7_held : zGood mX7_held := ⟨zin3 126 rfl rfl, zin1 1 (by decide +kernel) rfl, by decide +kernel, rfl, by decide +kernel, by show (if _ = true then _ else _); exact ⟨zin3 124 (by decide +kernel) rfl, zin3 125 (by decide +kernel) rfl⟩, by decide⟩
def mX7_free : zRow := (yX7_free, cX7_free, 2, some .int, 7, 1, false, false)
set_option maxRecDepth 100000 in
theorem kX7_free : zGood mX7_free := ⟨zin3 179 rfl rfl, zin1 1 (by decide +kernel) rfl, by decide +kernel, rfl, by decide +kernel, by show (if _ = true then _ else _); exact ⟨zin3 177 (by decide +kernel) rfl, zin3 178 (by decide +kernel) rfl⟩, by decide⟩
def mX7_most : zRow := (yX7_most, cX7_most, 6, some .int, 7, 1, false, false)
set_option maxRecDepth 100000 in
theorem kX7_most : zGood mX7_most := ⟨zin3 183 rfl rfl, zin1 1 (by decide +kernel) rfl, by decide +kernel, rfl, by decide +kernel, by show (if _ = true then _ else _); exact ⟨zin3 181 (by decide +kernel) rfl, zin3 182 (by decide +kernel) rfl⟩, by decide⟩
def mX7_judge : zRow := (yX7_judge, cX7_judge, 1, some .int, 7, 0, false, false)
set_option maxRecDepth 100000 in
theorem kX7_judge : zGood mX7_judge := ⟨zin3 193 rfl rfl, zin1 1 (by decide +kernel) rfl, by decide +kernel, rfl, by decide +kernel, by show (if _ = true then _ else _); exact ⟨zin3 191 (by decide +kernel) rfl, zin3 192 (by decide +kernel) rfl⟩, by decide⟩
def mX7_give : zRow := (yX7_give, cX7_give, 4, some .int, 7, 2, false, false)
set_option maxRecDepth 100000 in
theorem kX7_give : zGood mX7_give := ⟨zin3 216 rfl rfl, zin1 1 (by decide +kernel) rfl, by decide +kernel, rfl, by decide +kernel, by show (if _ = true then _ else _); exact ⟨zin3 214 (by decide +kernel) rfl, zin3 215 (by decide +kernel) rfl⟩, by decide⟩
def mX7_run : zRow := (yX7_run, cX7_run, 4, some .int, 7, 2, false, false)
set_option maxRecDepth 100000 in
theorem kX7_run : zGood mX7_run := ⟨zin4 0 rfl rfl, zin1 1 (by decide +kernel) rfl, by decide +kernel, rfl, by decide +kernel, by show (if _ = true then _ else _); exact ⟨zin3 238 (by decide +kernel) rfl, zin3 239 (by decide +kernel) rfl⟩, by decide⟩
def mX7_used : zRow := (yX7_used, cX7_used, 3, some .int, 7, 2, false, false)
set_option maxRecDepth 100000 in
theorem kX7_used : zGood mX7_used := ⟨zin4 9 rfl rfl, zin1 1 (by decide +kernel) rfl, by decide +kernel, rfl, by decide +kernel, by show (if _ = true then _ else _); exact ⟨zin4 7 (by decide +kernel) rfl, zin4 8 (by decide +kernel) rfl⟩, by decide⟩
def mX7_apart : zRow := (yX7_apart, cX7_apart, 3, some .int, 7, 2, false, false)
set_option maxRecDepth 100000 in
theorem kX7_apart : zGood mX7_apart := ⟨zin4 30 rfl rfl, zin1 1 (by decide +kernel) rfl, by decide +kernel, rfl, by decide +kernel, by show (if _ = true then _ else _); exact ⟨zin4 28 (by decide +kernel) rfl, zin4 29 (by decide +kernel) rfl⟩, by decide⟩
def mX7_freed : zRow := (yX7_freed, cX7_freed, 5, some .int, 7, 2, false, false)
set_option maxRecDepth 100000 in
theorem kX7_freed : zGood mX7_freed := ⟨zin4 72 rfl rfl, zin1 1 (by decide +kernel) rfl, by decide +kernel, rfl, by decide +kernel, by show (if _ = true then _ else _); exact ⟨zin4 70 (by decide +kernel) rfl, zin4 71 (by decide +kernel) rfl⟩, by decide⟩
def mX7_never : zRow := (yX7_never, cX7_never, 5, some .int, 7, 1, false, false)
set_option maxRecDepth 100000 in
theorem kX7_never : zGood mX7_never := ⟨zin4 77 rfl rfl, zin1 1 (by decide +kernel) rfl, by decide +kernel, rfl, by decide +kernel, by show (if _ = true then _ else _); exact ⟨zin4 75 (by decide +kernel) rfl, zin4 76 (by decide +kernel) rfl⟩, by decide⟩
def mX7_needs : zRow := (yX7_needs, cX7_needs, 8, some .int, 7, 3, false, false)
set_option maxRecDepth 100000 in
theorem kX7_needs : zGood mX7_needs := ⟨zin4 85 rfl rfl, zin1 1 (by decide +kernel) rfl, by decide +kernel, rfl, by decide +kernel, by show (if _ = true then _ else _); exact ⟨zin4 83 (by decide +kernel) rfl, zin4 84 (by decide +kernel) rfl⟩, by decide⟩
def mX7_image : zRow := (yX7_image, cX7_image, 1, some .int, 7, 0, false, false)
set_option maxRecDepth 100000 in
theorem kX7_image : zGood mX7_image := ⟨zin4 95 rfl rfl, zin1 1 (by decide +kernel) rfl, by decide +kernel, rfl, by decide +kernel, by show (if _ = true then _ else _); exact ⟨zin4 93 (by decide +kernel) rfl, zin4 94 (by decide +kernel) rfl⟩, by decide⟩
def mX7_back : zRow := (yX7_back, cX7_back, 1, some .int, 7, 0, false, false)
set_option maxRecDepth 100000 in
theorem kX7_back : zGood mX7_back := ⟨zin4 100 rfl rfl, zin1 1 (by decide +kernel) rfl, by decide +kernel, rfl, by decide +kernel, by show (if _ = true then _ else _); exact ⟨zin4 98 (by decide +kernel) rfl, zin4 99 (by decide +kernel) rfl⟩, by decide⟩
def mX7_undo : zRow := (yX7_undo, cX7_undo, 1, some .int, 7, 0, false, false)
set_option maxRecDepth 100000 in
theorem kX7_undo : zGood mX7_undo := ⟨zin4 104 rfl rfl, zin1 1 (by decide +kernel) rfl, by decide +kernel, rfl, by decide +kernel, by show (if _ = true then _ else _); exact ⟨zin4 102 (by decide +kernel) rfl, zin4 103 (by decide +kernel) rfl⟩, by decide⟩
def mX7_redo : zRow := (yX7_redo, cX7_redo, 1, some .int, 7, 0, false, false)
set_option maxRecDepth 100000 in
theorem kX7_redo : zGood mX7_redo := ⟨zin4 116 rfl rfl, zin1 1 (by decide +kernel) rfl, by decide +kernel, rfl, by decide +kernel, by show (if _ = true then _ else _); exact ⟨zin4 114 (by decide +kernel) rfl, zin4 115 (by decide +kernel) rfl⟩, by decide⟩
def mX7_body : zRow := (yX7_body, cX7_body, 2, some .int, 7, 1, false, false)
set_option maxRecDepth 100000 in
theorem kX7_body : zGood mX7_body := ⟨zin4 128 rfl rfl, zin1 1 (by decide +kernel) rfl, by decide +kernel, rfl, by decide +kernel, by show (if _ = true then _ else _); exact ⟨zin4 126 (by decide +kernel) rfl, zin4 127 (by decide +kernel) rfl⟩, by decide⟩
def mX7_act : zRow := (yX7_act, cX7_act, 4, some .int, 7, 3, false, false)
set_option maxRecDepth 100000 in
theorem kX7_act : zGood mX7_act := ⟨zin4 139 rfl rfl, zin1 1 (by decide +kernel) rfl, by decide +kernel, rfl, by decide +kernel, by show (if _ = true then _ else _); exact ⟨zin4 137 (by decide +kernel) rfl, zin4 138 (by decide +kernel) rfl⟩, by decide⟩
def mX7_trace : zRow := (yX7_trace, cX7_trace, 2, some .int, 7, 1, false, false)
set_option maxRecDepth 100000 in
theorem kX7_trace : zGood mX7_trace := ⟨zin4 171 rfl rfl, zin1 1 (by decide +kernel) rfl, by decide +kernel, rfl, by decide +kernel, by show (if _ = true then _ else _); exact ⟨zin4 169 (by decide +kernel) rfl, zin4 170 (by decide +kernel) rfl⟩, by decide⟩
def mX7_keep : zRow := (yX7_keep, cX7_keep, 3, some .int, 7, 2, false, false)
set_option maxRecDepth 100000 in
theorem kX7_keep : zGood mX7_keep := ⟨zin4 180 rfl rfl, zin1 1 (by decide +kernel) rfl, by decide +kernel, rfl, by decide +kernel, by show (if _ = true then _ else _); exact ⟨zin4 178 (by decide +kernel) rfl, zin4 179 (by decide +kernel) rfl⟩, by decide⟩
def mX7_row : zRow := (yX7_row, cX7_row, 4, some .int, 7, 3, false, false)
set_option maxRecDepth 100000 in
theorem kX7_row : zGood mX7_row := ⟨zin4 189 rfl rfl, zin1 1 (by decide +kernel) rfl, by decide +kernel, rfl, by decide +kernel, by show (if _ = true then _ else _); exact ⟨zin4 187 (by decide +kernel) rfl, zin4 188 (by decide +kernel) rfl⟩, by decide⟩
def mX7_put : zRow := (yX7_put, cX7_put, 6, some .int, 7, 3, false, false)
set_option maxRecDepth 100000 in
theorem kX7_put : zGood mX7_put := ⟨zin4 200 rfl rfl, zin1 1 (by decide +kernel) rfl, by decide +kernel, rfl, by decide +kernel, by show (if _ = true then _ else _); exact ⟨zin4 198 (by decide +kernel) rfl, zin4 199 (by decide +kernel) rfl⟩, by decide⟩
def mX7_element : zRow := (yX7_element, cX7_element, 3, some .long, 7, 2, false, false)
set_option maxRecDepth 100000 in
theorem kX7_element : zGood mX7_element := ⟨zin4 221 rfl rfl, zin1 1 (by decide +kernel) rfl, by decide +kernel, rfl, by decide +kernel, by show (if _ = true then _ else _); exact ⟨zin4 219 (by decide +kernel) rfl, zin4 220 (by decide +kernel) rfl⟩, by decide⟩
def mX7_shift : zRow := (yX7_shift, cX7_shift, 8, some .int, 7, 5, false, false)
set_option maxRecDepth 100000 in
theorem kX7_shift : zGood mX7_shift := ⟨zin4 226 rfl rfl, zin1 1 (by decide +kernel) rfl, by decide +kernel, rfl, by decide +kernel, by show (if _ = true then _ else _); exact ⟨zin4 224 (by decide +kernel) rfl, zin4 225 (by decide +kernel) rfl⟩, by decide⟩
def mX7_taken : zRow := (yX7_taken, cX7_taken, 5, some .int, 7, 2, false, false)
set_option maxRecDepth 100000 in
theorem kX7_taken : zGood mX7_taken := ⟨zin4 230 rfl rfl, zin1 1 (by decide +kernel) rfl, by decide +kernel, rfl, by decide +kernel, by show (if _ = true then _ else _); exact ⟨zin4 228 (by decide +kernel) rfl, zin4 229 (by decide +kernel) rfl⟩, by decide⟩
def mX7_count : zRow := (yX7_count, cX7_count, 2, some .int, 7, 1, false, false)
set_option maxRecDepth 100000 in
theorem kX7_count : zGood mX7_count := ⟨zin4 237 rfl rfl, zin1 1 (by decide +kernel) rfl, by decide +kernel, rfl, by decide +kernel, by show (if _ = true then _ else _); exact ⟨zin4 235 (by decide +kernel) rfl, zin4 236 (by decide +kernel) rfl⟩, by decide⟩
def mX7_isYear : zRow := (yX7_isYear, cX7_isYear, 1, some .boolean, 7, 1, true, false)
set_option maxRecDepth 100000 in
theorem kX7_isYear : zGood mX7_isYear := ⟨zin2 73 rfl rfl, zin1 1 (by decide +kernel) rfl, by decide +kernel, rfl, by decide +kernel, by show (if _ = true then _ else _); exact zin2 72 (by decide +kernel) rfl, by decide⟩
def mX7_isName : zRow := (yX7_isName, cX7_isName, 1, some .boolean, 7, 1, true, false)
set_option maxRecDepth 100000 in
theorem kX7_isName : zGood mX7_isName := ⟨zin2 102 rfl rfl, zin1 1 (by decide +kernel) rfl, by decide +kernel, rfl, by decide +kernel, by show (if _ = true then _ else _); exact zin2 101 (by decide +kernel) rfl, by decide⟩
def mX7_isWay : zRow := (yX7_isWay, cX7_isWay, 1, some .boolean, 7, 1, true, false)
set_option maxRecDepth 100000 in
theorem kX7_isWay : zGood mX7_isWay := ⟨zin3 219 rfl rfl, zin1 1 (by decide +kernel) rfl, by decide +kernel, rfl, by decide +kernel, by show (if _ = true then _ else _); exact zin3 218 (by decide +kernel) rfl, by decide⟩
def mX7_isShelf : zRow := (yX7_isShelf, cX7_isShelf, 1, some .boolean, 7, 1, true, false)
set_option maxRecDepth 100000 in
theorem kX7_isShelf : zGood mX7_isShelf := ⟨zin2 84 rfl rfl, zin1 1 (by decide +kernel) rfl, by decide +kernel, rfl, by decide +kernel, by show (if _ = true then _ else _); exact zin2 83 (by decide +kernel) rfl, by decide⟩
def mX7_isKind : zRow := (yX7_isKind, cX7_isKind, 1, some .boolean, 7, 1, true, false)
set_option maxRecDepth 100000 in
theorem kX7_isKind : zGood mX7_isKind := ⟨zin4 131 rfl rfl, zin1 1 (by decide +kernel) rfl, by decide +kernel, rfl, by decide +kernel, by show (if _ = true then _ else _); exact zin4 130 (by decide +kernel) rfl, by decide⟩
def mX7_mayLive : zRow := (yX7_mayLive, cX7_mayLive, 2, some .boolean, 7, 2, true, false)
set_option maxRecDepth 100000 in
theorem kX7_mayLive : zGood mX7_mayLive := ⟨zin2 70 rfl rfl, zin1 1 (by decide +kernel) rfl, by decide +kernel, rfl, by decide +kernel, by show (if _ = true then _ else _); exact zin2 69 (by decide +kernel) rfl, by decide⟩
def mX7_mayBeNamed : zRow := (yX7_mayBeNamed, cX7_mayBeNamed, 1, some .boolean, 7, 1, true, false)
set_option maxRecDepth 100000 in
theorem kX7_mayBeNamed : zGood mX7_mayBeNamed := ⟨zin2 99 rfl rfl, zin1 1 (by decide +kernel) rfl, by decide +kernel, rfl, by decide +kernel, by show (if _ = true then _ else _); exact zin2 98 (by decide +kernel) rfl, by decide⟩
def mX7_mayMend : zRow := (yX7_mayMend, cX7_mayMend, 4, some .boolean, 7, 3, false, false)
set_option maxRecDepth 100000 in
theorem kX7_mayMend : zGood mX7_mayMend := ⟨zin2 144 rfl rfl, zin1 1 (by decide +kernel) rfl, by decide +kernel, rfl, by decide +kernel, by show (if _ = true then _ else _); exact ⟨zin2 143 (by decide +kernel) rfl, zinP 1 (by decide +kernel) rfl⟩, by decide⟩
def mX7_comesFrom : zRow := (yX7_comesFrom, cX7_comesFrom, 8, some .boolean, 7, 3, false, false)
set_option maxRecDepth 100000 in
theorem kX7_comesFrom : zGood mX7_comesFrom := ⟨zin2 96 rfl rfl, zin1 1 (by decide +kernel) rfl, by decide +kernel, rfl, by decide +kernel, by show (if _ = true then _ else _); exact ⟨zin2 95 (by decide +kernel) rfl, zinP 0 (by decide +kernel) rfl⟩, by decide⟩
def mX7_ofPerson : zRow := (yX7_ofPerson, cX7_ofPerson, 3, some .int, 7, 2, false, false)
set_option maxRecDepth 100000 in
theorem kX7_ofPerson : zGood mX7_ofPerson := ⟨zin2 163 rfl rfl, zin1 1 (by decide +kernel) rfl, by decide +kernel, rfl, by decide +kernel, by show (if _ = true then _ else _); exact ⟨zin2 162 (by decide +kernel) rfl, zinP 2 (by decide +kernel) rfl⟩, by decide⟩
def mX7_ofName : zRow := (yX7_ofName, cX7_ofName, 3, some .int, 7, 2, false, false)
set_option maxRecDepth 100000 in
theorem kX7_ofName : zGood mX7_ofName := ⟨zin2 171 rfl rfl, zin1 1 (by decide +kernel) rfl, by decide +kernel, rfl, by decide +kernel, by show (if _ = true then _ else _); exact ⟨zin2 170 (by decide +kernel) rfl, zinP 3 (by decide +kernel) rfl⟩, by decide⟩
def mX7_ofMeeting : zRow := (yX7_ofMeeting, cX7_ofMeeting, 3, some .int, 7, 2, false, false)
set_option maxRecDepth 100000 in
theorem kX7_ofMeeting : zGood mX7_ofMeeting := ⟨zin2 183 rfl rfl, zin1 1 (by decide +kernel) rfl, by decide +kernel, rfl, by decide +kernel, by show (if _ = true then _ else _); exact ⟨zin2 182 (by decide +kernel) rfl, zinP 4 (by decide +kernel) rfl⟩, by decide⟩
def mX7_heldTill : zRow := (yX7_heldTill, cX7_heldTill, 4, some .int, 7, 2, false, false)
set_option maxRecDepth 100000 in
theorem kX7_heldTill : zGood mX7_heldTill := ⟨zin3 175 rfl rfl, zin1 1 (by decide +kernel) rfl, by decide +kernel, rfl, by decide +kernel, by show (if _ = true then _ else _); exact ⟨zin3 174 (by decide +kernel) rfl, zinP 5 (by decide +kernel) rfl⟩, by decide⟩
def mX7_setChanged : zRow := (yX7_setChanged, cX7_setChanged, 3, none, 7, 1, false, false)
set_option maxRecDepth 100000 in
theorem kX7_setChanged : zGood mX7_setChanged := ⟨zin4 112 rfl rfl, zin1 1 (by decide +kernel) rfl, by decide +kernel, rfl, by decide +kernel, by show (if _ = true then _ else _); exact ⟨zin4 111 (by decide +kernel) rfl, zinP 6 (by decide +kernel) rfl⟩, by decide⟩
def mX7_refusalOf : zRow := (yX7_refusalOf, cX7_refusalOf, 3, some .int, 7, 2, false, false)
set_option maxRecDepth 100000 in
theorem kX7_refusalOf : zGood mX7_refusalOf := ⟨zin4 204 rfl rfl, zin1 1 (by decide +kernel) rfl, by decide +kernel, rfl, by decide +kernel, by show (if _ = true then _ else _); exact ⟨zin4 203 (by decide +kernel) rfl, zinP 7 (by decide +kernel) rfl⟩, by decide⟩
def mX8_in : zRow := (yX8_in, cX8_in, 3, some .boolean, 8, 3, true, false)
set_option maxRecDepth 100000 in
theorem kX8_in : zGood mX8_in := ⟨zin5 160 rfl rfl, zin1 10 (by decide +kernel) rfl, by decide +kernel, rfl, by decide +kernel, by show (if _ = true then _ else _); exact zin5 159 (by decide +kernel) rfl, by decide⟩
def mX8_bitsOf : zRow := (yX8_bitsOf, cX8_bitsOf, 3, some .int, 8, 1, true, false)
set_option maxRecDepth 100000 in
theorem kX8_bitsOf : zGood mX8_bitsOf := ⟨zin6 137 rfl rfl, zin1 10 (by decide +kernel) rfl, by decide +kernel, rfl, by decide +kernel, by show (if _ = true then _ else _); exact zin6 136 (by decide +kernel) rfl, by decide⟩
def mX8_isPerson : zRow := (yX8_isPerson, cX8_isPerson, 2, some .boolean, 8, 1, false, false)
set_option maxRecDepth 100000 in
theorem kX8_isPerson : zGood mX8_isPerson := ⟨zin5 180 rfl rfl, zin1 10 (by decide +kernel) rfl, by decide +kernel, rfl, by decide +kernel, by show (if _ = true then _ else _); exact ⟨zin5 179 (by decide +kernel) rfl, zinP 9 (by decide +kernel) rfl⟩, by decide⟩
def mX8_isName : zRow := (yX8_isName, cX8_isName, 1, some .boolean, 8, 1, true, false)
set_option maxRecDepth 100000 in
theorem kX8_isName : zGood mX8_isName := ⟨zin5 200 rfl rfl, zin1 10 (by decide +kernel) rfl, by decide +kernel, rfl, by decide +kernel, by show (if _ = true then _ else _); exact zin5 199 (by decide +kernel) rfl, by decide⟩
def mX8_isYear : zRow := (yX8_isYear, cX8_isYear, 1, some .boolean, 8, 1, true, false)
set_option maxRecDepth 100000 in
theorem kX8_isYear : zGood mX8_isYear := ⟨zin5 157 rfl rfl, zin1 10 (by decide +kernel) rfl, by decide +kernel, rfl, by decide +kernel, by show (if _ = true then _ else _); exact zin5 156 (by decide +kernel) rfl, by decide⟩
def mX8_lives : zRow := (yX8_lives, cX8_lives, 3, some .boolean, 8, 2, false, false)
set_option maxRecDepth 100000 in
theorem kX8_lives : zGood mX8_lives := ⟨zin5 184 rfl rfl, zin1 10 (by decide +kernel) rfl, by decide +kernel, rfl, by decide +kernel, by show (if _ = true then _ else _); exact ⟨zin5 183 (by decide +kernel) rfl, zinP 10 (by decide +kernel) rfl⟩, by decide⟩
def mX8_isLife : zRow := (yX8_isLife, cX8_isLife, 2, some .boolean, 8, 2, true, false)
set_option maxRecDepth 100000 in
theorem kX8_isLife : zGood mX8_isLife := ⟨zin5 154 rfl rfl, zin1 10 (by decide +kernel) rfl, by decide +kernel, rfl, by decide +kernel, by show (if _ = true then _ else _); exact zin5 153 (by decide +kernel) rfl, by decide⟩
def mX8_addPerson : zRow := (yX8_addPerson, cX8_addPerson, 4, some .int, 8, 3, false, false)
set_option maxRecDepth 100000 in
theorem kX8_addPerson : zGood mX8_addPerson := ⟨zin5 164 rfl rfl, zin1 10 (by decide +kernel) rfl, by decide +kernel, rfl, by decide +kernel, by show (if _ = true then _ else _); exact ⟨zin5 163 (by decide +kernel) rfl, zinP 8 (by decide +kernel) rfl⟩, by decide⟩
def mX8_person : zRow := (yX8_person, cX8_person, 3, some .int, 8, 2, false, false)
set_option maxRecDepth 100000 in
theorem kX8_person : zGood mX8_person := ⟨zin5 151 rfl rfl, zin1 10 (by decide +kernel) rfl, by decide +kernel, rfl, by decide +kernel, by show (if _ = true then _ else _); exact ⟨zin5 149 (by decide +kernel) rfl, zin5 150 (by decide +kernel) rfl⟩, by decide⟩
def mX8_people : zRow := (yX8_people, cX8_people, 8, some .int, 8, 3, false, false)
set_option maxRecDepth 100000 in
theorem kX8_people : zGood mX8_people := ⟨zin5 168 rfl rfl, zin1 10 (by decide +kernel) rfl, by decide +kernel, rfl, by decide +kernel, by show (if _ = true then _ else _); exact ⟨zin5 166 (by decide +kernel) rfl, zin5 167 (by decide +kernel) rfl⟩, by decide⟩
def mX8_meet : zRow := (yX8_meet, cX8_meet, 3, some .int, 8, 2, false, false)
set_option maxRecDepth 100000 in
theorem kX8_meet : zGood mX8_meet := ⟨zin5 176 rfl rfl, zin1 10 (by decide +kernel) rfl, by decide +kernel, rfl, by decide +kernel, by show (if _ = true then _ else _); exact ⟨zin5 174 (by decide +kernel) rfl, zin5 175 (by decide +kernel) rfl⟩, by decide⟩
def mX8_hearing : zRow := (yX8_hearing, cX8_hearing, 3, some .int, 8, 1, false, false)
set_option maxRecDepth 100000 in
theorem kX8_hearing : zGood mX8_hearing := ⟨zin5 188 rfl rfl, zin1 10 (by decide +kernel) rfl, by decide +kernel, rfl, by decide +kernel, by show (if _ = true then _ else _); exact ⟨zin5 186 (by decide +kernel) rfl, zin5 187 (by decide +kernel) rfl⟩, by decide⟩
def mX8_name : zRow := (yX8_name, cX8_name, 4, some .int, 8, 2, false, false)
set_option maxRecDepth 100000 in
theorem kX8_name : zGood mX8_name := ⟨zin5 192 rfl rfl, zin1 10 (by decide +kernel) rfl, by decide +kernel, rfl, by decide +kernel, by show (if _ = true then _ else _); exact ⟨zin5 190 (by decide +kernel) rfl, zin5 191 (by decide +kernel) rfl⟩, by decide⟩
def mX8_fame : zRow := (yX8_fame, cX8_fame, 4, some .int, 8, 2, false, false)
set_option maxRecDepth 100000 in
theorem kX8_fame : zGood mX8_fame := ⟨zin5 197 rfl rfl, zin1 10 (by decide +kernel) rfl, by decide +kernel, rfl, by decide +kernel, by show (if _ = true then _ else _); exact ⟨zin5 195 (by decide +kernel) rfl, zin5 196 (by decide +kernel) rfl⟩, by decide⟩
def mX8_valueAt : zRow := (yX8_valueAt, cX8_valueAt, 3, some .int, 8, 2, false, false)
set_option maxRecDepth 100000 in
theorem kX8_valueAt : zGood mX8_valueAt := ⟨zin5 224 rfl rfl, zin1 10 (by decide +kernel) rfl, by decide +kernel, rfl, by decide +kernel, by show (if _ = true then _ else _); exact ⟨zin5 223 (by decide +kernel) rfl, zinP 13 (by decide +kernel) rfl⟩, by decide⟩
def mX8_lays : zRow := (yX8_lays, cX8_lays, 4, none, 8, 3, false, false)
set_option maxRecDepth 100000 in
theorem kX8_lays : zGood mX8_lays := ⟨zin5 208 rfl rfl, zin1 10 (by decide +kernel) rfl, by decide +kernel, rfl, by decide +kernel, by show (if _ = true then _ else _); exact ⟨zin5 207 (by decide +kernel) rfl, zinP 11 (by decide +kernel) rfl⟩, by decide⟩
def mX8_changes : zRow := (yX8_changes, cX8_changes, 6, some .int, 8, 3, false, false)
set_option maxRecDepth 100000 in
theorem kX8_changes : zGood mX8_changes := ⟨zin5 220 rfl rfl, zin1 10 (by decide +kernel) rfl, by decide +kernel, rfl, by decide +kernel, by show (if _ = true then _ else _); exact ⟨zin5 219 (by decide +kernel) rfl, zinP 12 (by decide +kernel) rfl⟩, by decide⟩
def mX8_undo : zRow := (yX8_undo, cX8_undo, 1, some .int, 8, 0, false, false)
set_option maxRecDepth 100000 in
theorem kX8_undo : zGood mX8_undo := ⟨zin5 204 rfl rfl, zin1 10 (by decide +kernel) rfl, by decide +kernel, rfl, by decide +kernel, by show (if _ = true then _ else _); exact ⟨zin5 202 (by decide +kernel) rfl, zin5 203 (by decide +kernel) rfl⟩, by decide⟩
def mX8_redo : zRow := (yX8_redo, cX8_redo, 1, some .int, 8, 0, false, false)
set_option maxRecDepth 100000 in
theorem kX8_redo : zGood mX8_redo := ⟨zin5 212 rfl rfl, zin1 10 (by decide +kernel) rfl, by decide +kernel, rfl, by decide +kernel, by show (if _ = true then _ else _); exact ⟨zin5 210 (by decide +kernel) rfl, zin5 211 (by decide +kernel) rfl⟩, by decide⟩
def mX8_mend : zRow := (yX8_mend, cX8_mend, 4, some .int, 8, 3, false, false)
set_option maxRecDepth 100000 in
theorem kX8_mend : zGood mX8_mend := ⟨zin5 216 rfl rfl, zin1 10 (by decide +kernel) rfl, by decide +kernel, rfl, by decide +kernel, by show (if _ = true then _ else _); exact ⟨zin5 214 (by decide +kernel) rfl, zin5 215 (by decide +kernel) rfl⟩, by decide⟩
def mX8_isAhead : zRow := (yX8_isAhead, cX8_isAhead, 3, some .boolean, 8, 2, false, false)
set_option maxRecDepth 100000 in
theorem kX8_isAhead : zGood mX8_isAhead := ⟨zin5 236 rfl rfl, zin1 10 (by decide +kernel) rfl, by decide +kernel, rfl, by decide +kernel, by show (if _ = true then _ else _); exact ⟨zin5 235 (by decide +kernel) rfl, zinP 15 (by decide +kernel) rfl⟩, by decide⟩
def mX8_placeOf : zRow := (yX8_placeOf, cX8_placeOf, 4, some .int, 8, 1, false, false)
set_option maxRecDepth 100000 in
theorem kX8_placeOf : zGood mX8_placeOf := ⟨zin5 232 rfl rfl, zin1 10 (by decide +kernel) rfl, by decide +kernel, rfl, by decide +kernel, by show (if _ = true then _ else _); exact ⟨zin5 231 (by decide +kernel) rfl, zinP 14 (by decide +kernel) rfl⟩, by decide⟩
def mX8_personAt : zRow := (yX8_personAt, cX8_personAt, 3, some .int, 8, 1, false, false)
set_option maxRecDepth 100000 in
theorem kX8_personAt : zGood mX8_personAt := ⟨zin6 145 rfl rfl, zin1 10 (by decide +kernel) rfl, by decide +kernel, rfl, by decide +kernel, by show (if _ = true then _ else _); exact ⟨zin6 144 (by decide +kernel) rfl, zinP 43 (by decide +kernel) rfl⟩, by decide⟩
def mX8_counts : zRow := (yX8_counts, cX8_counts, 2, some .boolean, 8, 1, false, false)
set_option maxRecDepth 100000 in
theorem kX8_counts : zGood mX8_counts := ⟨zin6 4 rfl rfl, zin1 10 (by decide +kernel) rfl, by decide +kernel, rfl, by decide +kernel, by show (if _ = true then _ else _); exact ⟨zin6 3 (by decide +kernel) rfl, zinP 17 (by decide +kernel) rfl⟩, by decide⟩
def mX8_bearersOf : zRow := (yX8_bearersOf, cX8_bearersOf, 4, some .int, 8, 1, false, false)
set_option maxRecDepth 100000 in
theorem kX8_bearersOf : zGood mX8_bearersOf := ⟨zin6 0 rfl rfl, zin1 10 (by decide +kernel) rfl, by decide +kernel, rfl, by decide +kernel, by show (if _ = true then _ else _); exact ⟨zin5 239 (by decide +kernel) rfl, zinP 16 (by decide +kernel) rfl⟩, by decide⟩
def mX8_of : zRow := (yX8_of, cX8_of, 3, some .int, 8, 2, false, false)
set_option maxRecDepth 100000 in
theorem kX8_of : zGood mX8_of := ⟨zin5 228 rfl rfl, zin1 10 (by decide +kernel) rfl, by decide +kernel, rfl, by decide +kernel, by show (if _ = true then _ else _); exact ⟨zin5 226 (by decide +kernel) rfl, zin5 227 (by decide +kernel) rfl⟩, by decide⟩
def mX8_feed : zRow := (yX8_feed, cX8_feed, 2, some .int, 8, 1, false, false)
set_option maxRecDepth 100000 in
theorem kX8_feed : zGood mX8_feed := ⟨zin6 8 rfl rfl, zin1 10 (by decide +kernel) rfl, by decide +kernel, rfl, by decide +kernel, by show (if _ = true then _ else _); exact ⟨zin6 6 (by decide +kernel) rfl, zin6 7 (by decide +kernel) rfl⟩, by decide⟩
def mX8_look : zRow := (yX8_look, cX8_look, 1, some .int, 8, 0, false, false)
set_option maxRecDepth 100000 in
theorem kX8_look : zGood mX8_look := ⟨zin6 48 rfl rfl, zin1 10 (by decide +kernel) rfl, by decide +kernel, rfl, by decide +kernel, by show (if _ = true then _ else _); exact ⟨zin6 47 (by decide +kernel) rfl, zinP 26 (by decide +kernel) rfl⟩, by decide⟩
def mX8_faulty : zRow := (yX8_faulty, cX8_faulty, 1, none, 8, 0, false, false)
set_option maxRecDepth 100000 in
theorem kX8_faulty : zGood mX8_faulty := ⟨zin6 63 rfl rfl, zin1 10 (by decide +kernel) rfl, by decide +kernel, rfl, by decide +kernel, by show (if _ = true then _ else _); exact ⟨zin6 62 (by decide +kernel) rfl, zinP 29 (by decide +kernel) rfl⟩, by decide⟩
def mX8_addStep : zRow := (yX8_addStep, cX8_addStep, 3, none, 8, 2, false, false)
set_option maxRecDepth 100000 in
theorem kX8_addStep : zGood mX8_addStep := ⟨zin6 55 rfl rfl, zin1 10 (by decide +kernel) rfl, by decide +kernel, rfl, by decide +kernel, by show (if _ = true then _ else _); exact ⟨zin6 54 (by decide +kernel) rfl, zinP 27 (by decide +kernel) rfl⟩, by decide⟩
def mX8_nameOf : zRow := (yX8_nameOf, cX8_nameOf, 1, some .int, 8, 1, true, false)
set_option maxRecDepth 100000 in
theorem kX8_nameOf : zGood mX8_nameOf := ⟨zin6 51 rfl rfl, zin1 10 (by decide +kernel) rfl, by decide +kernel, rfl, by decide +kernel, by show (if _ = true then _ else _); exact zin6 50 (by decide +kernel) rfl, by decide⟩
def mX8_opens : zRow := (yX8_opens, cX8_opens, 1, some .boolean, 8, 0, false, false)
set_option maxRecDepth 100000 in
theorem kX8_opens : zGood mX8_opens := ⟨zin6 59 rfl rfl, zin1 10 (by decide +kernel) rfl, by decide +kernel, rfl, by decide +kernel, by show (if _ = true then _ else _); exact ⟨zin6 58 (by decide +kernel) rfl, zinP 28 (by decide +kernel) rfl⟩, by decide⟩
def mX8_figure : zRow := (yX8_figure, cX8_figure, 3, none, 8, 0, false, false)
set_option maxRecDepth 100000 in
theorem kX8_figure : zGood mX8_figure := ⟨zin6 67 rfl rfl, zin1 10 (by decide +kernel) rfl, by decide +kernel, rfl, by decide +kernel, by show (if _ = true then _ else _); exact ⟨zin6 66 (by decide +kernel) rfl, zinP 30 (by decide +kernel) rfl⟩, by decide⟩
def mX8_operand : zRow := (yX8_operand, cX8_operand, 2, none, 8, 0, false, false)
set_option maxRecDepth 100000 in
theorem kX8_operand : zGood mX8_operand := ⟨zin6 44 rfl rfl, zin1 10 (by decide +kernel) rfl, by decide +kernel, rfl, by decide +kernel, by show (if _ = true then _ else _); exact ⟨zin6 43 (by decide +kernel) rfl, zinP 25 (by decide +kernel) rfl⟩, by decide⟩
def mX8_product : zRow := (yX8_product, cX8_product, 2, none, 8, 0, false, false)
set_option maxRecDepth 100000 in
theorem kX8_product : zGood mX8_product := ⟨zin6 40 rfl rfl, zin1 10 (by decide +kernel) rfl, by decide +kernel, rfl, by decide +kernel, by show (if _ = true then _ else _); exact ⟨zin6 39 (by decide +kernel) rfl, zinP 24 (by decide +kernel) rfl⟩, by decide⟩
def mX8_sum : zRow := (yX8_sum, cX8_sum, 2, none, 8, 0, false, false)
set_option maxRecDepth 100000 in
theorem kX8_sum : zGood mX8_sum := ⟨zin6 36 rfl rfl, zin1 10 (by decide +kernel) rfl, by decide +kernel, rfl, by decide +kernel, by show (if _ = true then _ else _); exact ⟨zin6 35 (by decide +kernel) rfl, zinP 23 (by decide +kernel) rfl⟩, by decide⟩
def mX8_compared : zRow := (yX8_compared, cX8_compared, 2, none, 8, 0, false, false)
set_option maxRecDepth 100000 in
theorem kX8_compared : zGood mX8_compared := ⟨zin6 32 rfl rfl, zin1 10 (by decide +kernel) rfl, by decide +kernel, rfl, by decide +kernel, by show (if _ = true then _ else _); exact ⟨zin6 31 (by decide +kernel) rfl, zinP 22 (by decide +kernel) rfl⟩, by decide⟩
def mX8_both : zRow := (yX8_both, cX8_both, 1, none, 8, 0, false, false)
set_option maxRecDepth 100000 in
theorem kX8_both : zGood mX8_both := ⟨zin6 28 rfl rfl, zin1 10 (by decide +kernel) rfl, by decide +kernel, rfl, by decide +kernel, by show (if _ = true then _ else _); exact ⟨zin6 27 (by decide +kernel) rfl, zinP 21 (by decide +kernel) rfl⟩, by decide⟩
def mX8_either : zRow := (yX8_either, cX8_either, 1, none, 8, 0, false, false)
set_option maxRecDepth 100000 in
theorem kX8_either : zGood mX8_either := ⟨zin6 24 rfl rfl, zin1 10 (by decide +kernel) rfl, by decide +kernel, rfl, by decide +kernel, by show (if _ = true then _ else _); exact ⟨zin6 23 (by decide +kernel) rfl, zinP 20 (by decide +kernel) rfl⟩, by decide⟩
def mX8_line : zRow := (yX8_line, cX8_line, 2, none, 8, 0, false, false)
set_option maxRecDepth 100000 in
theorem kX8_line : zGood mX8_line := ⟨zin6 20 rfl rfl, zin1 10 (by decide +kernel) rfl, by decide +kernel, rfl, by decide +kernel, by show (if _ = true then _ else _); exact ⟨zin6 19 (by decide +kernel) rfl, zinP 19 (by decide +kernel) rfl⟩, by decide⟩
def mX8_readText : zRow := (yX8_readText, cX8_readText, 3, some .int, 8, 1, false, false)
set_option maxRecDepth 100000 in
theorem kX8_readText : zGood mX8_readText := ⟨zin6 16 rfl rfl, zin1 10 (by decide +kernel) rfl, by decide +kernel, rfl, by decide +kernel, by show (if _ = true then _ else _); exact ⟨zin6 15 (by decide +kernel) rfl, zinP 18 (by decide +kernel) rfl⟩, by decide⟩
def mX8_twoOf : zRow := (yX8_twoOf, cX8_twoOf, 3, some .int, 8, 3, true, false)
set_option maxRecDepth 100000 in
theorem kX8_twoOf : zGood mX8_twoOf := ⟨zin6 122 rfl rfl, zin1 10 (by decide +kernel) rfl, by decide +kernel, rfl, by decide +kernel, by show (if _ = true then _ else _); exact zin6 121 (by decide +kernel) rfl, by decide⟩
def mX8_worked : zRow := (yX8_worked, cX8_worked, 7, some .int, 8, 3, false, false)
set_option maxRecDepth 100000 in
theorem kX8_worked : zGood mX8_worked := ⟨zin6 119 rfl rfl, zin1 10 (by decide +kernel) rfl, by decide +kernel, rfl, by decide +kernel, by show (if _ = true then _ else _); exact ⟨zin6 118 (by decide +kernel) rfl, zinP 41 (by decide +kernel) rfl⟩, by decide⟩
def mX8_gives : zRow := (yX8_gives, cX8_gives, 4, some .int, 8, 1, false, false)
set_option maxRecDepth 100000 in
theorem kX8_gives : zGood mX8_gives := ⟨zin6 115 rfl rfl, zin1 10 (by decide +kernel) rfl, by decide +kernel, rfl, by decide +kernel, by show (if _ = true then _ else _); exact ⟨zin6 114 (by decide +kernel) rfl, zinP 40 (by decide +kernel) rfl⟩, by decide⟩
def mX8_law : zRow := (yX8_law, cX8_law, 2, some .int, 8, 0, false, false)
set_option maxRecDepth 100000 in
theorem kX8_law : zGood mX8_law := ⟨zin6 12 rfl rfl, zin1 10 (by decide +kernel) rfl, by decide +kernel, rfl, by decide +kernel, by show (if _ = true then _ else _); exact ⟨zin6 10 (by decide +kernel) rfl, zin6 11 (by decide +kernel) rfl⟩, by decide⟩
def mX8_holdsFor : zRow := (yX8_holdsFor, cX8_holdsFor, 7, some .boolean, 8, 4, false, false)
set_option maxRecDepth 100000 in
theorem kX8_holdsFor : zGood mX8_holdsFor := ⟨zin6 111 rfl rfl, zin1 10 (by decide +kernel) rfl, by decide +kernel, rfl, by decide +kernel, by show (if _ = true then _ else _); exact ⟨zin6 110 (by decide +kernel) rfl, zinP 39 (by decide +kernel) rfl⟩, by decide⟩
def mX8_findKnown : zRow := (yX8_findKnown, cX8_findKnown, 8, none, 8, 2, false, false)
set_option maxRecDepth 100000 in
theorem kX8_findKnown : zGood mX8_findKnown := ⟨zin6 75 rfl rfl, zin1 10 (by decide +kernel) rfl, by decide +kernel, rfl, by decide +kernel, by show (if _ = true then _ else _); exact ⟨zin6 74 (by decide +kernel) rfl, zinP 31 (by decide +kernel) rfl⟩, by decide⟩
def mX8_knows : zRow := (yX8_knows, cX8_knows, 3, some .int, 8, 2, false, false)
set_option maxRecDepth 100000 in
theorem kX8_knows : zGood mX8_knows := ⟨zin6 71 rfl rfl, zin1 10 (by decide +kernel) rfl, by decide +kernel, rfl, by decide +kernel, by show (if _ = true then _ else _); exact ⟨zin6 69 (by decide +kernel) rfl, zin6 70 (by decide +kernel) rfl⟩, by decide⟩
def mX8_asNamed : zRow := (yX8_asNamed, cX8_asNamed, 2, none, 8, 0, false, false)
set_option maxRecDepth 100000 in
theorem kX8_asNamed : zGood mX8_asNamed := ⟨zin6 83 rfl rfl, zin1 10 (by decide +kernel) rfl, by decide +kernel, rfl, by decide +kernel, by show (if _ = true then _ else _); exact ⟨zin6 82 (by decide +kernel) rfl, zinP 32 (by decide +kernel) rfl⟩, by decide⟩
def mX8_everybody : zRow := (yX8_everybody, cX8_everybody, 1, some .int, 8, 0, false, false)
set_option maxRecDepth 100000 in
theorem kX8_everybody : zGood mX8_everybody := ⟨zin6 87 rfl rfl, zin1 10 (by decide +kernel) rfl, by decide +kernel, rfl, by decide +kernel, by show (if _ = true then _ else _); exact ⟨zin6 86 (by decide +kernel) rfl, zinP 33 (by decide +kernel) rfl⟩, by decide⟩
def mX8_bears : zRow := (yX8_bears, cX8_bears, 5, some .boolean, 8, 4, false, false)
set_option maxRecDepth 100000 in
theorem kX8_bears : zGood mX8_bears := ⟨zin6 99 rfl rfl, zin1 10 (by decide +kernel) rfl, by decide +kernel, rfl, by decide +kernel, by show (if _ = true then _ else _); exact ⟨zin6 98 (by decide +kernel) rfl, zinP 36 (by decide +kernel) rfl⟩, by decide⟩
def mX8_doesHold : zRow := (yX8_doesHold, cX8_doesHold, 6, some .boolean, 8, 4, false, false)
set_option maxRecDepth 100000 in
theorem kX8_doesHold : zGood mX8_doesHold := ⟨zin6 107 rfl rfl, zin1 10 (by decide +kernel) rfl, by decide +kernel, rfl, by decide +kernel, by show (if _ = true then _ else _); exact ⟨zin6 106 (by decide +kernel) rfl, zinP 38 (by decide +kernel) rfl⟩, by decide⟩
def mX8_holders : zRow := (yX8_holders, cX8_holders, 6, some .int, 8, 3, false, false)
set_option maxRecDepth 100000 in
theorem kX8_holders : zGood mX8_holders := ⟨zin6 103 rfl rfl, zin1 10 (by decide +kernel) rfl, by decide +kernel, rfl, by decide +kernel, by show (if _ = true then _ else _); exact ⟨zin6 102 (by decide +kernel) rfl, zinP 37 (by decide +kernel) rfl⟩, by decide⟩
def mX8_isFamous : zRow := (yX8_isFamous, cX8_isFamous, 5, some .boolean, 8, 3, false, false)
set_option maxRecDepth 100000 in
theorem kX8_isFamous : zGood mX8_isFamous := ⟨zin6 95 rfl rfl, zin1 10 (by decide +kernel) rfl, by decide +kernel, rfl, by decide +kernel, by show (if _ = true then _ else _); exact ⟨zin6 94 (by decide +kernel) rfl, zinP 35 (by decide +kernel) rfl⟩, by decide⟩
def mX8_isHeld : zRow := (yX8_isHeld, cX8_isHeld, 4, some .boolean, 8, 3, false, false)
set_option maxRecDepth 100000 in
theorem kX8_isHeld : zGood mX8_isHeld := ⟨zin6 91 rfl rfl, zin1 10 (by decide +kernel) rfl, by decide +kernel, rfl, by decide +kernel, by show (if _ = true then _ else _); exact ⟨zin6 90 (by decide +kernel) rfl, zinP 34 (by decide +kernel) rfl⟩, by decide⟩
def mX8_held : zRow := (yX8_held, cX8_held, 5, some .int, 8, 3, false, false)
set_option maxRecDepth 100000 in
theorem kX8_held : zGood mX8_held := ⟨zin6 79 rfl rfl, zin1 10 (by decide +kernel) rfl, by decide +kernel, rfl, by decide +kernel, by show (if _ = true then _ else _); exact ⟨zin6 77 (by decide +kernel) rfl, zin6 78 (by decide +kernel) rfl⟩, by decide⟩
def mX8_heldIn : zRow := (yX8_heldIn, cX8_heldIn, 4, some .int, 8, 1, false, false)
set_option maxRecDepth 100000 in
theorem kX8_heldIn : zGood mX8_heldIn := ⟨zin6 130 rfl rfl, zin1 10 (by decide +kernel) rfl, by decide +kernel, rfl, by decide +kernel, by show (if _ = true then _ else _); exact ⟨zin6 129 (by decide +kernel) rfl, zinP 42 (by decide +kernel) rfl⟩, by decide⟩
def mX8_free : zRow := (yX8_free, cX8_free, 2, some .int, 8, 1, false, false)
set_option maxRecDepth 100000 in
theorem kX8_free : zGood mX8_free := ⟨zin6 126 rfl rfl, zin1 10 (by decide +kernel) rfl, by decide +kernel, rfl, by decide +kernel, by show (if _ = true then _ else _); exact ⟨zin6 124 (by decide +kernel) rfl, zin6 125 (by decide +kernel) rfl⟩, by decide⟩
def mX8_most : zRow := (yX8_most, cX8_most, 6, some .int, 8, 1, false, false)
set_option maxRecDepth 100000 in
theorem kX8_most : zGood mX8_most := ⟨zin6 134 rfl rfl, zin1 10 (by decide +kernel) rfl, by decide +kernel, rfl, by decide +kernel, by show (if _ = true then _ else _); exact ⟨zin6 132 (by decide +kernel) rfl, zin6 133 (by decide +kernel) rfl⟩, by decide⟩
def mX8_aheadOf : zRow := (yX8_aheadOf, cX8_aheadOf, 4, some .int, 8, 1, false, false)
set_option maxRecDepth 100000 in
theorem kX8_aheadOf : zGood mX8_aheadOf := ⟨zin6 149 rfl rfl, zin1 10 (by decide +kernel) rfl, by decide +kernel, rfl, by decide +kernel, by show (if _ = true then _ else _); exact ⟨zin6 148 (by decide +kernel) rfl, zinP 44 (by decide +kernel) rfl⟩, by decide⟩
def mX8_judge : zRow := (yX8_judge, cX8_judge, 3, some .int, 8, 0, false, false)
set_option maxRecDepth 100000 in
theorem kX8_judge : zGood mX8_judge := ⟨zin6 141 rfl rfl, zin1 10 (by decide +kernel) rfl, by decide +kernel, rfl, by decide +kernel, by show (if _ = true then _ else _); exact ⟨zin6 139 (by decide +kernel) rfl, zin6 140 (by decide +kernel) rfl⟩, by decide⟩
def mX8_latestHeld : zRow := (yX8_latestHeld, cX8_latestHeld, 5, some .int, 8, 3, false, false)
set_option maxRecDepth 100000 in
theorem kX8_latestHeld : zGood mX8_latestHeld := ⟨zin6 161 rfl rfl, zin1 10 (by decide +kernel) rfl, by decide +kernel, rfl, by decide +kernel, by show (if _ = true then _ else _); exact ⟨zin6 160 (by decide +kernel) rfl, zinP 46 (by decide +kernel) rfl⟩, by decide⟩
def mX8_given : zRow := (yX8_given, cX8_given, 9, some .int, 8, 2, false, false)
set_option maxRecDepth 100000 in
theorem kX8_given : zGood mX8_given := ⟨zin6 157 rfl rfl, zin1 10 (by decide +kernel) rfl, by decide +kernel, rfl, by decide +kernel, by show (if _ = true then _ else _); exact ⟨zin6 156 (by decide +kernel) rfl, zinP 45 (by decide +kernel) rfl⟩, by decide⟩
def mX8_give : zRow := (yX8_give, cX8_give, 4, some .int, 8, 2, false, false)
set_option maxRecDepth 100000 in
theorem kX8_give : zGood mX8_give := ⟨zin6 153 rfl rfl, zin1 10 (by decide +kernel) rfl, by decide +kernel, rfl, by decide +kernel, by show (if _ = true then _ else _); exact ⟨zin6 151 (by decide +kernel) rfl, zin6 152 (by decide +kernel) rfl⟩, by decide⟩
def mX8_runBy : zRow := (yX8_runBy, cX8_runBy, 5, none, 8, 1, false, false)
set_option maxRecDepth 100000 in
theorem kX8_runBy : zGood mX8_runBy := ⟨zin6 169 rfl rfl, zin1 10 (by decide +kernel) rfl, by decide +kernel, rfl, by decide +kernel, by show (if _ = true then _ else _); exact ⟨zin6 168 (by decide +kernel) rfl, zinP 47 (by decide +kernel) rfl⟩, by decide⟩
def mX8_run : zRow := (yX8_run, cX8_run, 3, some .int, 8, 2, false, false)
set_option maxRecDepth 100000 in
theorem kX8_run : zGood mX8_run := ⟨zin6 165 rfl rfl, zin1 10 (by decide +kernel) rfl, by decide +kernel, rfl, by decide +kernel, by show (if _ = true then _ else _); exact ⟨zin6 163 (by decide +kernel) rfl, zin6 164 (by decide +kernel) rfl⟩, by decide⟩
def mX8_unlikeNames : zRow := (yX8_unlikeNames, cX8_unlikeNames, 3, some .int, 8, 0, false, false)
set_option maxRecDepth 100000 in
theorem kX8_unlikeNames : zGood mX8_unlikeNames := ⟨zin6 177 rfl rfl, zin1 10 (by decide +kernel) rfl, by decide +kernel, rfl, by decide +kernel, by show (if _ = true then _ else _); exact ⟨zin6 176 (by decide +kernel) rfl, zinP 48 (by decide +kernel) rfl⟩, by decide⟩
def mX8_used : zRow := (yX8_used, cX8_used, 5, some .int, 8, 2, false, false)
set_option maxRecDepth 100000 in
theorem kX8_used : zGood mX8_used := ⟨zin6 173 rfl rfl, zin1 10 (by decide +kernel) rfl, by decide +kernel, rfl, by decide +kernel, by show (if _ = true then _ else _); exact ⟨zin6 171 (by decide +kernel) rfl, zin6 172 (by decide +kernel) rfl⟩, by decide⟩
def mX8_isFreeWithout : zRow := (yX8_isFreeWithout, cX8_isFreeWithout, 4, some .boolean, 8, 3, false, false)
set_option maxRecDepth 100000 in
theorem kX8_isFreeWithout : zGood mX8_isFreeWithout := ⟨zin6 185 rfl rfl, zin1 10 (by decide +kernel) rfl, by decide +kernel, rfl, by decide +kernel, by show (if _ = true then _ else _); exact ⟨zin6 184 (by decide +kernel) rfl, zinP 49 (by decide +kernel) rfl⟩, by decide⟩
def mX8_apart : zRow := (yX8_apart, cX8_apart, 6, some .int, 8, 2, false, false)
set_option maxRecDepth 100000 in
theorem kX8_apart : zGood mX8_apart := ⟨zin6 181 rfl rfl, zin1 10 (by decide +kernel) rfl, by decide +kernel, rfl, by decide +kernel, by show (if _ = true then _ else _); exact ⟨zin6 179 (by decide +kernel) rfl, zin6 180 (by decide +kernel) rfl⟩, by decide⟩
def mX8_freed : zRow := (yX8_freed, cX8_freed, 5, some .int, 8, 2, false, false)
set_option maxRecDepth 100000 in
theorem kX8_freed : zGood mX8_freed := ⟨zin6 189 rfl rfl, zin1 10 (by decide +kernel) rfl, by decide +kernel, rfl, by decide +kernel, by show (if _ = true then _ else _); exact ⟨zin6 187 (by decide +kernel) rfl, zin6 188 (by decide +kernel) rfl⟩, by decide⟩
def mX8_never : zRow := (yX8_never, cX8_never, 5, some .int, 8, 1, false, false)
set_option maxRecDepth 100000 in
theorem kX8_never : zGood mX8_never := ⟨zin6 193 rfl rfl, zin1 10 (by decide +kernel) rfl, by decide +kernel, rfl, by decide +kernel, by show (if _ = true then _ else _); exact ⟨zin6 191 (by decide +kernel) rfl, zin6 192 (by decide +kernel) rfl⟩, by decide⟩
def mX8_needs : zRow := (yX8_needs, cX8_needs, 9, some .int, 8, 3, false, false)
set_option maxRecDepth 100000 in
theorem kX8_needs : zGood mX8_needs := ⟨zin6 197 rfl rfl, zin1 10 (by decide +kernel) rfl, by decide +kernel, rfl, by decide +kernel, by show (if _ = true then _ else _); exact ⟨zin6 195 (by decide +kernel) rfl, zin6 196 (by decide +kernel) rfl⟩, by decide⟩
def mX8_image : zRow := (yX8_image, cX8_image, 2, some .int, 8, 0, false, false)
set_option maxRecDepth 100000 in
theorem kX8_image : zGood mX8_image := ⟨zin6 202 rfl rfl, zin1 10 (by decide +kernel) rfl, by decide +kernel, rfl, by decide +kernel, by show (if _ = true then _ else _); exact ⟨zin6 200 (by decide +kernel) rfl, zin6 201 (by decide +kernel) rfl⟩, by decide⟩
def mX8_back : zRow := (yX8_back, cX8_back, 2, some .int, 8, 0, false, false)
set_option maxRecDepth 100000 in
theorem kX8_back : zGood mX8_back := ⟨zin6 206 rfl rfl, zin1 10 (by decide +kernel) rfl, by decide +kernel, rfl, by decide +kernel, by show (if _ = true then _ else _); exact ⟨zin6 204 (by decide +kernel) rfl, zin6 205 (by decide +kernel) rfl⟩, by decide⟩
def mX8_isBody : zRow := (yX8_isBody, cX8_isBody, 2, some .boolean, 8, 1, false, false)
set_option maxRecDepth 100000 in
theorem kX8_isBody : zGood mX8_isBody := ⟨zin6 222 rfl rfl, zin1 10 (by decide +kernel) rfl, by decide +kernel, rfl, by decide +kernel, by show (if _ = true then _ else _); exact ⟨zin6 221 (by decide +kernel) rfl, zinP 50 (by decide +kernel) rfl⟩, by decide⟩
def mX8_ran : zRow := (yX8_ran, cX8_ran, 2, none, 8, 1, false, false)
set_option maxRecDepth 100000 in
theorem kX8_ran : zGood mX8_ran := ⟨zin6 233 rfl rfl, zin1 10 (by decide +kernel) rfl, by decide +kernel, rfl, by decide +kernel, by show (if _ = true then _ else _); exact ⟨zin6 232 (by decide +kernel) rfl, zinP 52 (by decide +kernel) rfl⟩, by decide⟩
def mX8_trace : zRow := (yX8_trace, cX8_trace, 2, some .int, 8, 1, false, false)
set_option maxRecDepth 100000 in
theorem kX8_trace : zGood mX8_trace := ⟨zin6 210 rfl rfl, zin1 10 (by decide +kernel) rfl, by decide +kernel, rfl, by decide +kernel, by show (if _ = true then _ else _); exact ⟨zin6 208 (by decide +kernel) rfl, zin6 209 (by decide +kernel) rfl⟩, by decide⟩
def mX8_body : zRow := (yX8_body, cX8_body, 2, some .int, 8, 1, false, false)
set_option maxRecDepth 100000 in
theorem kX8_body : zGood mX8_body := ⟨zin6 214 rfl rfl, zin1 10 (by decide +kernel) rfl, by decide +kernel, rfl, by decide +kernel, by show (if _ = true then _ else _); exact ⟨zin6 212 (by decide +kernel) rfl, zin6 213 (by decide +kernel) rfl⟩, by decide⟩
def mX8_isUnder : zRow := (yX8_isUnder, cX8_isUnder, 2, some .boolean, 8, 2, true, false)
set_option maxRecDepth 100000 in
theorem kX8_isUnder : zGood mX8_isUnder := ⟨zin6 229 rfl rfl, zin1 10 (by decide +kernel) rfl, by decide +kernel, rfl, by decide +kernel, by show (if _ = true then _ else _); exact zin6 228 (by decide +kernel) rfl, by decide⟩
def mX8_plainGives : zRow := (yX8_plainGives, cX8_plainGives, 3, some .int, 8, 2, false, false)
set_option maxRecDepth 100000 in
theorem kX8_plainGives : zGood mX8_plainGives := ⟨zin6 237 rfl rfl, zin1 10 (by decide +kernel) rfl, by decide +kernel, rfl, by decide +kernel, by show (if _ = true then _ else _); exact ⟨zin6 236 (by decide +kernel) rfl, zinP 53 (by decide +kernel) rfl⟩, by decide⟩
def mX8_toldGives : zRow := (yX8_toldGives, cX8_toldGives, 3, some .int, 8, 2, false, false)
set_option maxRecDepth 100000 in
theorem kX8_toldGives : zGood mX8_toldGives := ⟨zin7 1 rfl rfl, zin1 10 (by decide +kernel) rfl, by decide +kernel, rfl, by decide +kernel, by show (if _ = true then _ else _); exact ⟨zin7 0 (by decide +kernel) rfl, zinP 54 (by decide +kernel) rfl⟩, by decide⟩
def mX8_giving : zRow := (yX8_giving, cX8_giving, 3, some .int, 8, 2, false, false)
set_option maxRecDepth 100000 in
theorem kX8_giving : zGood mX8_giving := ⟨zin6 226 rfl rfl, zin1 10 (by decide +kernel) rfl, by decide +kernel, rfl, by decide +kernel, by show (if _ = true then _ else _); exact ⟨zin6 225 (by decide +kernel) rfl, zinP 51 (by decide +kernel) rfl⟩, by decide⟩
def mX8_plainHolds : zRow := (yX8_plainHolds, cX8_plainHolds, 3, some .int, 8, 2, false, false)
set_option maxRecDepth 100000 in
theorem kX8_plainHolds : zGood mX8_plainHolds := ⟨zin7 13 rfl rfl, zin1 10 (by decide +kernel) rfl, by decide +kernel, rfl, by decide +kernel, by show (if _ = true then _ else _); exact ⟨zin7 12 (by decide +kernel) rfl, zinP 57 (by decide +kernel) rfl⟩, by decide⟩
def mX8_soonHolds : zRow := (yX8_soonHolds, cX8_soonHolds, 3, some .int, 8, 2, false, false)
set_option maxRecDepth 100000 in
theorem kX8_soonHolds : zGood mX8_soonHolds := ⟨zin7 9 rfl rfl, zin1 10 (by decide +kernel) rfl, by decide +kernel, rfl, by decide +kernel, by show (if _ = true then _ else _); exact ⟨zin7 8 (by decide +kernel) rfl, zinP 56 (by decide +kernel) rfl⟩, by decide⟩
def mX8_holding : zRow := (yX8_holding, cX8_holding, 4, some .int, 8, 2, false, false)
set_option maxRecDepth 100000 in
theorem kX8_holding : zGood mX8_holding := ⟨zin7 5 rfl rfl, zin1 10 (by decide +kernel) rfl, by decide +kernel, rfl, by decide +kernel, by show (if _ = true then _ else _); exact ⟨zin7 4 (by decide +kernel) rfl, zinP 55 (by decide +kernel) rfl⟩, by decide⟩
def mX8_plainKnows : zRow := (yX8_plainKnows, cX8_plainKnows, 3, some .int, 8, 2, false, false)
set_option maxRecDepth 100000 in
theorem kX8_plainKnows : zGood mX8_plainKnows := ⟨zin7 25 rfl rfl, zin1 10 (by decide +kernel) rfl, by decide +kernel, rfl, by decide +kernel, by show (if _ = true then _ else _); exact ⟨zin7 24 (by decide +kernel) rfl, zinP 60 (by decide +kernel) rfl⟩, by decide⟩
def mX8_wishKnows : zRow := (yX8_wishKnows, cX8_wishKnows, 3, some .int, 8, 2, false, false)
set_option maxRecDepth 100000 in
theorem kX8_wishKnows : zGood mX8_wishKnows := ⟨zin7 21 rfl rfl, zin1 10 (by decide +kernel) rfl, by decide +kernel, rfl, by decide +kernel, by show (if _ = true then _ else _); exact ⟨zin7 20 (by decide +kernel) rfl, zinP 59 (by decide +kernel) rfl⟩, by decide⟩
def mX8_knowing : zRow := (yX8_knowing, cX8_knowing, 4, some .int, 8, 2, false, false)
set_option maxRecDepth 100000 in
theorem kX8_knowing : zGood mX8_knowing := ⟨zin7 17 rfl rfl, zin1 10 (by decide +kernel) rfl, by decide +kernel, rfl, by decide +kernel, by show (if _ = true then _ else _); exact ⟨zin7 16 (by decide +kernel) rfl, zinP 58 (by decide +kernel) rfl⟩, by decide⟩
def mX8_plainTells : zRow := (yX8_plainTells, cX8_plainTells, 4, some .int, 8, 2, false, false)
set_option maxRecDepth 100000 in
theorem kX8_plainTells : zGood mX8_plainTells := ⟨zin7 33 rfl rfl, zin1 10 (by decide +kernel) rfl, by decide +kernel, rfl, by decide +kernel, by show (if _ = true then _ else _); exact ⟨zin7 32 (by decide +kernel) rfl, zinP 62 (by decide +kernel) rfl⟩, by decide⟩
def mX8_telling : zRow := (yX8_telling, cX8_telling, 3, some .int, 8, 2, false, false)
set_option maxRecDepth 100000 in
theorem kX8_telling : zGood mX8_telling := ⟨zin7 29 rfl rfl, zin1 10 (by decide +kernel) rfl, by decide +kernel, rfl, by decide +kernel, by show (if _ = true then _ else _); exact ⟨zin7 28 (by decide +kernel) rfl, zinP 61 (by decide +kernel) rfl⟩, by decide⟩
def mX8_act : zRow := (yX8_act, cX8_act, 4, some .int, 8, 3, false, false)
set_option maxRecDepth 100000 in
theorem kX8_act : zGood mX8_act := ⟨zin6 218 rfl rfl, zin1 10 (by decide +kernel) rfl, by decide +kernel, rfl, by decide +kernel, by show (if _ = true then _ else _); exact ⟨zin6 216 (by decide +kernel) rfl, zin6 217 (by decide +kernel) rfl⟩, by decide⟩
def mX8_namedMany : zRow := (yX8_namedMany, cX8_namedMany, 3, some .int, 8, 0, false, false)
set_option maxRecDepth 100000 in
theorem kX8_namedMany : zGood mX8_namedMany := ⟨zin7 41 rfl rfl, zin1 10 (by decide +kernel) rfl, by decide +kernel, rfl, by decide +kernel, by show (if _ = true then _ else _); exact ⟨zin7 40 (by decide +kernel) rfl, zinP 63 (by decide +kernel) rfl⟩, by decide⟩
def mX8_count : zRow := (yX8_count, cX8_count, 2, some .int, 8, 1, false, false)
set_option maxRecDepth 100000 in
theorem kX8_count : zGood mX8_count := ⟨zin7 37 rfl rfl, zin1 10 (by decide +kernel) rfl, by decide +kernel, rfl, by decide +kernel, by show (if _ = true then _ else _); exact ⟨zin7 35 (by decide +kernel) rfl, zin7 36 (by decide +kernel) rfl⟩, by decide⟩
def mX8_isShelf : zRow := (yX8_isShelf, cX8_isShelf, 1, some .boolean, 8, 1, true, false)
set_option maxRecDepth 100000 in
theorem kX8_isShelf : zGood mX8_isShelf := ⟨zin5 171 rfl rfl, zin1 10 (by decide +kernel) rfl, by decide +kernel, rfl, by decide +kernel, by show (if _ = true then _ else _); exact zin5 170 (by decide +kernel) rfl, by decide⟩
def mX8_keep : zRow := (yX8_keep, cX8_keep, 3, some .int, 8, 2, false, false)
set_option maxRecDepth 100000 in
theorem kX8_keep : zGood mX8_keep := ⟨zin7 45 rfl rfl, zin1 10 (by decide +kernel) rfl, by decide +kernel, rfl, by decide +kernel, by show (if _ = true then _ else _); exact ⟨zin7 43 (by decide +kernel) rfl, zin7 44 (by decide +kernel) rfl⟩, by decide⟩
def mX8_row : zRow := (yX8_row, cX8_row, 5, some .int, 8, 3, false, false)
set_option maxRecDepth 100000 in
theorem kX8_row : zGood mX8_row := ⟨zin7 49 rfl rfl, zin1 10 (by decide +kernel) rfl, by decide +kernel, rfl, by decide +kernel, by show (if _ = true then _ else _); exact ⟨zin7 47 (by decide +kernel) rfl, zin7 48 (by decide +kernel) rfl⟩, by decide⟩
def mX8_whyNoPlace : zRow := (yX8_whyNoPlace, cX8_whyNoPlace, 3, some .int, 8, 2, false, false)
set_option maxRecDepth 100000 in
theorem kX8_whyNoPlace : zGood mX8_whyNoPlace := ⟨zin7 57 rfl rfl, zin1 10 (by decide +kernel) rfl, by decide +kernel, rfl, by decide +kernel, by show (if _ = true then _ else _); exact ⟨zin7 56 (by decide +kernel) rfl, zinP 64 (by decide +kernel) rfl⟩, by decide⟩
def mX8_put : zRow := (yX8_put, cX8_put, 7, some .int, 8, 3, false, false)
set_option maxRecDepth 100000 in
theorem kX8_put : zGood mX8_put := ⟨zin7 53 rfl rfl, zin1 10 (by decide +kernel) rfl, by decide +kernel, rfl, by decide +kernel, by show (if _ = true then _ else _); exact ⟨zin7 51 (by decide +kernel) rfl, zin7 52 (by decide +kernel) rfl⟩, by decide⟩
def mX8_element : zRow := (yX8_element, cX8_element, 3, some .long, 8, 2, false, false)
set_option maxRecDepth 100000 in
theorem kX8_element : zGood mX8_element := ⟨zin7 61 rfl rfl, zin1 10 (by decide +kernel) rfl, by decide +kernel, rfl, by decide +kernel, by show (if _ = true then _ else _); exact ⟨zin7 59 (by decide +kernel) rfl, zin7 60 (by decide +kernel) rfl⟩, by decide⟩
def mX8_shift : zRow := (yX8_shift, cX8_shift, 7, some .int, 8, 5, false, false)
set_option maxRecDepth 100000 in
theorem kX8_shift : zGood mX8_shift := ⟨zin7 66 rfl rfl, zin1 10 (by decide +kernel) rfl, by decide +kernel, rfl, by decide +kernel, by show (if _ = true then _ else _); exact ⟨zin7 64 (by decide +kernel) rfl, zin7 65 (by decide +kernel) rfl⟩, by decide⟩
def mX8_taken : zRow := (yX8_taken, cX8_taken, 3, some .int, 8, 2, false, false)
set_option maxRecDepth 100000 in
theorem kX8_taken : zGood mX8_taken := ⟨zin7 70 rfl rfl, zin1 10 (by decide +kernel) rfl, by decide +kernel, rfl, by decide +kernel, by show (if _ = true then _ else _); exact ⟨zin7 68 (by decide +kernel) rfl, zin7 69 (by decide +kernel) rfl⟩, by decide⟩
def mJ6_bitCount_0f7a4 : zRow := (yJ6_bitCount_0f7a4, cJ6_bitCount_0f7a4, 1, some .int, 9, 1, true, false)
set_option maxRecDepth 100000 in
theorem kJ6_bitCount_0f7a4 : zGood mJ6_bitCount_0f7a4 := ⟨zin3 186 rfl rfl, zin1 18 (by decide +kernel) rfl, by decide +kernel, rfl, by decide +kernel, by show (if _ = true then _ else _); exact zin3 185 (by decide +kernel) rfl, by decide⟩
def mJ7_fill_d0a16 : zRow := (yJ7_fill_d0a16, cJ7_fill_d0a16, 5, none, 11, 2, true, false)
set_option maxRecDepth 100000 in
theorem kJ7_fill_d0a16 : zGood mJ7_fill_d0a16 := ⟨zin4 196 rfl rfl, zin1 4 (by decide +kernel) rfl, by decide +kernel, rfl, by decide +kernel, by show (if _ = true then _ else _); exact zin4 195 (by decide +kernel) rfl, by decide⟩
def mJ7_fill_53178 : zRow := (yJ7_fill_53178, cJ7_fill_53178, 4, none, 11, 2, true, false)
set_option maxRecDepth 100000 in
theorem kJ7_fill_53178 : zGood mJ7_fill_53178 := ⟨zin1 77 rfl rfl, zin1 4 (by decide +kernel) rfl, by decide +kernel, rfl, by decide +kernel, by show (if _ = true then _ else _); exact zin1 76 (by decide +kernel) rfl, by decide⟩
theorem l7_72 : Cond.methodLink (zR 7) 72 mX7_mayLive.1 ∈ zTB := zin2 68 (by decide +kernel) rfl
theorem l7_76 : Cond.methodLink (zR 7) 76 mX4_come.1 ∈ zTB := zin2 74 (by decide +kernel) rfl
theorem l7_80 : Cond.methodLink (zR 7) 80 mX7_isShelf.1 ∈ zTB := zin2 82 (by decide +kernel) rfl
theorem l7_84 : Cond.methodLink (zR 7) 84 mX6_isEmpty.1 ∈ zTB := zin2 85 (by decide +kernel) rfl
theorem l7_88 : Cond.methodLink (zR 7) 88 mX6_isRow.1 ∈ zTB := zin2 89 (by decide +kernel) rfl
theorem l7_94 : Cond.methodLink (zR 7) 94 mX7_comesFrom.1 ∈ zTB := zin2 93 (by decide +kernel) rfl
theorem l7_98 : Cond.methodLink (zR 7) 98 mX4_mayMeet.1 ∈ zTB := zin2 107 (by decide +kernel) rfl
theorem l7_102 : Cond.methodLink (zR 7) 102 mX4_addMeeting.1 ∈ zTB := zin2 119 (by decide +kernel) rfl
theorem l7_108 : Cond.methodLink (zR 7) 108 mX4_hasPerson.1 ∈ zTB := zin2 131 (by decide +kernel) rfl
theorem l7_111 : Cond.methodLink (zR 7) 111 mX7_mayBeNamed.1 ∈ zTB := zin2 97 (by decide +kernel) rfl
theorem l7_118 : Cond.methodLink (zR 7) 118 mX7_isName.1 ∈ zTB := zin2 100 (by decide +kernel) rfl
theorem l7_124 : Cond.methodLink (zR 7) 124 mX7_mayMend.1 ∈ zTB := zin2 141 (by decide +kernel) rfl
theorem l7_133 : Cond.methodLink (zR 7) 133 mX0_add.1 ∈ zTB := zin2 145 (by decide +kernel) rfl
theorem l7_137 : Cond.methodLink (zR 7) 137 mX7_ofPerson.1 ∈ zTB := zin2 160 (by decide +kernel) rfl
theorem l7_141 : Cond.methodLink (zR 7) 141 mX7_ofName.1 ∈ zTB := zin2 168 (by decide +kernel) rfl
theorem l7_144 : Cond.methodLink (zR 7) 144 mX4_hasMeeting.1 ∈ zTB := zin2 176 (by decide +kernel) rfl
theorem l7_147 : Cond.methodLink (zR 7) 147 mX7_ofMeeting.1 ∈ zTB := zin2 180 (by decide +kernel) rfl
theorem l7_150 : Cond.methodLink (zR 7) 150 mX2_takeByte.1 ∈ zTB := zin2 192 (by decide +kernel) rfl
theorem l7_154 : Cond.methodLink (zR 7) 154 mX2_takeTape.1 ∈ zTB := zin2 200 (by decide +kernel) rfl
theorem l7_158 : Cond.methodLink (zR 7) 158 mX7_isYear.1 ∈ zTB := zin2 71 (by decide +kernel) rfl
theorem l7_161 : Cond.methodLink (zR 7) 161 mX4_learnUpTo.1 ∈ zTB := zin3 106 (by decide +kernel) rfl
theorem l7_168 : Cond.methodLink (zR 7) 168 mX4_heldIn.1 ∈ zTB := zin3 127 (by decide +kernel) rfl
theorem l7_171 : Cond.methodLink (zR 7) 171 mX4_holdersOf.1 ∈ zTB := zin3 164 (by decide +kernel) rfl
theorem l7_174 : Cond.methodLink (zR 7) 174 mX7_heldTill.1 ∈ zTB := zin3 172 (by decide +kernel) rfl
theorem l7_177 : Cond.methodLink (zR 7) 177 mJ6_bitCount_0f7a4.1 ∈ zTB := zin3 184 (by decide +kernel) rfl
theorem l7_182 : Cond.methodLink (zR 7) 182 mX3_firstHeldAtBirth.1 ∈ zTB := zin3 194 (by decide +kernel) rfl
theorem l7_185 : Cond.methodLink (zR 7) 185 mX7_isWay.1 ∈ zTB := zin3 217 (by decide +kernel) rfl
theorem l7_188 : Cond.methodLink (zR 7) 188 mX3_chosenFor.1 ∈ zTB := zin3 220 (by decide +kernel) rfl
theorem l7_191 : Cond.methodLink (zR 7) 191 mX3_begin.1 ∈ zTB := zin4 1 (by decide +kernel) rfl
theorem l7_194 : Cond.methodLink (zR 7) 194 mX3_nameAll.1 ∈ zTB := zin4 2 (by decide +kernel) rfl
theorem l7_200 : Cond.methodLink (zR 7) 200 mX3_namesThatCame.1 ∈ zTB := zin4 10 (by decide +kernel) rfl
theorem l7_203 : Cond.methodLink (zR 7) 203 mX3_sumOfWorths.1 ∈ zTB := zin4 15 (by decide +kernel) rfl
theorem l7_206 : Cond.methodLink (zR 7) 206 mX3_peopleWithout.1 ∈ zTB := zin4 19 (by decide +kernel) rfl
theorem l7_209 : Cond.methodLink (zR 7) 209 mX5_fewest.1 ∈ zTB := zin4 31 (by decide +kernel) rfl
theorem l7_212 : Cond.methodLink (zR 7) 212 mX4_isFamed.1 ∈ zTB := zin4 73 (by decide +kernel) rfl
theorem l7_215 : Cond.methodLink (zR 7) 215 mX4_placeOf.1 ∈ zTB := zin2 164 (by decide +kernel) rfl
theorem l7_227 : Cond.methodLink (zR 7) 227 mX4_livingIn.1 ∈ zTB := zin4 78 (by decide +kernel) rfl
theorem l7_230 : Cond.methodLink (zR 7) 230 mX3_drawDeaths.1 ∈ zTB := zin4 86 (by decide +kernel) rfl
theorem l7_233 : Cond.methodLink (zR 7) 233 yJ9_max_7cf53 ∈ zTB := zin4 91 (by decide +kernel) rfl
theorem l7_238 : Cond.methodLink (zR 7) 238 arraycopyName ∈ zTB := zin4 96 (by decide +kernel) rfl
theorem l7_244 : Cond.methodLink (zR 7) 244 mX0_stepBack.1 ∈ zTB := zin4 105 (by decide +kernel) rfl
theorem l7_253 : Cond.methodLink (zR 7) 253 mX7_setChanged.1 ∈ zTB := zin4 109 (by decide +kernel) rfl
theorem l7_256 : Cond.methodLink (zR 7) 256 mX0_hasUndone.1 ∈ zTB := zin4 117 (by decide +kernel) rfl
theorem l7_262 : Cond.methodLink (zR 7) 262 mX0_stepOn.1 ∈ zTB := zin4 121 (by decide +kernel) rfl
theorem l7_268 : Cond.methodLink (zR 7) 268 mX7_isKind.1 ∈ zTB := zin4 129 (by decide +kernel) rfl
theorem l7_271 : Cond.methodLink (zR 7) 271 mX1_add.1 ∈ zTB := zin4 132 (by decide +kernel) rfl
theorem l7_273 : Cond.methodLink (zR 7) 273 mX1_perform.1 ∈ zTB := zin4 140 (by decide +kernel) rfl
theorem l7_276 : Cond.methodLink (zR 7) 276 mX1_traced.1 ∈ zTB := zin4 172 (by decide +kernel) rfl
theorem l7_282 : Cond.methodLink (zR 7) 282 mX1_has.1 ∈ zTB := zin4 181 (by decide +kernel) rfl
theorem l7_285 : Cond.methodLink (zR 7) 285 mX6_holdBody.1 ∈ zTB := zin4 182 (by decide +kernel) rfl
theorem l7_288 : Cond.methodLink (zR 7) 288 mX6_holdRow.1 ∈ zTB := zin4 190 (by decide +kernel) rfl
theorem l7_292 : Cond.methodLink (zR 7) 292 mX7_refusalOf.1 ∈ zTB := zin4 201 (by decide +kernel) rfl
theorem l7_295 : Cond.methodLink (zR 7) 295 mX6_setElement.1 ∈ zTB := zin4 209 (by decide +kernel) rfl
theorem l7_307 : Cond.methodLink (zR 7) 307 mX6_hasPlaces.1 ∈ zTB := zin4 205 (by decide +kernel) rfl
theorem l7_316 : Cond.methodLink (zR 7) 316 mX1_isUnder.1 ∈ zTB := zin4 231 (by decide +kernel) rfl
theorem l7_322 : Cond.methodLink (zR 7) 322 mX4_namedPeople.1 ∈ zTB := zin4 238 (by decide +kernel) rfl
theorem l7_337 : Cond.methodLink (zR 7) 337 mX4_bearersOf.1 ∈ zTB := zin2 172 (by decide +kernel) rfl
theorem l7_349 : Cond.methodLink (zR 7) 349 mX4_counts.1 ∈ zTB := zin2 184 (by decide +kernel) rfl
theorem l0_26 : Cond.methodLink (zR 0) 26 mX0_dropOldest.1 ∈ zTB := zin2 149 (by decide +kernel) rfl
theorem l0_32 : Cond.methodLink (zR 0) 32 arraycopyName ∈ zTB := zin2 153 (by decide +kernel) rfl
theorem l1_25 : Cond.methodLink (zR 1) 25 yJ9_min_7cf53 ∈ zTB := zin4 176 (by decide +kernel) rfl
theorem l1_34 : Cond.methodLink (zR 1) 34 mX1_has.1 ∈ zTB := zin4 144 (by decide +kernel) rfl
theorem l1_41 : Cond.methodLink (zR 1) 41 mX1_own.1 ∈ zTB := zin4 148 (by decide +kernel) rfl
theorem l1_45 : Cond.methodLink (zR 1) 45 mX1_runFrom.1 ∈ zTB := zin4 152 (by decide +kernel) rfl
theorem l1_52 : Cond.methodLink (zR 1) 52 mX1_noteBegun.1 ∈ zTB := zin4 158 (by decide +kernel) rfl
theorem l1_56 : Cond.methodLink (zR 1) 56 mX1_runBody.1 ∈ zTB := zin4 164 (by decide +kernel) rfl
theorem l2_40 : Cond.methodLink (zR 2) 40 mX2_readLines.1 ∈ zTB := zin2 204 (by decide +kernel) rfl
theorem l2_43 : Cond.methodLink (zR 2) 43 arraycopyName ∈ zTB := zin3 100 (by decide +kernel) rfl
theorem l2_52 : Cond.methodLink (zR 2) 52 mX2_readLine.1 ∈ zTB := zin2 208 (by decide +kernel) rfl
theorem l2_55 : Cond.methodLink (zR 2) 55 mX2_nextByte.1 ∈ zTB := zin2 220 (by decide +kernel) rfl
theorem l2_59 : Cond.methodLink (zR 2) 59 mX2_draftSign.1 ∈ zTB := zin3 96 (by decide +kernel) rfl
theorem l2_62 : Cond.methodLink (zR 2) 62 mX2_refuse.1 ∈ zTB := zin3 89 (by decide +kernel) rfl
theorem l2_65 : Cond.methodLink (zR 2) 65 mX2_readRank.1 ∈ zTB := zin2 212 (by decide +kernel) rfl
theorem l2_69 : Cond.methodLink (zR 2) 69 mX2_readOperand.1 ∈ zTB := zin2 216 (by decide +kernel) rfl
theorem l2_73 : Cond.methodLink (zR 2) 73 mX2_rankOf.1 ∈ zTB := zin3 93 (by decide +kernel) rfl
theorem l2_77 : Cond.methodLink (zR 2) 77 mX2_draftCode.1 ∈ zTB := zin2 231 (by decide +kernel) rfl
theorem l2_80 : Cond.methodLink (zR 2) 80 mX2_isDigit.1 ∈ zTB := zin2 224 (by decide +kernel) rfl
theorem l2_84 : Cond.methodLink (zR 2) 84 mX2_readNumber.1 ∈ zTB := zin2 227 (by decide +kernel) rfl
theorem l2_87 : Cond.methodLink (zR 2) 87 mX2_letterOf.1 ∈ zTB := zin2 235 (by decide +kernel) rfl
theorem l2_90 : Cond.methodLink (zR 2) 90 mX2_readClosing.1 ∈ zTB := zin3 85 (by decide +kernel) rfl
theorem l2_103 : Cond.methodLink (zR 2) 103 mX2_pop.1 ∈ zTB := zin3 149 (by decide +kernel) rfl
theorem l2_106 : Cond.methodLink (zR 2) 106 mX2_push.1 ∈ zTB := zin3 153 (by decide +kernel) rfl
theorem l2_109 : Cond.methodLink (zR 2) 109 mX2_reckonSign.1 ∈ zTB := zin3 157 (by decide +kernel) rfl
theorem l2_112 : Cond.methodLink (zR 2) 112 mX2_joined.1 ∈ zTB := zin3 161 (by decide +kernel) rfl
theorem l3_22 : Cond.methodLink (zR 3) 22 mX4_copyAllButNames.1 ∈ zTB := zin3 202 (by decide +kernel) rfl
theorem l3_28 : Cond.methodLink (zR 3) 28 mX3_forgetNames.1 ∈ zTB := zin3 207 (by decide +kernel) rfl
theorem l3_34 : Cond.methodLink (zR 3) 34 mJ7_fill_53178.1 ∈ zTB := zin3 211 (by decide +kernel) rfl
theorem l3_44 : Cond.methodLink (zR 3) 44 mX4_heldIn.1 ∈ zTB := zin3 212 (by decide +kernel) rfl
theorem l3_48 : Cond.methodLink (zR 3) 48 yJ9_max_7cf53 ∈ zTB := zin3 228 (by decide +kernel) rfl
theorem l3_60 : Cond.methodLink (zR 3) 60 mX3_isBetter.1 ∈ zTB := zin3 233 (by decide +kernel) rfl
theorem l3_64 : Cond.methodLink (zR 3) 64 mX3_begin.1 ∈ zTB := zin3 198 (by decide +kernel) rfl
theorem l3_73 : Cond.methodLink (zR 3) 73 mX3_noteHeldAheadOf.1 ∈ zTB := zin3 224 (by decide +kernel) rfl
theorem l3_77 : Cond.methodLink (zR 3) 77 mX3_choose.1 ∈ zTB := zin3 229 (by decide +kernel) rfl
theorem l3_80 : Cond.methodLink (zR 3) 80 mJ6_bitCount_0f7a4.1 ∈ zTB := zin4 14 (by decide +kernel) rfl
theorem l3_85 : Cond.methodLink (zR 3) 85 mX4_namedPeople.1 ∈ zTB := zin4 23 (by decide +kernel) rfl
theorem l4_49 : Cond.methodLink (zR 4) 49 mJ7_fill_53178.1 ∈ zTB := zin1 75 (by decide +kernel) rfl
theorem l4_55 : Cond.methodLink (zR 4) 55 arraycopyName ∈ zTB := zin3 206 (by decide +kernel) rfl
theorem l4_71 : Cond.methodLink (zR 4) 71 mX4_lives.1 ∈ zTB := zin2 115 (by decide +kernel) rfl
theorem l4_75 : Cond.methodLink (zR 4) 75 mX4_hasPerson.1 ∈ zTB := zin2 111 (by decide +kernel) rfl
theorem l4_79 : Cond.methodLink (zR 4) 79 mX4_counts.1 ∈ zTB := zin3 118 (by decide +kernel) rfl
theorem l4_82 : Cond.methodLink (zR 4) 82 mX4_knowOneself.1 ∈ zTB := zin3 110 (by decide +kernel) rfl
theorem l4_85 : Cond.methodLink (zR 4) 85 mX4_countsBy.1 ∈ zTB := zin3 114 (by decide +kernel) rfl
theorem l4_88 : Cond.methodLink (zR 4) 88 mX4_greet.1 ∈ zTB := zin3 119 (by decide +kernel) rfl
theorem l4_92 : Cond.methodLink (zR 4) 92 mX4_isBearer.1 ∈ zTB := zin3 168 (by decide +kernel) rfl
theorem l4_96 : Cond.methodLink (zR 4) 96 yJ9_max_7cf53 ∈ zTB := zin3 140 (by decide +kernel) rfl
theorem l4_102 : Cond.methodLink (zR 4) 102 mX2_tell.1 ∈ zTB := zin3 141 (by decide +kernel) rfl
theorem l4_108 : Cond.methodLink (zR 4) 108 mX2_reckon.1 ∈ zTB := zin3 145 (by decide +kernel) rfl
theorem l4_112 : Cond.methodLink (zR 4) 112 mX4_learnUpTo.1 ∈ zTB := zin3 131 (by decide +kernel) rfl
theorem l4_115 : Cond.methodLink (zR 4) 115 mX4_livesKnowing.1 ∈ zTB := zin3 132 (by decide +kernel) rfl
theorem l4_118 : Cond.methodLink (zR 4) 118 mX4_wouldHold.1 ∈ zTB := zin3 136 (by decide +kernel) rfl
theorem l5_26 : Cond.methodLink (zR 5) 26 mX4_isFamed.1 ∈ zTB := zin4 35 (by decide +kernel) rfl
theorem l5_32 : Cond.methodLink (zR 5) 32 mX5_noteWhoHolds.1 ∈ zTB := zin4 39 (by decide +kernel) rfl
theorem l5_42 : Cond.methodLink (zR 5) 42 mX5_seek.1 ∈ zTB := zin4 46 (by decide +kernel) rfl
theorem l5_49 : Cond.methodLink (zR 5) 49 mX4_lives.1 ∈ zTB := zin4 43 (by decide +kernel) rfl
theorem l5_52 : Cond.methodLink (zR 5) 52 mX4_isBearer.1 ∈ zTB := zin4 44 (by decide +kernel) rfl
theorem l5_56 : Cond.methodLink (zR 5) 56 mX4_wouldHold.1 ∈ zTB := zin4 45 (by decide +kernel) rfl
theorem l5_59 : Cond.methodLink (zR 5) 59 mX5_chainWithout.1 ∈ zTB := zin4 50 (by decide +kernel) rfl
theorem l5_63 : Cond.methodLink (zR 5) 63 mX4_knowOneself.1 ∈ zTB := zin4 54 (by decide +kernel) rfl
theorem l5_72 : Cond.methodLink (zR 5) 72 mX4_countsBy.1 ∈ zTB := zin4 55 (by decide +kernel) rfl
theorem l5_75 : Cond.methodLink (zR 5) 75 mX5_greetAndNote.1 ∈ zTB := zin4 56 (by decide +kernel) rfl
theorem l5_82 : Cond.methodLink (zR 5) 82 mX5_chainOf.1 ∈ zTB := zin4 65 (by decide +kernel) rfl
theorem l5_92 : Cond.methodLink (zR 5) 92 mX4_greet.1 ∈ zTB := zin4 60 (by decide +kernel) rfl
theorem l5_95 : Cond.methodLink (zR 5) 95 mX5_noteLearnt.1 ∈ zTB := zin4 61 (by decide +kernel) rfl
theorem l6_25 : Cond.methodLink (zR 6) 25 mJ7_fill_d0a16.1 ∈ zTB := zin4 194 (by decide +kernel) rfl
theorem l6_31 : Cond.methodLink (zR 6) 31 mX6_hasPlaces.1 ∈ zTB := zin4 213 (by decide +kernel) rfl
theorem l6_35 : Cond.methodLink (zR 6) 35 mX6_lowestBits.1 ∈ zTB := zin4 214 (by decide +kernel) rfl
theorem l12_13 : Cond.methodLink (zR 12) 13 mX7_person.1 ∈ zTB := zin2 64 (by decide +kernel) rfl
theorem l12_17 : Cond.methodLink (zR 12) 17 mX8_person.1 ∈ zTB := zin5 148 (by decide +kernel) rfl
theorem l12_18 : Cond.methodLink (zR 12) 18 mX7_people.1 ∈ zTB := zin2 78 (by decide +kernel) rfl
theorem l12_22 : Cond.methodLink (zR 12) 22 mX8_people.1 ∈ zTB := zin5 165 (by decide +kernel) rfl
theorem l12_23 : Cond.methodLink (zR 12) 23 mX7_meet.1 ∈ zTB := zin2 103 (by decide +kernel) rfl
theorem l12_26 : Cond.methodLink (zR 12) 26 mX8_meet.1 ∈ zTB := zin5 173 (by decide +kernel) rfl
theorem l12_27 : Cond.methodLink (zR 12) 27 mX7_hearing.1 ∈ zTB := zin2 123 (by decide +kernel) rfl
theorem l12_31 : Cond.methodLink (zR 12) 31 mX8_hearing.1 ∈ zTB := zin5 185 (by decide +kernel) rfl
theorem l12_32 : Cond.methodLink (zR 12) 32 mX7_name.1 ∈ zTB := zin2 127 (by decide +kernel) rfl
theorem l12_35 : Cond.methodLink (zR 12) 35 mX8_name.1 ∈ zTB := zin5 189 (by decide +kernel) rfl
theorem l12_36 : Cond.methodLink (zR 12) 36 mX7_fame.1 ∈ zTB := zin2 133 (by decide +kernel) rfl
theorem l12_39 : Cond.methodLink (zR 12) 39 mX8_fame.1 ∈ zTB := zin5 194 (by decide +kernel) rfl
theorem l12_40 : Cond.methodLink (zR 12) 40 mX7_mend.1 ∈ zTB := zin2 137 (by decide +kernel) rfl
theorem l12_43 : Cond.methodLink (zR 12) 43 mX8_mend.1 ∈ zTB := zin5 213 (by decide +kernel) rfl
theorem l12_44 : Cond.methodLink (zR 12) 44 mX7_of.1 ∈ zTB := zin2 156 (by decide +kernel) rfl
theorem l12_47 : Cond.methodLink (zR 12) 47 mX8_of.1 ∈ zTB := zin5 225 (by decide +kernel) rfl
theorem l12_48 : Cond.methodLink (zR 12) 48 mX7_feed.1 ∈ zTB := zin2 188 (by decide +kernel) rfl
theorem l12_51 : Cond.methodLink (zR 12) 51 mX8_feed.1 ∈ zTB := zin6 5 (by decide +kernel) rfl
theorem l12_52 : Cond.methodLink (zR 12) 52 mX7_law.1 ∈ zTB := zin2 196 (by decide +kernel) rfl
theorem l12_56 : Cond.methodLink (zR 12) 56 mX8_law.1 ∈ zTB := zin6 9 (by decide +kernel) rfl
theorem l12_57 : Cond.methodLink (zR 12) 57 mX7_knows.1 ∈ zTB := zin3 102 (by decide +kernel) rfl
theorem l12_60 : Cond.methodLink (zR 12) 60 mX8_knows.1 ∈ zTB := zin6 68 (by decide +kernel) rfl
theorem l12_61 : Cond.methodLink (zR 12) 61 mX7_held.1 ∈ zTB := zin3 123 (by decide +kernel) rfl
theorem l12_64 : Cond.methodLink (zR 12) 64 mX8_held.1 ∈ zTB := zin6 76 (by decide +kernel) rfl
theorem l12_65 : Cond.methodLink (zR 12) 65 mX7_free.1 ∈ zTB := zin3 176 (by decide +kernel) rfl
theorem l12_68 : Cond.methodLink (zR 12) 68 mX8_free.1 ∈ zTB := zin6 123 (by decide +kernel) rfl
theorem l12_69 : Cond.methodLink (zR 12) 69 mX7_most.1 ∈ zTB := zin3 180 (by decide +kernel) rfl
theorem l12_72 : Cond.methodLink (zR 12) 72 mX8_most.1 ∈ zTB := zin6 131 (by decide +kernel) rfl
theorem l12_73 : Cond.methodLink (zR 12) 73 mX7_judge.1 ∈ zTB := zin3 190 (by decide +kernel) rfl
theorem l12_76 : Cond.methodLink (zR 12) 76 mX8_judge.1 ∈ zTB := zin6 138 (by decide +kernel) rfl
theorem l12_77 : Cond.methodLink (zR 12) 77 mX7_give.1 ∈ zTB := zin3 213 (by decide +kernel) rfl
theorem l12_80 : Cond.methodLink (zR 12) 80 mX8_give.1 ∈ zTB := zin6 150 (by decide +kernel) rfl
theorem l12_81 : Cond.methodLink (zR 12) 81 mX7_run.1 ∈ zTB := zin3 237 (by decide +kernel) rfl
theorem l12_84 : Cond.methodLink (zR 12) 84 mX8_run.1 ∈ zTB := zin6 162 (by decide +kernel) rfl
theorem l12_85 : Cond.methodLink (zR 12) 85 mX7_used.1 ∈ zTB := zin4 6 (by decide +kernel) rfl
theorem l12_88 : Cond.methodLink (zR 12) 88 mX8_used.1 ∈ zTB := zin6 170 (by decide +kernel) rfl
theorem l12_89 : Cond.methodLink (zR 12) 89 mX7_apart.1 ∈ zTB := zin4 27 (by decide +kernel) rfl
theorem l12_92 : Cond.methodLink (zR 12) 92 mX8_apart.1 ∈ zTB := zin6 178 (by decide +kernel) rfl
theorem l12_93 : Cond.methodLink (zR 12) 93 mX7_freed.1 ∈ zTB := zin4 69 (by decide +kernel) rfl
theorem l12_96 : Cond.methodLink (zR 12) 96 mX8_freed.1 ∈ zTB := zin6 186 (by decide +kernel) rfl
theorem l12_97 : Cond.methodLink (zR 12) 97 mX7_never.1 ∈ zTB := zin4 74 (by decide +kernel) rfl
theorem l12_100 : Cond.methodLink (zR 12) 100 mX8_never.1 ∈ zTB := zin6 190 (by decide +kernel) rfl
theorem l12_101 : Cond.methodLink (zR 12) 101 mX7_needs.1 ∈ zTB := zin4 82 (by decide +kernel) rfl
theorem l12_104 : Cond.methodLink (zR 12) 104 mX8_needs.1 ∈ zTB := zin6 194 (by decide +kernel) rfl
theorem l12_105 : Cond.methodLink (zR 12) 105 mX7_image.1 ∈ zTB := zin4 92 (by decide +kernel) rfl
theorem l12_108 : Cond.methodLink (zR 12) 108 mX8_image.1 ∈ zTB := zin6 199 (by decide +kernel) rfl
theorem l12_109 : Cond.methodLink (zR 12) 109 mX7_back.1 ∈ zTB := zin4 97 (by decide +kernel) rfl
theorem l12_112 : Cond.methodLink (zR 12) 112 mX8_back.1 ∈ zTB := zin6 203 (by decide +kernel) rfl
theorem l12_113 : Cond.methodLink (zR 12) 113 mX7_undo.1 ∈ zTB := zin4 101 (by decide +kernel) rfl
theorem l12_116 : Cond.methodLink (zR 12) 116 mX8_undo.1 ∈ zTB := zin5 201 (by decide +kernel) rfl
theorem l12_117 : Cond.methodLink (zR 12) 117 mX7_redo.1 ∈ zTB := zin4 113 (by decide +kernel) rfl
theorem l12_120 : Cond.methodLink (zR 12) 120 mX8_redo.1 ∈ zTB := zin5 209 (by decide +kernel) rfl
theorem l12_121 : Cond.methodLink (zR 12) 121 mX7_body.1 ∈ zTB := zin4 125 (by decide +kernel) rfl
theorem l12_124 : Cond.methodLink (zR 12) 124 mX8_body.1 ∈ zTB := zin6 211 (by decide +kernel) rfl
theorem l12_125 : Cond.methodLink (zR 12) 125 mX7_act.1 ∈ zTB := zin4 136 (by decide +kernel) rfl
theorem l12_128 : Cond.methodLink (zR 12) 128 mX8_act.1 ∈ zTB := zin6 215 (by decide +kernel) rfl
theorem l12_129 : Cond.methodLink (zR 12) 129 mX7_trace.1 ∈ zTB := zin4 168 (by decide +kernel) rfl
theorem l12_132 : Cond.methodLink (zR 12) 132 mX8_trace.1 ∈ zTB := zin6 207 (by decide +kernel) rfl
theorem l12_133 : Cond.methodLink (zR 12) 133 mX7_keep.1 ∈ zTB := zin4 177 (by decide +kernel) rfl
theorem l12_136 : Cond.methodLink (zR 12) 136 mX8_keep.1 ∈ zTB := zin7 42 (by decide +kernel) rfl
theorem l12_137 : Cond.methodLink (zR 12) 137 mX7_row.1 ∈ zTB := zin4 186 (by decide +kernel) rfl
theorem l12_140 : Cond.methodLink (zR 12) 140 mX8_row.1 ∈ zTB := zin7 46 (by decide +kernel) rfl
theorem l12_143 : Cond.methodLink (zR 12) 143 mX7_put.1 ∈ zTB := zin4 197 (by decide +kernel) rfl
theorem l12_147 : Cond.methodLink (zR 12) 147 mX8_put.1 ∈ zTB := zin7 50 (by decide +kernel) rfl
theorem l12_148 : Cond.methodLink (zR 12) 148 mX7_element.1 ∈ zTB := zin4 218 (by decide +kernel) rfl
theorem l12_152 : Cond.methodLink (zR 12) 152 mX8_element.1 ∈ zTB := zin7 58 (by decide +kernel) rfl
theorem l12_153 : Cond.methodLink (zR 12) 153 mX7_shift.1 ∈ zTB := zin4 223 (by decide +kernel) rfl
theorem l12_157 : Cond.methodLink (zR 12) 157 mX8_shift.1 ∈ zTB := zin7 63 (by decide +kernel) rfl
theorem l12_158 : Cond.methodLink (zR 12) 158 mX7_taken.1 ∈ zTB := zin4 227 (by decide +kernel) rfl
theorem l12_161 : Cond.methodLink (zR 12) 161 mX8_taken.1 ∈ zTB := zin7 67 (by decide +kernel) rfl
theorem l12_162 : Cond.methodLink (zR 12) 162 mX7_count.1 ∈ zTB := zin4 234 (by decide +kernel) rfl
theorem l12_165 : Cond.methodLink (zR 12) 165 mX8_count.1 ∈ zTB := zin7 34 (by decide +kernel) rfl
theorem l8_114 : Cond.methodLink (zR 8) 114 mX8_in.1 ∈ zTB := zin5 158 (by decide +kernel) rfl
theorem l8_118 : Cond.methodLink (zR 8) 118 mX8_isYear.1 ∈ zTB := zin5 155 (by decide +kernel) rfl
theorem l8_122 : Cond.methodLink (zR 8) 122 mX8_isLife.1 ∈ zTB := zin5 152 (by decide +kernel) rfl
theorem l8_126 : Cond.methodLink (zR 8) 126 mX8_addPerson.1 ∈ zTB := zin5 161 (by decide +kernel) rfl
theorem l8_130 : Cond.methodLink (zR 8) 130 mX8_isShelf.1 ∈ zTB := zin5 169 (by decide +kernel) rfl
theorem l8_135 : Cond.methodLink (zR 8) 135 mX8_isPerson.1 ∈ zTB := zin5 177 (by decide +kernel) rfl
theorem l8_138 : Cond.methodLink (zR 8) 138 mX8_lives.1 ∈ zTB := zin5 181 (by decide +kernel) rfl
theorem l8_148 : Cond.methodLink (zR 8) 148 mX8_isName.1 ∈ zTB := zin5 198 (by decide +kernel) rfl
theorem l8_151 : Cond.methodLink (zR 8) 151 mX8_valueAt.1 ∈ zTB := zin5 221 (by decide +kernel) rfl
theorem l8_161 : Cond.methodLink (zR 8) 161 mX8_lays.1 ∈ zTB := zin5 205 (by decide +kernel) rfl
theorem l8_165 : Cond.methodLink (zR 8) 165 mX8_changes.1 ∈ zTB := zin5 217 (by decide +kernel) rfl
theorem l8_168 : Cond.methodLink (zR 8) 168 mX8_isAhead.1 ∈ zTB := zin5 233 (by decide +kernel) rfl
theorem l8_171 : Cond.methodLink (zR 8) 171 mX8_placeOf.1 ∈ zTB := zin5 229 (by decide +kernel) rfl
theorem l8_175 : Cond.methodLink (zR 8) 175 mX8_bearersOf.1 ∈ zTB := zin5 237 (by decide +kernel) rfl
theorem l8_178 : Cond.methodLink (zR 8) 178 mX8_counts.1 ∈ zTB := zin6 1 (by decide +kernel) rfl
theorem l8_196 : Cond.methodLink (zR 8) 196 mX8_faulty.1 ∈ zTB := zin6 60 (by decide +kernel) rfl
theorem l8_199 : Cond.methodLink (zR 8) 199 mX8_look.1 ∈ zTB := zin6 45 (by decide +kernel) rfl
theorem l8_203 : Cond.methodLink (zR 8) 203 mX8_addStep.1 ∈ zTB := zin6 52 (by decide +kernel) rfl
theorem l8_207 : Cond.methodLink (zR 8) 207 mX8_nameOf.1 ∈ zTB := zin6 49 (by decide +kernel) rfl
theorem l8_210 : Cond.methodLink (zR 8) 210 mX8_opens.1 ∈ zTB := zin6 56 (by decide +kernel) rfl
theorem l8_214 : Cond.methodLink (zR 8) 214 mX8_operand.1 ∈ zTB := zin6 41 (by decide +kernel) rfl
theorem l8_217 : Cond.methodLink (zR 8) 217 mX8_either.1 ∈ zTB := zin6 21 (by decide +kernel) rfl
theorem l8_220 : Cond.methodLink (zR 8) 220 mX8_figure.1 ∈ zTB := zin6 64 (by decide +kernel) rfl
theorem l8_223 : Cond.methodLink (zR 8) 223 mX8_product.1 ∈ zTB := zin6 37 (by decide +kernel) rfl
theorem l8_226 : Cond.methodLink (zR 8) 226 mX8_sum.1 ∈ zTB := zin6 33 (by decide +kernel) rfl
theorem l8_229 : Cond.methodLink (zR 8) 229 mX8_compared.1 ∈ zTB := zin6 29 (by decide +kernel) rfl
theorem l8_232 : Cond.methodLink (zR 8) 232 mX8_both.1 ∈ zTB := zin6 25 (by decide +kernel) rfl
theorem l8_235 : Cond.methodLink (zR 8) 235 mX8_line.1 ∈ zTB := zin6 17 (by decide +kernel) rfl
theorem l8_238 : Cond.methodLink (zR 8) 238 mX8_twoOf.1 ∈ zTB := zin6 120 (by decide +kernel) rfl
theorem l8_241 : Cond.methodLink (zR 8) 241 mX8_worked.1 ∈ zTB := zin6 116 (by decide +kernel) rfl
theorem l8_244 : Cond.methodLink (zR 8) 244 mX8_readText.1 ∈ zTB := zin6 13 (by decide +kernel) rfl
theorem l8_251 : Cond.methodLink (zR 8) 251 mX8_gives.1 ∈ zTB := zin6 112 (by decide +kernel) rfl
theorem l8_254 : Cond.methodLink (zR 8) 254 mX8_findKnown.1 ∈ zTB := zin6 72 (by decide +kernel) rfl
theorem l8_257 : Cond.methodLink (zR 8) 257 mX8_bears.1 ∈ zTB := zin6 96 (by decide +kernel) rfl
theorem l8_261 : Cond.methodLink (zR 8) 261 mX8_holdsFor.1 ∈ zTB := zin6 108 (by decide +kernel) rfl
theorem l8_264 : Cond.methodLink (zR 8) 264 mX8_doesHold.1 ∈ zTB := zin6 104 (by decide +kernel) rfl
theorem l8_267 : Cond.methodLink (zR 8) 267 mX8_isFamous.1 ∈ zTB := zin6 92 (by decide +kernel) rfl
theorem l8_270 : Cond.methodLink (zR 8) 270 mX8_holders.1 ∈ zTB := zin6 100 (by decide +kernel) rfl
theorem l8_273 : Cond.methodLink (zR 8) 273 mX8_asNamed.1 ∈ zTB := zin6 80 (by decide +kernel) rfl
theorem l8_276 : Cond.methodLink (zR 8) 276 mX8_everybody.1 ∈ zTB := zin6 84 (by decide +kernel) rfl
theorem l8_279 : Cond.methodLink (zR 8) 279 mX8_isHeld.1 ∈ zTB := zin6 88 (by decide +kernel) rfl
theorem l8_282 : Cond.methodLink (zR 8) 282 mX8_heldIn.1 ∈ zTB := zin6 127 (by decide +kernel) rfl
theorem l8_285 : Cond.methodLink (zR 8) 285 mX8_bitsOf.1 ∈ zTB := zin6 135 (by decide +kernel) rfl
theorem l8_288 : Cond.methodLink (zR 8) 288 mX8_personAt.1 ∈ zTB := zin6 142 (by decide +kernel) rfl
theorem l8_291 : Cond.methodLink (zR 8) 291 mX8_aheadOf.1 ∈ zTB := zin6 146 (by decide +kernel) rfl
theorem l8_294 : Cond.methodLink (zR 8) 294 mX8_latestHeld.1 ∈ zTB := zin6 158 (by decide +kernel) rfl
theorem l8_297 : Cond.methodLink (zR 8) 297 mX8_given.1 ∈ zTB := zin6 154 (by decide +kernel) rfl
theorem l8_300 : Cond.methodLink (zR 8) 300 mX8_runBy.1 ∈ zTB := zin6 166 (by decide +kernel) rfl
theorem l8_304 : Cond.methodLink (zR 8) 304 mX8_unlikeNames.1 ∈ zTB := zin6 174 (by decide +kernel) rfl
theorem l8_307 : Cond.methodLink (zR 8) 307 mX8_isFreeWithout.1 ∈ zTB := zin6 182 (by decide +kernel) rfl
theorem l8_323 : Cond.methodLink (zR 8) 323 mX8_ran.1 ∈ zTB := zin6 230 (by decide +kernel) rfl
theorem l8_326 : Cond.methodLink (zR 8) 326 mX8_plainGives.1 ∈ zTB := zin6 234 (by decide +kernel) rfl
theorem l8_329 : Cond.methodLink (zR 8) 329 mX8_isUnder.1 ∈ zTB := zin6 227 (by decide +kernel) rfl
theorem l8_332 : Cond.methodLink (zR 8) 332 mX8_toldGives.1 ∈ zTB := zin6 238 (by decide +kernel) rfl
theorem l8_335 : Cond.methodLink (zR 8) 335 mX8_giving.1 ∈ zTB := zin6 223 (by decide +kernel) rfl
theorem l8_338 : Cond.methodLink (zR 8) 338 mX8_plainHolds.1 ∈ zTB := zin7 10 (by decide +kernel) rfl
theorem l8_341 : Cond.methodLink (zR 8) 341 mX8_soonHolds.1 ∈ zTB := zin7 6 (by decide +kernel) rfl
theorem l8_344 : Cond.methodLink (zR 8) 344 mX8_knowing.1 ∈ zTB := zin7 14 (by decide +kernel) rfl
theorem l8_347 : Cond.methodLink (zR 8) 347 mX8_plainKnows.1 ∈ zTB := zin7 22 (by decide +kernel) rfl
theorem l8_350 : Cond.methodLink (zR 8) 350 mX8_wishKnows.1 ∈ zTB := zin7 18 (by decide +kernel) rfl
theorem l8_353 : Cond.methodLink (zR 8) 353 mX8_holding.1 ∈ zTB := zin7 2 (by decide +kernel) rfl
theorem l8_356 : Cond.methodLink (zR 8) 356 mX8_plainTells.1 ∈ zTB := zin7 30 (by decide +kernel) rfl
theorem l8_359 : Cond.methodLink (zR 8) 359 mX8_isBody.1 ∈ zTB := zin6 219 (by decide +kernel) rfl
theorem l8_362 : Cond.methodLink (zR 8) 362 mX8_telling.1 ∈ zTB := zin7 26 (by decide +kernel) rfl
theorem l8_365 : Cond.methodLink (zR 8) 365 mX8_namedMany.1 ∈ zTB := zin7 38 (by decide +kernel) rfl
theorem l8_368 : Cond.methodLink (zR 8) 368 mX8_whyNoPlace.1 ∈ zTB := zin7 54 (by decide +kernel) rfl
theorem f7_10 : Cond.fieldLink (zR 7) 10 (zT 7 0).1 (zT 7 0).2.1 (zT 7 0).2.2.1 ∈ zTB := zin2 36 (by decide +kernel) rfl
theorem f7_21 : Cond.fieldLink (zR 7) 21 (zT 7 1).1 (zT 7 1).2.1 (zT 7 1).2.2.1 ∈ zTB := zin2 37 (by decide +kernel) rfl
theorem f7_30 : Cond.fieldLink (zR 7) 30 (zT 7 2).1 (zT 7 2).2.1 (zT 7 2).2.2.1 ∈ zTB := zin2 38 (by decide +kernel) rfl
theorem f7_39 : Cond.fieldLink (zR 7) 39 (zT 7 3).1 (zT 7 3).2.1 (zT 7 3).2.2.1 ∈ zTB := zin2 39 (by decide +kernel) rfl
theorem f7_46 : Cond.fieldLink (zR 7) 46 (zT 7 4).1 (zT 7 4).2.1 (zT 7 4).2.2.1 ∈ zTB := zin2 40 (by decide +kernel) rfl
theorem f7_53 : Cond.fieldLink (zR 7) 53 (zT 7 5).1 (zT 7 5).2.1 (zT 7 5).2.2.1 ∈ zTB := zin2 41 (by decide +kernel) rfl
theorem f7_59 : Cond.fieldLink (zR 7) 59 (zT 7 6).1 (zT 7 6).2.1 (zT 7 6).2.2.1 ∈ zTB := zin2 42 (by decide +kernel) rfl
theorem f7_64 : Cond.fieldLink (zR 7) 64 (zT 7 7).1 (zT 7 7).2.1 (zT 7 7).2.2.1 ∈ zTB := zin2 43 (by decide +kernel) rfl
theorem f7_68 : Cond.fieldLink (zR 7) 68 (zT 7 8).1 (zT 7 8).2.1 (zT 7 8).2.2.1 ∈ zTB := zin2 44 (by decide +kernel) rfl
theorem f7_91 : Cond.fieldLink (zR 7) 91 (zT 6 2).1 (zT 6 2).2.1 (zT 6 2).2.2.1 ∈ zTB := zin2 23 (by decide +kernel) rfl
theorem f7_105 : Cond.fieldLink (zR 7) 105 (zT 4 11).1 (zT 4 11).2.1 (zT 4 11).2.2.1 ∈ zTB := zin1 109 (by decide +kernel) rfl
theorem f7_115 : Cond.fieldLink (zR 7) 115 (zT 4 3).1 (zT 4 3).2.1 (zT 4 3).2.2.1 ∈ zTB := zin1 87 (by decide +kernel) rfl
theorem f7_121 : Cond.fieldLink (zR 7) 121 (zT 4 13).1 (zT 4 13).2.1 (zT 4 13).2.2.1 ∈ zTB := zin1 114 (by decide +kernel) rfl
theorem f7_127 : Cond.fieldLink (zR 7) 127 (zT 4 2).1 (zT 4 2).2.1 (zT 4 2).2.2.1 ∈ zTB := zin1 83 (by decide +kernel) rfl
theorem f7_130 : Cond.fieldLink (zR 7) 130 (zT 4 12).1 (zT 4 12).2.1 (zT 4 12).2.2.1 ∈ zTB := zin1 112 (by decide +kernel) rfl
theorem f7_165 : Cond.fieldLink (zR 7) 165 (zT 4 14).1 (zT 4 14).2.1 (zT 4 14).2.2.1 ∈ zTB := zin1 117 (by decide +kernel) rfl
theorem f7_197 : Cond.fieldLink (zR 7) 197 (zT 3 1).1 (zT 3 1).2.1 (zT 3 1).2.2.1 ∈ zTB := zin1 157 (by decide +kernel) rfl
theorem f7_218 : Cond.fieldLink (zR 7) 218 (zT 4 5).1 (zT 4 5).2.1 (zT 4 5).2.2.1 ∈ zTB := zin1 94 (by decide +kernel) rfl
theorem f7_221 : Cond.fieldLink (zR 7) 221 (zT 4 4).1 (zT 4 4).2.1 (zT 4 4).2.2.1 ∈ zTB := zin1 90 (by decide +kernel) rfl
theorem f7_224 : Cond.fieldLink (zR 7) 224 (zT 4 1).1 (zT 4 1).2.1 (zT 4 1).2.2.1 ∈ zTB := zin1 81 (by decide +kernel) rfl
theorem f7_247 : Cond.fieldLink (zR 7) 247 (zT 0 2).1 (zT 0 2).2.1 (zT 0 2).2.2.1 ∈ zTB := zin1 205 (by decide +kernel) rfl
theorem f7_250 : Cond.fieldLink (zR 7) 250 (zT 0 4).1 (zT 0 4).2.1 (zT 0 4).2.2.1 ∈ zTB := zin1 209 (by decide +kernel) rfl
theorem f7_259 : Cond.fieldLink (zR 7) 259 (zT 0 3).1 (zT 0 3).2.1 (zT 0 3).2.2.1 ∈ zTB := zin1 207 (by decide +kernel) rfl
theorem f7_265 : Cond.fieldLink (zR 7) 265 (zT 0 5).1 (zT 0 5).2.1 (zT 0 5).2.2.1 ∈ zTB := zin1 211 (by decide +kernel) rfl
theorem f7_279 : Cond.fieldLink (zR 7) 279 (zT 1 2).1 (zT 1 2).2.1 (zT 1 2).2.2.1 ∈ zTB := zin1 236 (by decide +kernel) rfl
theorem f7_299 : Cond.fieldLink (zR 7) 299 (zT 6 0).1 (zT 6 0).2.1 (zT 6 0).2.2.1 ∈ zTB := zin2 19 (by decide +kernel) rfl
theorem f7_310 : Cond.fieldLink (zR 7) 310 (zT 6 1).1 (zT 6 1).2.1 (zT 6 1).2.2.1 ∈ zTB := zin2 21 (by decide +kernel) rfl
theorem f7_313 : Cond.fieldLink (zR 7) 313 (zT 1 0).1 (zT 1 0).2.1 (zT 1 0).2.2.1 ∈ zTB := zin1 232 (by decide +kernel) rfl
theorem f7_319 : Cond.fieldLink (zR 7) 319 (zT 4 10).1 (zT 4 10).2.1 (zT 4 10).2.2.1 ∈ zTB := zin1 107 (by decide +kernel) rfl
theorem f7_325 : Cond.fieldLink (zR 7) 325 (zT 2 1).1 (zT 2 1).2.1 (zT 2 1).2.2.1 ∈ zTB := zin1 35 (by decide +kernel) rfl
theorem f7_328 : Cond.fieldLink (zR 7) 328 (zT 1 1).1 (zT 1 1).2.1 (zT 1 1).2.2.1 ∈ zTB := zin1 234 (by decide +kernel) rfl
theorem f7_331 : Cond.fieldLink (zR 7) 331 (zT 1 3).1 (zT 1 3).2.1 (zT 1 3).2.2.1 ∈ zTB := zin1 238 (by decide +kernel) rfl
theorem f7_334 : Cond.fieldLink (zR 7) 334 (zT 6 3).1 (zT 6 3).2.1 (zT 6 3).2.2.1 ∈ zTB := zin2 25 (by decide +kernel) rfl
theorem f7_340 : Cond.fieldLink (zR 7) 340 (zT 4 6).1 (zT 4 6).2.1 (zT 4 6).2.2.1 ∈ zTB := zin1 97 (by decide +kernel) rfl
theorem f7_343 : Cond.fieldLink (zR 7) 343 (zT 4 7).1 (zT 4 7).2.1 (zT 4 7).2.2.1 ∈ zTB := zin1 100 (by decide +kernel) rfl
theorem f7_346 : Cond.fieldLink (zR 7) 346 (zT 4 8).1 (zT 4 8).2.1 (zT 4 8).2.2.1 ∈ zTB := zin1 102 (by decide +kernel) rfl
theorem f7_352 : Cond.fieldLink (zR 7) 352 (zT 0 1).1 (zT 0 1).2.1 (zT 0 1).2.2.1 ∈ zTB := zin1 203 (by decide +kernel) rfl
theorem f7_355 : Cond.fieldLink (zR 7) 355 (zT 0 0).1 (zT 0 0).2.1 (zT 0 0).2.2.1 ∈ zTB := zin1 201 (by decide +kernel) rfl
theorem f0_9 : Cond.fieldLink (zR 0) 9 (zT 0 0).1 (zT 0 0).2.1 (zT 0 0).2.2.1 ∈ zTB := zin1 200 (by decide +kernel) rfl
theorem f0_13 : Cond.fieldLink (zR 0) 13 (zT 0 1).1 (zT 0 1).2.1 (zT 0 1).2.2.1 ∈ zTB := zin1 202 (by decide +kernel) rfl
theorem f0_16 : Cond.fieldLink (zR 0) 16 (zT 0 2).1 (zT 0 2).2.1 (zT 0 2).2.2.1 ∈ zTB := zin1 204 (by decide +kernel) rfl
theorem f0_19 : Cond.fieldLink (zR 0) 19 (zT 0 3).1 (zT 0 3).2.1 (zT 0 3).2.2.1 ∈ zTB := zin1 206 (by decide +kernel) rfl
theorem f0_22 : Cond.fieldLink (zR 0) 22 (zT 0 4).1 (zT 0 4).2.1 (zT 0 4).2.2.1 ∈ zTB := zin1 208 (by decide +kernel) rfl
theorem f0_29 : Cond.fieldLink (zR 0) 29 (zT 0 5).1 (zT 0 5).2.1 (zT 0 5).2.2.1 ∈ zTB := zin1 210 (by decide +kernel) rfl
theorem f1_11 : Cond.fieldLink (zR 1) 11 (zT 1 0).1 (zT 1 0).2.1 (zT 1 0).2.2.1 ∈ zTB := zin1 231 (by decide +kernel) rfl
theorem f1_15 : Cond.fieldLink (zR 1) 15 (zT 1 2).1 (zT 1 2).2.1 (zT 1 2).2.2.1 ∈ zTB := zin1 235 (by decide +kernel) rfl
theorem f1_18 : Cond.fieldLink (zR 1) 18 (zT 1 1).1 (zT 1 1).2.1 (zT 1 1).2.2.1 ∈ zTB := zin1 233 (by decide +kernel) rfl
theorem f1_22 : Cond.fieldLink (zR 1) 22 (zT 1 3).1 (zT 1 3).2.1 (zT 1 3).2.2.1 ∈ zTB := zin1 237 (by decide +kernel) rfl
theorem f1_31 : Cond.fieldLink (zR 1) 31 RX1 (zsn 1) "[I" ∈ zTB := zin4 162 (by decide +kernel) rfl
theorem f1_38 : Cond.fieldLink (zR 1) 38 (zT 1 4).1 (zT 1 4).2.1 (zT 1 4).2.2.1 ∈ zTB := zin1 239 (by decide +kernel) rfl
theorem f1_49 : Cond.fieldLink (zR 1) 49 RX1 (zsn 2) "[I" ∈ zTB := zin4 156 (by decide +kernel) rfl
theorem f2_11 : Cond.fieldLink (zR 2) 11 (zT 2 0).1 (zT 2 0).2.1 (zT 2 0).2.2.1 ∈ zTB := zin1 33 (by decide +kernel) rfl
theorem f2_15 : Cond.fieldLink (zR 2) 15 (zT 2 2).1 (zT 2 2).2.1 (zT 2 2).2.2.1 ∈ zTB := zin1 36 (by decide +kernel) rfl
theorem f2_18 : Cond.fieldLink (zR 2) 18 (zT 2 6).1 (zT 2 6).2.1 (zT 2 6).2.2.1 ∈ zTB := zin1 40 (by decide +kernel) rfl
theorem f2_21 : Cond.fieldLink (zR 2) 21 (zT 2 8).1 (zT 2 8).2.1 (zT 2 8).2.2.1 ∈ zTB := zin1 42 (by decide +kernel) rfl
theorem f2_24 : Cond.fieldLink (zR 2) 24 (zT 2 9).1 (zT 2 9).2.1 (zT 2 9).2.2.1 ∈ zTB := zin1 43 (by decide +kernel) rfl
theorem f2_27 : Cond.fieldLink (zR 2) 27 (zT 2 1).1 (zT 2 1).2.1 (zT 2 1).2.2.1 ∈ zTB := zin1 34 (by decide +kernel) rfl
theorem f2_31 : Cond.fieldLink (zR 2) 31 (zT 2 3).1 (zT 2 3).2.1 (zT 2 3).2.2.1 ∈ zTB := zin1 37 (by decide +kernel) rfl
theorem f2_34 : Cond.fieldLink (zR 2) 34 (zT 2 4).1 (zT 2 4).2.1 (zT 2 4).2.2.1 ∈ zTB := zin1 38 (by decide +kernel) rfl
theorem f2_37 : Cond.fieldLink (zR 2) 37 (zT 2 5).1 (zT 2 5).2.1 (zT 2 5).2.2.1 ∈ zTB := zin1 39 (by decide +kernel) rfl
theorem f2_49 : Cond.fieldLink (zR 2) 49 (zT 2 7).1 (zT 2 7).2.1 (zT 2 7).2.2.1 ∈ zTB := zin1 41 (by decide +kernel) rfl
theorem f2_100 : Cond.fieldLink (zR 2) 100 (zT 2 10).1 (zT 2 10).2.1 (zT 2 10).2.2.1 ∈ zTB := zin1 44 (by decide +kernel) rfl
theorem f3_9 : Cond.fieldLink (zR 3) 9 (zT 3 2).1 (zT 3 2).2.1 (zT 3 2).2.2.1 ∈ zTB := zin1 158 (by decide +kernel) rfl
theorem f3_15 : Cond.fieldLink (zR 3) 15 (zT 3 0).1 (zT 3 0).2.1 (zT 3 0).2.2.1 ∈ zTB := zin1 155 (by decide +kernel) rfl
theorem f3_19 : Cond.fieldLink (zR 3) 19 (zT 3 1).1 (zT 3 1).2.1 (zT 3 1).2.2.1 ∈ zTB := zin1 156 (by decide +kernel) rfl
theorem f3_31 : Cond.fieldLink (zR 3) 31 (zT 4 3).1 (zT 4 3).2.1 (zT 4 3).2.2.1 ∈ zTB := zin1 86 (by decide +kernel) rfl
theorem f3_40 : Cond.fieldLink (zR 3) 40 (zT 3 3).1 (zT 3 3).2.1 (zT 3 3).2.2.1 ∈ zTB := zin1 159 (by decide +kernel) rfl
theorem f3_54 : Cond.fieldLink (zR 3) 54 (zT 4 12).1 (zT 4 12).2.1 (zT 4 12).2.2.1 ∈ zTB := zin1 111 (by decide +kernel) rfl
theorem f3_57 : Cond.fieldLink (zR 3) 57 (zT 4 1).1 (zT 4 1).2.1 (zT 4 1).2.2.1 ∈ zTB := zin1 80 (by decide +kernel) rfl
theorem f3_67 : Cond.fieldLink (zR 3) 67 (zT 4 5).1 (zT 4 5).2.1 (zT 4 5).2.2.1 ∈ zTB := zin1 93 (by decide +kernel) rfl
theorem f3_70 : Cond.fieldLink (zR 3) 70 (zT 4 4).1 (zT 4 4).2.1 (zT 4 4).2.2.1 ∈ zTB := zin1 89 (by decide +kernel) rfl
theorem f3_90 : Cond.fieldLink (zR 3) 90 (zT 4 2).1 (zT 4 2).2.1 (zT 4 2).2.2.1 ∈ zTB := zin1 84 (by decide +kernel) rfl
theorem f4_9 : Cond.fieldLink (zR 4) 9 (zT 4 1).1 (zT 4 1).2.1 (zT 4 1).2.2.1 ∈ zTB := zin1 79 (by decide +kernel) rfl
theorem f4_15 : Cond.fieldLink (zR 4) 15 (zT 4 2).1 (zT 4 2).2.1 (zT 4 2).2.2.1 ∈ zTB := zin1 82 (by decide +kernel) rfl
theorem f4_18 : Cond.fieldLink (zR 4) 18 (zT 4 3).1 (zT 4 3).2.1 (zT 4 3).2.2.1 ∈ zTB := zin1 85 (by decide +kernel) rfl
theorem f4_21 : Cond.fieldLink (zR 4) 21 (zT 4 4).1 (zT 4 4).2.1 (zT 4 4).2.2.1 ∈ zTB := zin1 88 (by decide +kernel) rfl
theorem f4_24 : Cond.fieldLink (zR 4) 24 (zT 4 6).1 (zT 4 6).2.1 (zT 4 6).2.2.1 ∈ zTB := zin1 95 (by decide +kernel) rfl
theorem f4_27 : Cond.fieldLink (zR 4) 27 (zT 4 7).1 (zT 4 7).2.1 (zT 4 7).2.2.1 ∈ zTB := zin1 98 (by decide +kernel) rfl
theorem f4_30 : Cond.fieldLink (zR 4) 30 (zT 4 8).1 (zT 4 8).2.1 (zT 4 8).2.2.1 ∈ zTB := zin1 101 (by decide +kernel) rfl
theorem f4_33 : Cond.fieldLink (zR 4) 33 (zT 4 9).1 (zT 4 9).2.1 (zT 4 9).2.2.1 ∈ zTB := zin1 103 (by decide +kernel) rfl
theorem f4_36 : Cond.fieldLink (zR 4) 36 (zT 4 12).1 (zT 4 12).2.1 (zT 4 12).2.2.1 ∈ zTB := zin1 110 (by decide +kernel) rfl
theorem f4_39 : Cond.fieldLink (zR 4) 39 (zT 4 13).1 (zT 4 13).2.1 (zT 4 13).2.2.1 ∈ zTB := zin1 113 (by decide +kernel) rfl
theorem f4_42 : Cond.fieldLink (zR 4) 42 (zT 4 14).1 (zT 4 14).2.1 (zT 4 14).2.2.1 ∈ zTB := zin1 115 (by decide +kernel) rfl
theorem f4_45 : Cond.fieldLink (zR 4) 45 (zT 4 0).1 (zT 4 0).2.1 (zT 4 0).2.2.1 ∈ zTB := zin1 78 (by decide +kernel) rfl
theorem f4_61 : Cond.fieldLink (zR 4) 61 (zT 4 5).1 (zT 4 5).2.1 (zT 4 5).2.2.1 ∈ zTB := zin1 91 (by decide +kernel) rfl
theorem f4_65 : Cond.fieldLink (zR 4) 65 (zT 4 10).1 (zT 4 10).2.1 (zT 4 10).2.2.1 ∈ zTB := zin1 105 (by decide +kernel) rfl
theorem f4_68 : Cond.fieldLink (zR 4) 68 (zT 4 11).1 (zT 4 11).2.1 (zT 4 11).2.2.1 ∈ zTB := zin1 108 (by decide +kernel) rfl
theorem f5_9 : Cond.fieldLink (zR 5) 9 (zT 5 1).1 (zT 5 1).2.1 (zT 5 1).2.2.1 ∈ zTB := zin1 176 (by decide +kernel) rfl
theorem f5_15 : Cond.fieldLink (zR 5) 15 (zT 5 2).1 (zT 5 2).2.1 (zT 5 2).2.2.1 ∈ zTB := zin1 177 (by decide +kernel) rfl
theorem f5_18 : Cond.fieldLink (zR 5) 18 (zT 5 0).1 (zT 5 0).2.1 (zT 5 0).2.2.1 ∈ zTB := zin1 175 (by decide +kernel) rfl
theorem f5_22 : Cond.fieldLink (zR 5) 22 (zT 5 3).1 (zT 5 3).2.1 (zT 5 3).2.2.1 ∈ zTB := zin1 178 (by decide +kernel) rfl
theorem f5_36 : Cond.fieldLink (zR 5) 36 (zT 5 4).1 (zT 5 4).2.1 (zT 5 4).2.2.1 ∈ zTB := zin1 179 (by decide +kernel) rfl
theorem f5_39 : Cond.fieldLink (zR 5) 39 (zT 5 5).1 (zT 5 5).2.1 (zT 5 5).2.2.1 ∈ zTB := zin1 180 (by decide +kernel) rfl
theorem f5_46 : Cond.fieldLink (zR 5) 46 (zT 4 5).1 (zT 4 5).2.1 (zT 4 5).2.2.1 ∈ zTB := zin1 92 (by decide +kernel) rfl
theorem f5_66 : Cond.fieldLink (zR 5) 66 (zT 4 10).1 (zT 4 10).2.1 (zT 4 10).2.2.1 ∈ zTB := zin1 106 (by decide +kernel) rfl
theorem f5_69 : Cond.fieldLink (zR 5) 69 (zT 4 9).1 (zT 4 9).2.1 (zT 4 9).2.2.1 ∈ zTB := zin1 104 (by decide +kernel) rfl
theorem f5_79 : Cond.fieldLink (zR 5) 79 (zT 4 14).1 (zT 4 14).2.1 (zT 4 14).2.2.1 ∈ zTB := zin1 116 (by decide +kernel) rfl
theorem f5_86 : Cond.fieldLink (zR 5) 86 (zT 4 6).1 (zT 4 6).2.1 (zT 4 6).2.2.1 ∈ zTB := zin1 96 (by decide +kernel) rfl
theorem f5_89 : Cond.fieldLink (zR 5) 89 (zT 4 7).1 (zT 4 7).2.1 (zT 4 7).2.2.1 ∈ zTB := zin1 99 (by decide +kernel) rfl
theorem f6_11 : Cond.fieldLink (zR 6) 11 (zT 6 0).1 (zT 6 0).2.1 (zT 6 0).2.2.1 ∈ zTB := zin2 18 (by decide +kernel) rfl
theorem f6_15 : Cond.fieldLink (zR 6) 15 (zT 6 1).1 (zT 6 1).2.1 (zT 6 1).2.2.1 ∈ zTB := zin2 20 (by decide +kernel) rfl
theorem f6_19 : Cond.fieldLink (zR 6) 19 (zT 6 2).1 (zT 6 2).2.1 (zT 6 2).2.2.1 ∈ zTB := zin2 22 (by decide +kernel) rfl
theorem f6_22 : Cond.fieldLink (zR 6) 22 (zT 6 3).1 (zT 6 3).2.1 (zT 6 3).2.2.1 ∈ zTB := zin2 24 (by decide +kernel) rfl
theorem f8_7 : Cond.fieldLink (zR 8) 7 (zT 8 2).1 (zT 8 2).2.1 (zT 8 2).2.2.1 ∈ zTB := zin5 6 (by decide +kernel) rfl
theorem f8_13 : Cond.fieldLink (zR 8) 13 (zT 8 3).1 (zT 8 3).2.1 (zT 8 3).2.2.1 ∈ zTB := zin5 7 (by decide +kernel) rfl
theorem f8_16 : Cond.fieldLink (zR 8) 16 (zT 8 4).1 (zT 8 4).2.1 (zT 8 4).2.2.1 ∈ zTB := zin5 8 (by decide +kernel) rfl
theorem f8_19 : Cond.fieldLink (zR 8) 19 (zT 8 6).1 (zT 8 6).2.1 (zT 8 6).2.2.1 ∈ zTB := zin5 10 (by decide +kernel) rfl
theorem f8_22 : Cond.fieldLink (zR 8) 22 (zT 8 7).1 (zT 8 7).2.1 (zT 8 7).2.2.1 ∈ zTB := zin5 11 (by decide +kernel) rfl
theorem f8_25 : Cond.fieldLink (zR 8) 25 (zT 8 8).1 (zT 8 8).2.1 (zT 8 8).2.2.1 ∈ zTB := zin5 12 (by decide +kernel) rfl
theorem f8_28 : Cond.fieldLink (zR 8) 28 (zT 8 10).1 (zT 8 10).2.1 (zT 8 10).2.2.1 ∈ zTB := zin5 14 (by decide +kernel) rfl
theorem f8_31 : Cond.fieldLink (zR 8) 31 (zT 8 11).1 (zT 8 11).2.1 (zT 8 11).2.2.1 ∈ zTB := zin5 15 (by decide +kernel) rfl
theorem f8_34 : Cond.fieldLink (zR 8) 34 (zT 8 14).1 (zT 8 14).2.1 (zT 8 14).2.2.1 ∈ zTB := zin5 18 (by decide +kernel) rfl
theorem f8_37 : Cond.fieldLink (zR 8) 37 (zT 8 15).1 (zT 8 15).2.1 (zT 8 15).2.2.1 ∈ zTB := zin5 19 (by decide +kernel) rfl
theorem f8_40 : Cond.fieldLink (zR 8) 40 (zT 8 16).1 (zT 8 16).2.1 (zT 8 16).2.2.1 ∈ zTB := zin5 20 (by decide +kernel) rfl
theorem f8_43 : Cond.fieldLink (zR 8) 43 (zT 8 17).1 (zT 8 17).2.1 (zT 8 17).2.2.1 ∈ zTB := zin5 21 (by decide +kernel) rfl
theorem f8_46 : Cond.fieldLink (zR 8) 46 (zT 8 18).1 (zT 8 18).2.1 (zT 8 18).2.2.1 ∈ zTB := zin5 22 (by decide +kernel) rfl
theorem f8_50 : Cond.fieldLink (zR 8) 50 (zT 8 24).1 (zT 8 24).2.1 (zT 8 24).2.2.1 ∈ zTB := zin5 28 (by decide +kernel) rfl
theorem f8_53 : Cond.fieldLink (zR 8) 53 (zT 8 25).1 (zT 8 25).2.1 (zT 8 25).2.2.1 ∈ zTB := zin5 29 (by decide +kernel) rfl
theorem f8_56 : Cond.fieldLink (zR 8) 56 (zT 8 26).1 (zT 8 26).2.1 (zT 8 26).2.2.1 ∈ zTB := zin5 30 (by decide +kernel) rfl
theorem f8_59 : Cond.fieldLink (zR 8) 59 (zT 8 27).1 (zT 8 27).2.1 (zT 8 27).2.2.1 ∈ zTB := zin5 31 (by decide +kernel) rfl
theorem f8_63 : Cond.fieldLink (zR 8) 63 (zT 8 28).1 (zT 8 28).2.1 (zT 8 28).2.2.1 ∈ zTB := zin5 32 (by decide +kernel) rfl
theorem f8_66 : Cond.fieldLink (zR 8) 66 (zT 8 29).1 (zT 8 29).2.1 (zT 8 29).2.2.1 ∈ zTB := zin5 33 (by decide +kernel) rfl
theorem f8_69 : Cond.fieldLink (zR 8) 69 (zT 8 30).1 (zT 8 30).2.1 (zT 8 30).2.2.1 ∈ zTB := zin5 34 (by decide +kernel) rfl
theorem f8_72 : Cond.fieldLink (zR 8) 72 (zT 8 32).1 (zT 8 32).2.1 (zT 8 32).2.2.1 ∈ zTB := zin5 36 (by decide +kernel) rfl
theorem f8_75 : Cond.fieldLink (zR 8) 75 (zT 8 33).1 (zT 8 33).2.1 (zT 8 33).2.2.1 ∈ zTB := zin5 37 (by decide +kernel) rfl
theorem f8_79 : Cond.fieldLink (zR 8) 79 (zT 8 34).1 (zT 8 34).2.1 (zT 8 34).2.2.1 ∈ zTB := zin5 38 (by decide +kernel) rfl
theorem f8_82 : Cond.fieldLink (zR 8) 82 (zT 8 35).1 (zT 8 35).2.1 (zT 8 35).2.2.1 ∈ zTB := zin5 39 (by decide +kernel) rfl
theorem f8_85 : Cond.fieldLink (zR 8) 85 (zT 8 38).1 (zT 8 38).2.1 (zT 8 38).2.2.1 ∈ zTB := zin5 42 (by decide +kernel) rfl
theorem f8_88 : Cond.fieldLink (zR 8) 88 (zT 8 40).1 (zT 8 40).2.1 (zT 8 40).2.2.1 ∈ zTB := zin5 44 (by decide +kernel) rfl
theorem f8_91 : Cond.fieldLink (zR 8) 91 (zT 8 42).1 (zT 8 42).2.1 (zT 8 42).2.2.1 ∈ zTB := zin5 46 (by decide +kernel) rfl
theorem f8_94 : Cond.fieldLink (zR 8) 94 (zT 8 43).1 (zT 8 43).2.1 (zT 8 43).2.2.1 ∈ zTB := zin5 47 (by decide +kernel) rfl
theorem f8_97 : Cond.fieldLink (zR 8) 97 (zT 8 44).1 (zT 8 44).2.1 (zT 8 44).2.2.1 ∈ zTB := zin5 48 (by decide +kernel) rfl
theorem f8_100 : Cond.fieldLink (zR 8) 100 (zT 8 45).1 (zT 8 45).2.1 (zT 8 45).2.2.1 ∈ zTB := zin5 49 (by decide +kernel) rfl
theorem f8_104 : Cond.fieldLink (zR 8) 104 (zT 8 46).1 (zT 8 46).2.1 (zT 8 46).2.2.1 ∈ zTB := zin5 50 (by decide +kernel) rfl
theorem f8_111 : Cond.fieldLink (zR 8) 111 (zT 8 1).1 (zT 8 1).2.1 (zT 8 1).2.2.1 ∈ zTB := zin5 5 (by decide +kernel) rfl
theorem f8_141 : Cond.fieldLink (zR 8) 141 (zT 8 5).1 (zT 8 5).2.1 (zT 8 5).2.2.1 ∈ zTB := zin5 9 (by decide +kernel) rfl
theorem f8_144 : Cond.fieldLink (zR 8) 144 (zT 8 9).1 (zT 8 9).2.1 (zT 8 9).2.2.1 ∈ zTB := zin5 13 (by decide +kernel) rfl
theorem f8_155 : Cond.fieldLink (zR 8) 155 (zT 8 13).1 (zT 8 13).2.1 (zT 8 13).2.2.1 ∈ zTB := zin5 17 (by decide +kernel) rfl
theorem f8_158 : Cond.fieldLink (zR 8) 158 (zT 8 12).1 (zT 8 12).2.1 (zT 8 12).2.2.1 ∈ zTB := zin5 16 (by decide +kernel) rfl
theorem f8_181 : Cond.fieldLink (zR 8) 181 (zT 8 19).1 (zT 8 19).2.1 (zT 8 19).2.2.1 ∈ zTB := zin5 23 (by decide +kernel) rfl
theorem f8_184 : Cond.fieldLink (zR 8) 184 (zT 8 20).1 (zT 8 20).2.1 (zT 8 20).2.2.1 ∈ zTB := zin5 24 (by decide +kernel) rfl
theorem f8_187 : Cond.fieldLink (zR 8) 187 (zT 8 21).1 (zT 8 21).2.1 (zT 8 21).2.2.1 ∈ zTB := zin5 25 (by decide +kernel) rfl
theorem f8_190 : Cond.fieldLink (zR 8) 190 (zT 8 23).1 (zT 8 23).2.1 (zT 8 23).2.2.1 ∈ zTB := zin5 27 (by decide +kernel) rfl
theorem f8_193 : Cond.fieldLink (zR 8) 193 (zT 8 22).1 (zT 8 22).2.1 (zT 8 22).2.2.1 ∈ zTB := zin5 26 (by decide +kernel) rfl
theorem f8_247 : Cond.fieldLink (zR 8) 247 (zT 8 31).1 (zT 8 31).2.1 (zT 8 31).2.2.1 ∈ zTB := zin5 35 (by decide +kernel) rfl
theorem f8_311 : Cond.fieldLink (zR 8) 311 (zT 8 36).1 (zT 8 36).2.1 (zT 8 36).2.2.1 ∈ zTB := zin5 40 (by decide +kernel) rfl
theorem f8_314 : Cond.fieldLink (zR 8) 314 (zT 8 37).1 (zT 8 37).2.1 (zT 8 37).2.2.1 ∈ zTB := zin5 41 (by decide +kernel) rfl
theorem f8_317 : Cond.fieldLink (zR 8) 317 (zT 8 39).1 (zT 8 39).2.1 (zT 8 39).2.2.1 ∈ zTB := zin5 43 (by decide +kernel) rfl
theorem f8_320 : Cond.fieldLink (zR 8) 320 (zT 8 41).1 (zT 8 41).2.1 (zT 8 41).2.2.1 ∈ zTB := zin5 45 (by decide +kernel) rfl
theorem o7_114 : Cond.constant (zR 7) 114 (Int32.ofInt (-2000000000)) ∈ zTB := zin2 132 (by decide +kernel) rfl
theorem o9_265 : Cond.constant (zR 9) 265 (Int32.ofInt (1431655765)) ∈ zTB := zin3 187 (by decide +kernel) rfl
theorem o9_266 : Cond.constant (zR 9) 266 (Int32.ofInt (858993459)) ∈ zTB := zin3 188 (by decide +kernel) rfl
theorem o9_267 : Cond.constant (zR 9) 267 (Int32.ofInt (252645135)) ∈ zTB := zin3 189 (by decide +kernel) rfl
theorem o3_89 : Cond.constant (zR 3) 89 (Int32.ofInt (1103515245)) ∈ zTB := zin4 90 (by decide +kernel) rfl
theorem o8_147 : Cond.constant (zR 8) 147 (Int32.ofInt (-2000000000)) ∈ zTB := zin5 193 (by decide +kernel) rfl
theorem o8_310 : Cond.constant (zR 8) 310 (Int32.ofInt (1103515245)) ∈ zTB := zin6 198 (by decide +kernel) rfl
theorem o7_305 : Cond.constantLong (zR 7) 305 (Int64.ofInt (-9223372036854775808)) ∈ zTB := zin4 222 (by decide +kernel) rfl
theorem o8_133 : Cond.constantLong (zR 8) 133 (Int64.ofInt (2)) ∈ zTB := zin5 172 (by decide +kernel) rfl
theorem o8_373 : Cond.constantLong (zR 8) 373 (Int64.ofInt (-9223372036854775808)) ∈ zTB := zin7 62 (by decide +kernel) rfl
theorem o12_141 : Cond.constantLong (zR 12) 141 (Int64.ofInt (4294967295)) ∈ zTB := zin7 71 (by decide +kernel) rfl
theorem a0_0 {o : Nat} (h : zob o 0) : zar (o + 1) .int 40 := by
  obtain ⟨h1, h2, h3, h4⟩ := h
  have := zobs o h1 h2
  simp only [List.mem_cons, List.not_mem_nil, or_false] at this
  rcases this with rfl | rfl | rfl | rfl | rfl | rfl | rfl | rfl | rfl | rfl | rfl | rfl | rfl | rfl | rfl <;> first | (exfalso; revert h3; decide) | exact ⟨by decide, by decide, by decide, by decide⟩
theorem a0_1 {o : Nat} (h : zob o 0) : zar (o + 2) .int 40 := by
  obtain ⟨h1, h2, h3, h4⟩ := h
  have := zobs o h1 h2
  simp only [List.mem_cons, List.not_mem_nil, or_false] at this
  rcases this with rfl | rfl | rfl | rfl | rfl | rfl | rfl | rfl | rfl | rfl | rfl | rfl | rfl | rfl | rfl <;> first | (exfalso; revert h3; decide) | exact ⟨by decide, by decide, by decide, by decide⟩
theorem a0_2 {o : Nat} (h : zob o 0) : zar (o + 3) .int 40 := by
  obtain ⟨h1, h2, h3, h4⟩ := h
  have := zobs o h1 h2
  simp only [List.mem_cons, List.not_mem_nil, or_false] at this
  rcases this with rfl | rfl | rfl | rfl | rfl | rfl | rfl | rfl | rfl | rfl | rfl | rfl | rfl | rfl | rfl <;> first | (exfalso; revert h3; decide) | exact ⟨by decide, by decide, by decide, by decide⟩
theorem a0_3 {o : Nat} (h : zob o 0) : zar (o + 4) .int 40 := by
  obtain ⟨h1, h2, h3, h4⟩ := h
  have := zobs o h1 h2
  simp only [List.mem_cons, List.not_mem_nil, or_false] at this
  rcases this with rfl | rfl | rfl | rfl | rfl | rfl | rfl | rfl | rfl | rfl | rfl | rfl | rfl | rfl | rfl <;> first | (exfalso; revert h3; decide) | exact ⟨by decide, by decide, by decide, by decide⟩
theorem a1_0 {o : Nat} (h : zob o 1) : zar (o + 1) .int 50 := by
  obtain ⟨h1, h2, h3, h4⟩ := h
  have := zobs o h1 h2
  simp only [List.mem_cons, List.not_mem_nil, or_false] at this
  rcases this with rfl | rfl | rfl | rfl | rfl | rfl | rfl | rfl | rfl | rfl | rfl | rfl | rfl | rfl | rfl <;> first | (exfalso; revert h3; decide) | exact ⟨by decide, by decide, by decide, by decide⟩
theorem a1_2 {o : Nat} (h : zob o 1) : zar (o + 3) .int 24 := by
  obtain ⟨h1, h2, h3, h4⟩ := h
  have := zobs o h1 h2
  simp only [List.mem_cons, List.not_mem_nil, or_false] at this
  rcases this with rfl | rfl | rfl | rfl | rfl | rfl | rfl | rfl | rfl | rfl | rfl | rfl | rfl | rfl | rfl <;> first | (exfalso; revert h3; decide) | exact ⟨by decide, by decide, by decide, by decide⟩
theorem a2_0 {o : Nat} (h : zob o 2) : zar (o + 1) .int 120 := by
  obtain ⟨h1, h2, h3, h4⟩ := h
  have := zobs o h1 h2
  simp only [List.mem_cons, List.not_mem_nil, or_false] at this
  rcases this with rfl | rfl | rfl | rfl | rfl | rfl | rfl | rfl | rfl | rfl | rfl | rfl | rfl | rfl | rfl <;> first | (exfalso; revert h3; decide) | exact ⟨by decide, by decide, by decide, by decide⟩
theorem a2_2 {o : Nat} (h : zob o 2) : zar (o + 3) .int 120 := by
  obtain ⟨h1, h2, h3, h4⟩ := h
  have := zobs o h1 h2
  simp only [List.mem_cons, List.not_mem_nil, or_false] at this
  rcases this with rfl | rfl | rfl | rfl | rfl | rfl | rfl | rfl | rfl | rfl | rfl | rfl | rfl | rfl | rfl <;> first | (exfalso; revert h3; decide) | exact ⟨by decide, by decide, by decide, by decide⟩
theorem a2_6 {o : Nat} (h : zob o 2) : zar (o + 7) .int 120 := by
  obtain ⟨h1, h2, h3, h4⟩ := h
  have := zobs o h1 h2
  simp only [List.mem_cons, List.not_mem_nil, or_false] at this
  rcases this with rfl | rfl | rfl | rfl | rfl | rfl | rfl | rfl | rfl | rfl | rfl | rfl | rfl | rfl | rfl <;> first | (exfalso; revert h3; decide) | exact ⟨by decide, by decide, by decide, by decide⟩
theorem a2_8 {o : Nat} (h : zob o 2) : zar (o + 9) .int 6 := by
  obtain ⟨h1, h2, h3, h4⟩ := h
  have := zobs o h1 h2
  simp only [List.mem_cons, List.not_mem_nil, or_false] at this
  rcases this with rfl | rfl | rfl | rfl | rfl | rfl | rfl | rfl | rfl | rfl | rfl | rfl | rfl | rfl | rfl <;> first | (exfalso; revert h3; decide) | exact ⟨by decide, by decide, by decide, by decide⟩
theorem a2_9 {o : Nat} (h : zob o 2) : zar (o + 10) .int 120 := by
  obtain ⟨h1, h2, h3, h4⟩ := h
  have := zobs o h1 h2
  simp only [List.mem_cons, List.not_mem_nil, or_false] at this
  rcases this with rfl | rfl | rfl | rfl | rfl | rfl | rfl | rfl | rfl | rfl | rfl | rfl | rfl | rfl | rfl <;> first | (exfalso; revert h3; decide) | exact ⟨by decide, by decide, by decide, by decide⟩
theorem a3_2 {o : Nat} (h : zob o 3) : zar (o + 3) .int 12 := by
  obtain ⟨h1, h2, h3, h4⟩ := h
  have := zobs o h1 h2
  simp only [List.mem_cons, List.not_mem_nil, or_false] at this
  rcases this with rfl | rfl | rfl | rfl | rfl | rfl | rfl | rfl | rfl | rfl | rfl | rfl | rfl | rfl | rfl <;> first | (exfalso; revert h3; decide) | exact ⟨by decide, by decide, by decide, by decide⟩
theorem a4_1 {o : Nat} (h : zob o 4) : zar (o + 2) .int 12 := by
  obtain ⟨h1, h2, h3, h4⟩ := h
  have h5 : o ∈ ([192, 256] : List Nat) := by
    have := zobs o h1 h2
    simp only [List.mem_cons, List.not_mem_nil, or_false] at this ⊢
    rcases this with rfl | rfl | rfl | rfl | rfl | rfl | rfl | rfl | rfl | rfl | rfl | rfl | rfl | rfl | rfl <;> first | (exfalso; revert h3; decide) | simp
  simp only [List.mem_cons, List.not_mem_nil, or_false] at h5
  rcases h5 with rfl | rfl <;> exact ⟨by decide, by decide, by decide, by decide⟩
theorem a4_2 {o : Nat} (h : zob o 4) : zar (o + 3) .int 12 := by
  obtain ⟨h1, h2, h3, h4⟩ := h
  have h5 : o ∈ ([192, 256] : List Nat) := by
    have := zobs o h1 h2
    simp only [List.mem_cons, List.not_mem_nil, or_false] at this ⊢
    rcases this with rfl | rfl | rfl | rfl | rfl | rfl | rfl | rfl | rfl | rfl | rfl | rfl | rfl | rfl | rfl <;> first | (exfalso; revert h3; decide) | simp
  simp only [List.mem_cons, List.not_mem_nil, or_false] at h5
  rcases h5 with rfl | rfl <;> exact ⟨by decide, by decide, by decide, by decide⟩
theorem a4_3 {o : Nat} (h : zob o 4) : zar (o + 4) .int 12 := by
  obtain ⟨h1, h2, h3, h4⟩ := h
  have h5 : o ∈ ([192, 256] : List Nat) := by
    have := zobs o h1 h2
    simp only [List.mem_cons, List.not_mem_nil, or_false] at this ⊢
    rcases this with rfl | rfl | rfl | rfl | rfl | rfl | rfl | rfl | rfl | rfl | rfl | rfl | rfl | rfl | rfl <;> first | (exfalso; revert h3; decide) | simp
  simp only [List.mem_cons, List.not_mem_nil, or_false] at h5
  rcases h5 with rfl | rfl <;> exact ⟨by decide, by decide, by decide, by decide⟩
theorem a4_4 {o : Nat} (h : zob o 4) : zar (o + 5) .int 12 := by
  obtain ⟨h1, h2, h3, h4⟩ := h
  have h5 : o ∈ ([192, 256] : List Nat) := by
    have := zobs o h1 h2
    simp only [List.mem_cons, List.not_mem_nil, or_false] at this ⊢
    rcases this with rfl | rfl | rfl | rfl | rfl | rfl | rfl | rfl | rfl | rfl | rfl | rfl | rfl | rfl | rfl <;> first | (exfalso; revert h3; decide) | simp
  simp only [List.mem_cons, List.not_mem_nil, or_false] at h5
  rcases h5 with rfl | rfl <;> exact ⟨by decide, by decide, by decide, by decide⟩
theorem a4_6 {o : Nat} (h : zob o 4) : zar (o + 7) .int 16 := by
  obtain ⟨h1, h2, h3, h4⟩ := h
  have h5 : o ∈ ([192, 256] : List Nat) := by
    have := zobs o h1 h2
    simp only [List.mem_cons, List.not_mem_nil, or_false] at this ⊢
    rcases this with rfl | rfl | rfl | rfl | rfl | rfl | rfl | rfl | rfl | rfl | rfl | rfl | rfl | rfl | rfl <;> first | (exfalso; revert h3; decide) | simp
  simp only [List.mem_cons, List.not_mem_nil, or_false] at h5
  rcases h5 with rfl | rfl <;> exact ⟨by decide, by decide, by decide, by decide⟩
theorem a4_7 {o : Nat} (h : zob o 4) : zar (o + 8) .int 16 := by
  obtain ⟨h1, h2, h3, h4⟩ := h
  have h5 : o ∈ ([192, 256] : List Nat) := by
    have := zobs o h1 h2
    simp only [List.mem_cons, List.not_mem_nil, or_false] at this ⊢
    rcases this with rfl | rfl | rfl | rfl | rfl | rfl | rfl | rfl | rfl | rfl | rfl | rfl | rfl | rfl | rfl <;> first | (exfalso; revert h3; decide) | simp
  simp only [List.mem_cons, List.not_mem_nil, or_false] at h5
  rcases h5 with rfl | rfl <;> exact ⟨by decide, by decide, by decide, by decide⟩
theorem a4_8 {o : Nat} (h : zob o 4) : zar (o + 9) .int 16 := by
  obtain ⟨h1, h2, h3, h4⟩ := h
  have h5 : o ∈ ([192, 256] : List Nat) := by
    have := zobs o h1 h2
    simp only [List.mem_cons, List.not_mem_nil, or_false] at this ⊢
    rcases this with rfl | rfl | rfl | rfl | rfl | rfl | rfl | rfl | rfl | rfl | rfl | rfl | rfl | rfl | rfl <;> first | (exfalso; revert h3; decide) | simp
  simp only [List.mem_cons, List.not_mem_nil, or_false] at h5
  rcases h5 with rfl | rfl <;> exact ⟨by decide, by decide, by decide, by decide⟩
theorem a4_9 {o : Nat} (h : zob o 4) : zar (o + 10) .int 16 := by
  obtain ⟨h1, h2, h3, h4⟩ := h
  have h5 : o ∈ ([192, 256] : List Nat) := by
    have := zobs o h1 h2
    simp only [List.mem_cons, List.not_mem_nil, or_false] at this ⊢
    rcases this with rfl | rfl | rfl | rfl | rfl | rfl | rfl | rfl | rfl | rfl | rfl | rfl | rfl | rfl | rfl <;> first | (exfalso; revert h3; decide) | simp
  simp only [List.mem_cons, List.not_mem_nil, or_false] at h5
  rcases h5 with rfl | rfl <;> exact ⟨by decide, by decide, by decide, by decide⟩
theorem a4_12 {o : Nat} (h : zob o 4) : zar (o + 13) .int 12 := by
  obtain ⟨h1, h2, h3, h4⟩ := h
  have h5 : o ∈ ([192, 256] : List Nat) := by
    have := zobs o h1 h2
    simp only [List.mem_cons, List.not_mem_nil, or_false] at this ⊢
    rcases this with rfl | rfl | rfl | rfl | rfl | rfl | rfl | rfl | rfl | rfl | rfl | rfl | rfl | rfl | rfl <;> first | (exfalso; revert h3; decide) | simp
  simp only [List.mem_cons, List.not_mem_nil, or_false] at h5
  rcases h5 with rfl | rfl <;> exact ⟨by decide, by decide, by decide, by decide⟩
theorem a4_13 {o : Nat} (h : zob o 4) : zar (o + 14) .int 12 := by
  obtain ⟨h1, h2, h3, h4⟩ := h
  have h5 : o ∈ ([192, 256] : List Nat) := by
    have := zobs o h1 h2
    simp only [List.mem_cons, List.not_mem_nil, or_false] at this ⊢
    rcases this with rfl | rfl | rfl | rfl | rfl | rfl | rfl | rfl | rfl | rfl | rfl | rfl | rfl | rfl | rfl <;> first | (exfalso; revert h3; decide) | simp
  simp only [List.mem_cons, List.not_mem_nil, or_false] at h5
  rcases h5 with rfl | rfl <;> exact ⟨by decide, by decide, by decide, by decide⟩
theorem a4_14 {o : Nat} (h : zob o 4) : zar (o + 15) .int 12 := by
  obtain ⟨h1, h2, h3, h4⟩ := h
  have h5 : o ∈ ([192, 256] : List Nat) := by
    have := zobs o h1 h2
    simp only [List.mem_cons, List.not_mem_nil, or_false] at this ⊢
    rcases this with rfl | rfl | rfl | rfl | rfl | rfl | rfl | rfl | rfl | rfl | rfl | rfl | rfl | rfl | rfl <;> first | (exfalso; revert h3; decide) | simp
  simp only [List.mem_cons, List.not_mem_nil, or_false] at h5
  rcases h5 with rfl | rfl <;> exact ⟨by decide, by decide, by decide, by decide⟩
theorem a5_1 {o : Nat} (h : zob o 5) : zar (o + 2) .int 12 := by
  obtain ⟨h1, h2, h3, h4⟩ := h
  have := zobs o h1 h2
  simp only [List.mem_cons, List.not_mem_nil, or_false] at this
  rcases this with rfl | rfl | rfl | rfl | rfl | rfl | rfl | rfl | rfl | rfl | rfl | rfl | rfl | rfl | rfl <;> first | (exfalso; revert h3; decide) | exact ⟨by decide, by decide, by decide, by decide⟩
theorem a5_2 {o : Nat} (h : zob o 5) : zar (o + 3) .int 144 := by
  obtain ⟨h1, h2, h3, h4⟩ := h
  have := zobs o h1 h2
  simp only [List.mem_cons, List.not_mem_nil, or_false] at this
  rcases this with rfl | rfl | rfl | rfl | rfl | rfl | rfl | rfl | rfl | rfl | rfl | rfl | rfl | rfl | rfl <;> first | (exfalso; revert h3; decide) | exact ⟨by decide, by decide, by decide, by decide⟩
theorem a6_0 {o : Nat} (h : zob o 6) : zar (o + 1) .long 60 := by
  obtain ⟨h1, h2, h3, h4⟩ := h
  have h5 : o ∈ ([640, 704, 768, 832, 896, 960] : List Nat) := by
    have := zobs o h1 h2
    simp only [List.mem_cons, List.not_mem_nil, or_false] at this ⊢
    rcases this with rfl | rfl | rfl | rfl | rfl | rfl | rfl | rfl | rfl | rfl | rfl | rfl | rfl | rfl | rfl <;> first | (exfalso; revert h3; decide) | simp
  simp only [List.mem_cons, List.not_mem_nil, or_false] at h5
  rcases h5 with rfl | rfl | rfl | rfl | rfl | rfl <;> exact ⟨by decide, by decide, by decide, by decide⟩
theorem a7_6 {o : Nat} (h : zob o 7) : zar (o + 7) (.object RX6) 6 := by
  obtain ⟨h1, h2, h3, h4⟩ := h
  have := zobs o h1 h2
  simp only [List.mem_cons, List.not_mem_nil, or_false] at this
  rcases this with rfl | rfl | rfl | rfl | rfl | rfl | rfl | rfl | rfl | rfl | rfl | rfl | rfl | rfl | rfl <;> first | (exfalso; revert h3; decide) | exact ⟨by decide, by decide, by decide, by decide⟩
theorem a7_7 {o : Nat} (h : zob o 7) : zar (o + 8) .int 12 := by
  obtain ⟨h1, h2, h3, h4⟩ := h
  have := zobs o h1 h2
  simp only [List.mem_cons, List.not_mem_nil, or_false] at this
  rcases this with rfl | rfl | rfl | rfl | rfl | rfl | rfl | rfl | rfl | rfl | rfl | rfl | rfl | rfl | rfl <;> first | (exfalso; revert h3; decide) | exact ⟨by decide, by decide, by decide, by decide⟩
theorem a8_2 {o : Nat} (h : zob o 8) : zar (o + 3) .int 12 := by
  obtain ⟨h1, h2, h3, h4⟩ := h
  have := zobs o h1 h2
  simp only [List.mem_cons, List.not_mem_nil, or_false] at this
  rcases this with rfl | rfl | rfl | rfl | rfl | rfl | rfl | rfl | rfl | rfl | rfl | rfl | rfl | rfl | rfl <;> first | (exfalso; revert h3; decide) | exact ⟨by decide, by decide, by decide, by decide⟩
theorem a8_3 {o : Nat} (h : zob o 8) : zar (o + 4) .int 12 := by
  obtain ⟨h1, h2, h3, h4⟩ := h
  have := zobs o h1 h2
  simp only [List.mem_cons, List.not_mem_nil, or_false] at this
  rcases this with rfl | rfl | rfl | rfl | rfl | rfl | rfl | rfl | rfl | rfl | rfl | rfl | rfl | rfl | rfl <;> first | (exfalso; revert h3; decide) | exact ⟨by decide, by decide, by decide, by decide⟩
theorem a8_4 {o : Nat} (h : zob o 8) : zar (o + 5) .int 12 := by
  obtain ⟨h1, h2, h3, h4⟩ := h
  have := zobs o h1 h2
  simp only [List.mem_cons, List.not_mem_nil, or_false] at this
  rcases this with rfl | rfl | rfl | rfl | rfl | rfl | rfl | rfl | rfl | rfl | rfl | rfl | rfl | rfl | rfl <;> first | (exfalso; revert h3; decide) | exact ⟨by decide, by decide, by decide, by decide⟩
theorem a8_6 {o : Nat} (h : zob o 8) : zar (o + 7) .int 16 := by
  obtain ⟨h1, h2, h3, h4⟩ := h
  have := zobs o h1 h2
  simp only [List.mem_cons, List.not_mem_nil, or_false] at this
  rcases this with rfl | rfl | rfl | rfl | rfl | rfl | rfl | rfl | rfl | rfl | rfl | rfl | rfl | rfl | rfl <;> first | (exfalso; revert h3; decide) | exact ⟨by decide, by decide, by decide, by decide⟩
theorem a8_7 {o : Nat} (h : zob o 8) : zar (o + 8) .int 16 := by
  obtain ⟨h1, h2, h3, h4⟩ := h
  have := zobs o h1 h2
  simp only [List.mem_cons, List.not_mem_nil, or_false] at this
  rcases this with rfl | rfl | rfl | rfl | rfl | rfl | rfl | rfl | rfl | rfl | rfl | rfl | rfl | rfl | rfl <;> first | (exfalso; revert h3; decide) | exact ⟨by decide, by decide, by decide, by decide⟩
theorem a8_8 {o : Nat} (h : zob o 8) : zar (o + 9) .int 16 := by
  obtain ⟨h1, h2, h3, h4⟩ := h
  have := zobs o h1 h2
  simp only [List.mem_cons, List.not_mem_nil, or_false] at this
  rcases this with rfl | rfl | rfl | rfl | rfl | rfl | rfl | rfl | rfl | rfl | rfl | rfl | rfl | rfl | rfl <;> first | (exfalso; revert h3; decide) | exact ⟨by decide, by decide, by decide, by decide⟩
theorem a8_10 {o : Nat} (h : zob o 8) : zar (o + 11) .int 12 := by
  obtain ⟨h1, h2, h3, h4⟩ := h
  have := zobs o h1 h2
  simp only [List.mem_cons, List.not_mem_nil, or_false] at this
  rcases this with rfl | rfl | rfl | rfl | rfl | rfl | rfl | rfl | rfl | rfl | rfl | rfl | rfl | rfl | rfl <;> first | (exfalso; revert h3; decide) | exact ⟨by decide, by decide, by decide, by decide⟩
theorem a8_11 {o : Nat} (h : zob o 8) : zar (o + 12) .int 12 := by
  obtain ⟨h1, h2, h3, h4⟩ := h
  have := zobs o h1 h2
  simp only [List.mem_cons, List.not_mem_nil, or_false] at this
  rcases this with rfl | rfl | rfl | rfl | rfl | rfl | rfl | rfl | rfl | rfl | rfl | rfl | rfl | rfl | rfl <;> first | (exfalso; revert h3; decide) | exact ⟨by decide, by decide, by decide, by decide⟩
theorem a8_14 {o : Nat} (h : zob o 8) : zar (o + 15) .int 40 := by
  obtain ⟨h1, h2, h3, h4⟩ := h
  have := zobs o h1 h2
  simp only [List.mem_cons, List.not_mem_nil, or_false] at this
  rcases this with rfl | rfl | rfl | rfl | rfl | rfl | rfl | rfl | rfl | rfl | rfl | rfl | rfl | rfl | rfl <;> first | (exfalso; revert h3; decide) | exact ⟨by decide, by decide, by decide, by decide⟩
theorem a8_15 {o : Nat} (h : zob o 8) : zar (o + 16) .int 40 := by
  obtain ⟨h1, h2, h3, h4⟩ := h
  have := zobs o h1 h2
  simp only [List.mem_cons, List.not_mem_nil, or_false] at this
  rcases this with rfl | rfl | rfl | rfl | rfl | rfl | rfl | rfl | rfl | rfl | rfl | rfl | rfl | rfl | rfl <;> first | (exfalso; revert h3; decide) | exact ⟨by decide, by decide, by decide, by decide⟩
theorem a8_16 {o : Nat} (h : zob o 8) : zar (o + 17) .int 40 := by
  obtain ⟨h1, h2, h3, h4⟩ := h
  have := zobs o h1 h2
  simp only [List.mem_cons, List.not_mem_nil, or_false] at this
  rcases this with rfl | rfl | rfl | rfl | rfl | rfl | rfl | rfl | rfl | rfl | rfl | rfl | rfl | rfl | rfl <;> first | (exfalso; revert h3; decide) | exact ⟨by decide, by decide, by decide, by decide⟩
theorem a8_17 {o : Nat} (h : zob o 8) : zar (o + 18) .int 40 := by
  obtain ⟨h1, h2, h3, h4⟩ := h
  have := zobs o h1 h2
  simp only [List.mem_cons, List.not_mem_nil, or_false] at this
  rcases this with rfl | rfl | rfl | rfl | rfl | rfl | rfl | rfl | rfl | rfl | rfl | rfl | rfl | rfl | rfl <;> first | (exfalso; revert h3; decide) | exact ⟨by decide, by decide, by decide, by decide⟩
theorem a8_18 {o : Nat} (h : zob o 8) : zar (o + 19) .byte 120 := by
  obtain ⟨h1, h2, h3, h4⟩ := h
  have := zobs o h1 h2
  simp only [List.mem_cons, List.not_mem_nil, or_false] at this
  rcases this with rfl | rfl | rfl | rfl | rfl | rfl | rfl | rfl | rfl | rfl | rfl | rfl | rfl | rfl | rfl <;> first | (exfalso; revert h3; decide) | exact ⟨by decide, by decide, by decide, by decide⟩
theorem a8_24 {o : Nat} (h : zob o 8) : zar (o + 25) .byte 260 := by
  obtain ⟨h1, h2, h3, h4⟩ := h
  have := zobs o h1 h2
  simp only [List.mem_cons, List.not_mem_nil, or_false] at this
  rcases this with rfl | rfl | rfl | rfl | rfl | rfl | rfl | rfl | rfl | rfl | rfl | rfl | rfl | rfl | rfl <;> first | (exfalso; revert h3; decide) | exact ⟨by decide, by decide, by decide, by decide⟩
theorem a8_25 {o : Nat} (h : zob o 8) : zar (o + 26) .int 260 := by
  obtain ⟨h1, h2, h3, h4⟩ := h
  have := zobs o h1 h2
  simp only [List.mem_cons, List.not_mem_nil, or_false] at this
  rcases this with rfl | rfl | rfl | rfl | rfl | rfl | rfl | rfl | rfl | rfl | rfl | rfl | rfl | rfl | rfl <;> first | (exfalso; revert h3; decide) | exact ⟨by decide, by decide, by decide, by decide⟩
theorem a8_26 {o : Nat} (h : zob o 8) : zar (o + 27) .int 2 := by
  obtain ⟨h1, h2, h3, h4⟩ := h
  have := zobs o h1 h2
  simp only [List.mem_cons, List.not_mem_nil, or_false] at this
  rcases this with rfl | rfl | rfl | rfl | rfl | rfl | rfl | rfl | rfl | rfl | rfl | rfl | rfl | rfl | rfl <;> first | (exfalso; revert h3; decide) | exact ⟨by decide, by decide, by decide, by decide⟩
theorem a8_27 {o : Nat} (h : zob o 8) : zar (o + 28) .short 122 := by
  obtain ⟨h1, h2, h3, h4⟩ := h
  have := zobs o h1 h2
  simp only [List.mem_cons, List.not_mem_nil, or_false] at this
  rcases this with rfl | rfl | rfl | rfl | rfl | rfl | rfl | rfl | rfl | rfl | rfl | rfl | rfl | rfl | rfl <;> first | (exfalso; revert h3; decide) | exact ⟨by decide, by decide, by decide, by decide⟩
theorem a8_28 {o : Nat} (h : zob o 8) : zar (o + 29) .short 122 := by
  obtain ⟨h1, h2, h3, h4⟩ := h
  have := zobs o h1 h2
  simp only [List.mem_cons, List.not_mem_nil, or_false] at this
  rcases this with rfl | rfl | rfl | rfl | rfl | rfl | rfl | rfl | rfl | rfl | rfl | rfl | rfl | rfl | rfl <;> first | (exfalso; revert h3; decide) | exact ⟨by decide, by decide, by decide, by decide⟩
theorem a8_29 {o : Nat} (h : zob o 8) : zar (o + 30) .int 6 := by
  obtain ⟨h1, h2, h3, h4⟩ := h
  have := zobs o h1 h2
  simp only [List.mem_cons, List.not_mem_nil, or_false] at this
  rcases this with rfl | rfl | rfl | rfl | rfl | rfl | rfl | rfl | rfl | rfl | rfl | rfl | rfl | rfl | rfl <;> first | (exfalso; revert h3; decide) | exact ⟨by decide, by decide, by decide, by decide⟩
theorem a8_30 {o : Nat} (h : zob o 8) : zar (o + 31) .int 130 := by
  obtain ⟨h1, h2, h3, h4⟩ := h
  have := zobs o h1 h2
  simp only [List.mem_cons, List.not_mem_nil, or_false] at this
  rcases this with rfl | rfl | rfl | rfl | rfl | rfl | rfl | rfl | rfl | rfl | rfl | rfl | rfl | rfl | rfl <;> first | (exfalso; revert h3; decide) | exact ⟨by decide, by decide, by decide, by decide⟩
theorem a8_32 {o : Nat} (h : zob o 8) : zar (o + 33) .int 12 := by
  obtain ⟨h1, h2, h3, h4⟩ := h
  have := zobs o h1 h2
  simp only [List.mem_cons, List.not_mem_nil, or_false] at this
  rcases this with rfl | rfl | rfl | rfl | rfl | rfl | rfl | rfl | rfl | rfl | rfl | rfl | rfl | rfl | rfl <;> first | (exfalso; revert h3; decide) | exact ⟨by decide, by decide, by decide, by decide⟩
theorem a8_33 {o : Nat} (h : zob o 8) : zar (o + 34) .boolean 16 := by
  obtain ⟨h1, h2, h3, h4⟩ := h
  have := zobs o h1 h2
  simp only [List.mem_cons, List.not_mem_nil, or_false] at this
  rcases this with rfl | rfl | rfl | rfl | rfl | rfl | rfl | rfl | rfl | rfl | rfl | rfl | rfl | rfl | rfl <;> first | (exfalso; revert h3; decide) | exact ⟨by decide, by decide, by decide, by decide⟩
theorem a8_34 {o : Nat} (h : zob o 8) : zar (o + 35) .int 12 := by
  obtain ⟨h1, h2, h3, h4⟩ := h
  have := zobs o h1 h2
  simp only [List.mem_cons, List.not_mem_nil, or_false] at this
  rcases this with rfl | rfl | rfl | rfl | rfl | rfl | rfl | rfl | rfl | rfl | rfl | rfl | rfl | rfl | rfl <;> first | (exfalso; revert h3; decide) | exact ⟨by decide, by decide, by decide, by decide⟩
theorem a8_35 {o : Nat} (h : zob o 8) : zar (o + 36) .int 12 := by
  obtain ⟨h1, h2, h3, h4⟩ := h
  have := zobs o h1 h2
  simp only [List.mem_cons, List.not_mem_nil, or_false] at this
  rcases this with rfl | rfl | rfl | rfl | rfl | rfl | rfl | rfl | rfl | rfl | rfl | rfl | rfl | rfl | rfl <;> first | (exfalso; revert h3; decide) | exact ⟨by decide, by decide, by decide, by decide⟩
theorem a8_38 {o : Nat} (h : zob o 8) : zar (o + 39) .int 12 := by
  obtain ⟨h1, h2, h3, h4⟩ := h
  have := zobs o h1 h2
  simp only [List.mem_cons, List.not_mem_nil, or_false] at this
  rcases this with rfl | rfl | rfl | rfl | rfl | rfl | rfl | rfl | rfl | rfl | rfl | rfl | rfl | rfl | rfl <;> first | (exfalso; revert h3; decide) | exact ⟨by decide, by decide, by decide, by decide⟩
theorem a8_40 {o : Nat} (h : zob o 8) : zar (o + 41) .int 50 := by
  obtain ⟨h1, h2, h3, h4⟩ := h
  have := zobs o h1 h2
  simp only [List.mem_cons, List.not_mem_nil, or_false] at this
  rcases this with rfl | rfl | rfl | rfl | rfl | rfl | rfl | rfl | rfl | rfl | rfl | rfl | rfl | rfl | rfl <;> first | (exfalso; revert h3; decide) | exact ⟨by decide, by decide, by decide, by decide⟩
theorem a8_42 {o : Nat} (h : zob o 8) : zar (o + 43) .int 24 := by
  obtain ⟨h1, h2, h3, h4⟩ := h
  have := zobs o h1 h2
  simp only [List.mem_cons, List.not_mem_nil, or_false] at this
  rcases this with rfl | rfl | rfl | rfl | rfl | rfl | rfl | rfl | rfl | rfl | rfl | rfl | rfl | rfl | rfl <;> first | (exfalso; revert h3; decide) | exact ⟨by decide, by decide, by decide, by decide⟩
theorem a8_43 {o : Nat} (h : zob o 8) : zar (o + 44) .int 6 := by
  obtain ⟨h1, h2, h3, h4⟩ := h
  have := zobs o h1 h2
  simp only [List.mem_cons, List.not_mem_nil, or_false] at this
  rcases this with rfl | rfl | rfl | rfl | rfl | rfl | rfl | rfl | rfl | rfl | rfl | rfl | rfl | rfl | rfl <;> first | (exfalso; revert h3; decide) | exact ⟨by decide, by decide, by decide, by decide⟩
theorem a8_44 {o : Nat} (h : zob o 8) : zar (o + 45) .int 6 := by
  obtain ⟨h1, h2, h3, h4⟩ := h
  have := zobs o h1 h2
  simp only [List.mem_cons, List.not_mem_nil, or_false] at this
  rcases this with rfl | rfl | rfl | rfl | rfl | rfl | rfl | rfl | rfl | rfl | rfl | rfl | rfl | rfl | rfl <;> first | (exfalso; revert h3; decide) | exact ⟨by decide, by decide, by decide, by decide⟩
theorem a8_45 {o : Nat} (h : zob o 8) : zar (o + 46) .long 360 := by
  obtain ⟨h1, h2, h3, h4⟩ := h
  have := zobs o h1 h2
  simp only [List.mem_cons, List.not_mem_nil, or_false] at this
  rcases this with rfl | rfl | rfl | rfl | rfl | rfl | rfl | rfl | rfl | rfl | rfl | rfl | rfl | rfl | rfl <;> first | (exfalso; revert h3; decide) | exact ⟨by decide, by decide, by decide, by decide⟩
theorem a8_46 {o : Nat} (h : zob o 8) : zar (o + 47) .long 60 := by
  obtain ⟨h1, h2, h3, h4⟩ := h
  have := zobs o h1 h2
  simp only [List.mem_cons, List.not_mem_nil, or_false] at this
  rcases this with rfl | rfl | rfl | rfl | rfl | rfl | rfl | rfl | rfl | rfl | rfl | rfl | rfl | rfl | rfl <;> first | (exfalso; revert h3; decide) | exact ⟨by decide, by decide, by decide, by decide⟩
