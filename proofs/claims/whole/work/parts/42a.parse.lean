/-! the law's text, read -/
abbrev zRs : Type := Nat × List Int × Option Nat
def nbT (t : Nat) (T : Nat → Int) (h : Nat) : Int := if h < t then T h else -1
def dgB (c : Int) : Bool := decide (48 ≤ c ∧ c ≤ 57)
def rkO (c : Int) : Int := if c = 124 then 0 else if c = 38 then 1 else if c = 60 ∨ c = 61 ∨ c = 62 then 2 else if c = 43 ∨ c = 45 then 3 else if c = 42 ∨ c = 47 ∨ c = 37 then 4 else -1
def nmF (t : Nat) (T : Nat → Int) : Nat → Nat → Int → Nat × Int
  | 0, h, v => (h, v)
  | f + 1, h, v => if dgB (nbT t T h) = true then nmF t T f (h + 1) (v * 10 + nbT t T h - 48) else (h, v)
def opL (t : Nat) (T : Nat → Int) (h : Nat) : Option zRs :=
  if dgB (nbT t T h) = true then some ((nmF t T 4 h 0).1, [(nmF t T 4 h 0).2], if dgB (nbT t T (nmF t T 4 h 0).1) = true then some (nmF t T 4 h 0).1 else none)
  else if 0 ≤ zlet (nbT t T h) then some (h + 1, [-1 - zlet (nbT t T h)], none) else none
def unR (R : zRs) (c : Int) : zRs := match R.2.2 with | none => (R.1, R.2.1 ++ [c], none) | some f => (R.1, [], some f)
def prR (t : Nat) (T : Nat → Int) (R : zRs) : zRs := match R.2.2 with | none => (if nbT t T R.1 = 41 then (R.1 + 1, R.2.1, none) else (R.1, [], some R.1)) | some f => (R.1, [], some f)
def lp (t : Nat) (T : Nat → Int) (S : Nat → zRs) (r : Int) : Nat → Nat → List Int → zRs
  | 0, h, cs => (h, cs, none)
  | x + 1, h, cs => if rkO (nbT t T h) = r then (match (S (h + 1)).2.2 with | none => (if r = 2 then ((S (h + 1)).1, cs ++ (S (h + 1)).2.1 ++ [-(nbT t T h)], none) else lp t T S r x (S (h + 1)).1 (cs ++ (S (h + 1)).2.1 ++ [-(nbT t T h)])) | some f => ((S (h + 1)).1, [], some f)) else (h, cs, none)
def rkD (t : Nat) (T : Nat → Int) (O : Nat → zRs) : Nat → Nat → zRs
  | 0 => O
  | j + 1 => fun h => match (rkD t T O j h).2.2 with | none => lp t T (rkD t T O j) (4 - (j : Int)) t (rkD t T O j h).1 (rkD t T O j h).2.1 | some f => ((rkD t T O j h).1, [], some f)
def opF (t : Nat) (T : Nat → Int) : Nat → Nat → zRs
  | 0 => fun h => match opL t T h with | some r => r | none => (h, [], some h)
  | m + 1 => fun h => match opL t T h with | some r => r | none => if nbT t T h = 33 ∨ nbT t T h = 45 then unR (opF t T m (h + 1)) (if nbT t T h = 45 then -126 else -33) else if nbT t T h = 40 then prR t T (rkD t T (opF t T m) 5 (h + 1)) else (h, [], some h)
def Gd (cs : List Int) : Prop := ∀ s, lwH cs s = some (s + 1)
def CcO (c : Int) : Prop := (-6 ≤ c ∧ c < 10000) ∨ c = -33 ∨ c = -126 ∨ bsgn c
def Sok (t h : Nat) (R : zRs) : Prop := (R.2.2 = none → h + 1 ≤ R.1 ∧ R.1 ≤ t ∧ Gd R.2.1 ∧ R.2.1.length + h ≤ R.1 ∧ ∀ c ∈ R.2.1, CcO c) ∧ (∀ f, R.2.2 = some f → h ≤ f ∧ f ≤ t)
theorem lwH_ap : ∀ (as bs : List Int) (h h1 : Nat), lwH as h = some h1 → lwH (as ++ bs) h = lwH bs h1
  | [], bs, h, h1, q => by rw [lwH] at q; cases q; rfl
  | c :: as, bs, h, h1, q => by
    rw [List.cons_append]
    rcases lwH_c q with ⟨q1, q2⟩ | ⟨q1, q2, q3⟩ | ⟨q1, q2, q3⟩ | ⟨q1, q2, q3, q4, q5, q6⟩
    · rw [lwH, if_pos q1]; exact lwH_ap as bs _ _ q2
    · rw [lwH, if_neg (by omega), if_pos (Or.inl q1), if_pos q2]; exact lwH_ap as bs _ _ q3
    · rw [lwH, if_neg (by omega), if_pos (Or.inr q1), if_pos q2]; exact lwH_ap as bs _ _ q3
    · unfold bsgn at q4; rw [lwH, if_neg (by omega), if_neg (by omega), if_pos q4, if_pos q5]; exact lwH_ap as bs _ _ q6
theorem Gd_push {c : Int} (h : -6 ≤ c) : Gd [c] := fun s => by rw [lwH, if_pos h, lwH]
theorem Gd_un {cs : List Int} {c : Int} (h : Gd cs) (hc : c = -33 ∨ c = -126) : Gd (cs ++ [c]) := fun s => by
  rw [lwH_ap cs [c] s _ (h s), lwH, if_neg (by omega), if_pos hc, if_pos (by omega), lwH]
theorem Gd_bin {as bs : List Int} {c : Int} (h1 : Gd as) (h2 : Gd bs) (hc : bsgn c) : Gd (as ++ bs ++ [c]) := fun s => by
  have hc2 := hc
  unfold bsgn at hc2
  rw [lwH_ap (as ++ bs) [c] s (s + 2) (by rw [lwH_ap as bs s _ (h1 s)]; exact h2 (s + 1)), lwH, if_neg (by omega), if_neg (by omega), if_pos hc2, if_pos (by omega), lwH]
  rfl
theorem nb_t {t h : Nat} {T : Nat → Int} (q : nbT t T h ≠ -1) : h < t ∧ nbT t T h = T h := by
  unfold nbT at q ⊢
  by_cases e : h < t
  · rw [if_pos e]; exact ⟨e, rfl⟩
  · rw [if_neg e] at q; exact absurd rfl q
theorem dg_i {c : Int} : dgB c = true ↔ 48 ≤ c ∧ c ≤ 57 := by unfold dgB; rw [decide_eq_true_iff]
theorem nm_ok {t : Nat} {T : Nat → Int} : ∀ (f h : Nat) (v B : Int), h ≤ t → 0 ≤ v → v < B → h ≤ (nmF t T f h v).1 ∧ (nmF t T f h v).1 ≤ t ∧ 0 ≤ (nmF t T f h v).2 ∧ (nmF t T f h v).2 < B * 10 ^ f
  | 0, h, v, B, h1, h2, h3 => by
    rw [nmF]; simp only [Int.pow_zero, Int.mul_one]; exact ⟨Nat.le_refl _, h1, h2, h3⟩
  | f + 1, h, v, B, h1, h2, h3 => by
    rw [nmF]
    have ep : B * 10 ^ (f + 1) = (B * 10) * 10 ^ f := by rw [Int.pow_succ, Int.mul_comm ((10 : Int) ^ f) 10, Int.mul_assoc]
    split
    · rename_i q
      have q2 := dg_i.mp q
      have q3 := nb_t (show nbT t T h ≠ -1 by omega)
      have ih := nm_ok (t := t) (T := T) f (h + 1) (v * 10 + nbT t T h - 48) (B * 10) (by omega) (by omega) (by omega)
      rw [ep]
      exact ⟨by omega, ih.2.1, ih.2.2.1, ih.2.2.2⟩
    · have ih := nm_ok (t := t) (T := T) 0 h v B h1 h2 h3
      have p1 : (1 : Int) ≤ 10 ^ (f + 1) := Int.pow_pos (by omega)
      have : B * 1 ≤ B * 10 ^ (f + 1) := Int.mul_le_mul_of_nonneg_left p1 (by omega)
      exact ⟨Nat.le_refl _, h1, h2, by omega⟩
theorem nm_1 {t : Nat} {T : Nat → Int} {h : Nat} (q : dgB (nbT t T h) = true) : h + 1 ≤ (nmF t T 4 h 0).1 := by
  have q2 := dg_i.mp q
  have q3 := nb_t (show nbT t T h ≠ -1 by omega)
  rw [nmF, if_pos q]
  exact (nm_ok (t := t) (T := T) 3 (h + 1) _ 10 (by omega) (by omega) (by omega)).1
theorem zlet_bd (c : Int) : -1 ≤ zlet c ∧ zlet c < 6 := by
  unfold zlet
  repeat' split
  all_goals omega
theorem zlet_p {c : Int} (h : 0 ≤ zlet c) : 97 ≤ c ∧ c ≤ 119 := by
  unfold zlet at h
  by_cases a1 : c = 97
  · omega
  by_cases a2 : c = 100
  · omega
  by_cases a3 : c = 102
  · omega
  by_cases a4 : c = 119
  · omega
  by_cases a5 : c = 105
  · omega
  by_cases a6 : c = 110
  · omega
  rw [if_neg a1, if_neg a2, if_neg a3, if_neg a4, if_neg a5, if_neg a6] at h
  omega
theorem rk_p {c : Int} (h : 0 ≤ rkO c) : bsgn (-c) := by
  unfold bsgn
  unfold rkO at h
  by_cases a1 : c = 124
  · omega
  by_cases a2 : c = 38
  · omega
  by_cases a3 : c = 60 ∨ c = 61 ∨ c = 62
  · omega
  by_cases a4 : c = 43 ∨ c = 45
  · omega
  by_cases a5 : c = 42 ∨ c = 47 ∨ c = 37
  · omega
  rw [if_neg a1, if_neg a2, if_neg a3, if_neg a4, if_neg a5] at h
  omega
theorem Sok_opL {t : Nat} {T : Nat → Int} {h : Nat} {R : zRs} (hh : h ≤ t) (e : opL t T h = some R) : Sok t h R := by
  unfold opL at e
  by_cases q : dgB (nbT t T h) = true
  · rw [if_pos q] at e
    cases e
    have n1 := nm_1 q
    have n2 := nm_ok (t := t) (T := T) 4 h 0 1 hh (by omega) (by omega)
    refine ⟨fun _ => ⟨n1, n2.2.1, Gd_push (by first | omega | (dsimp only; omega)), by simp; omega, fun c hc => ?_⟩, fun f hf => ?_⟩
    · rw [List.mem_singleton] at hc
      subst hc
      left
      have := n2.2.2
      omega
    · dsimp only at hf
      split at hf
      · cases hf; exact ⟨n2.1, n2.2.1⟩
      · cases hf
  · rw [if_neg q] at e
    by_cases q2 : 0 ≤ zlet (nbT t T h)
    · rw [if_pos q2] at e
      cases e
      have b := zlet_bd (nbT t T h)
      have p := zlet_p q2
      have q3 := nb_t (show nbT t T h ≠ -1 by omega)
      refine ⟨fun _ => ⟨Nat.le_refl _, q3.1, Gd_push (by omega), by simp; omega, fun c hc => ?_⟩, fun f hf => by cases hf⟩
      rw [List.mem_singleton] at hc
      subst hc
      left; omega
    · rw [if_neg q2] at e; cases e
theorem unR_n {R : zRs} {c : Int} (h : R.2.2 = none) : unR R c = (R.1, R.2.1 ++ [c], none) := by unfold unR; rw [h]
theorem unR_f {R : zRs} {c : Int} {f : Nat} (h : R.2.2 = some f) : unR R c = (R.1, [], some f) := by unfold unR; rw [h]
theorem prR_c {t : Nat} {T : Nat → Int} {R : zRs} (h : R.2.2 = none) (q : nbT t T R.1 = 41) : prR t T R = (R.1 + 1, R.2.1, none) := by unfold prR; rw [h]; dsimp only; rw [if_pos q]
theorem prR_o {t : Nat} {T : Nat → Int} {R : zRs} (h : R.2.2 = none) (q : ¬ nbT t T R.1 = 41) : prR t T R = (R.1, [], some R.1) := by unfold prR; rw [h]; dsimp only; rw [if_neg q]
theorem prR_f {t : Nat} {T : Nat → Int} {R : zRs} {f : Nat} (h : R.2.2 = some f) : prR t T R = (R.1, [], some f) := by unfold prR; rw [h]
theorem lp_x {t : Nat} {T : Nat → Int} {S : Nat → zRs} {r : Int} {x h : Nat} {cs : List Int} (q : ¬ rkO (nbT t T h) = r) : lp t T S r x h cs = (h, cs, none) := by
  match x with
  | 0 => rfl
  | x + 1 => rw [lp, if_neg q]
theorem lp_2 {t : Nat} {T : Nat → Int} {S : Nat → zRs} {r : Int} {x h : Nat} {cs : List Int} (q : rkO (nbT t T h) = r) (e : (S (h + 1)).2.2 = none) (r2 : r = 2) : lp t T S r (x + 1) h cs = ((S (h + 1)).1, cs ++ (S (h + 1)).2.1 ++ [-(nbT t T h)], none) := by
  rw [lp, if_pos q, e]; dsimp only; rw [if_pos r2]
theorem lp_n {t : Nat} {T : Nat → Int} {S : Nat → zRs} {r : Int} {x h : Nat} {cs : List Int} (q : rkO (nbT t T h) = r) (e : (S (h + 1)).2.2 = none) (r2 : ¬ r = 2) : lp t T S r (x + 1) h cs = lp t T S r x (S (h + 1)).1 (cs ++ (S (h + 1)).2.1 ++ [-(nbT t T h)]) := by
  rw [lp, if_pos q, e]; dsimp only; rw [if_neg r2]
theorem lp_f {t : Nat} {T : Nat → Int} {S : Nat → zRs} {r : Int} {x h f : Nat} {cs : List Int} (q : rkO (nbT t T h) = r) (e : (S (h + 1)).2.2 = some f) : lp t T S r (x + 1) h cs = ((S (h + 1)).1, [], some f) := by
  rw [lp, if_pos q, e]
theorem rkD_n {t : Nat} {T : Nat → Int} {O : Nat → zRs} {j h : Nat} (e : (rkD t T O j h).2.2 = none) : rkD t T O (j + 1) h = lp t T (rkD t T O j) (4 - (j : Int)) t (rkD t T O j h).1 (rkD t T O j h).2.1 := by
  show (match (rkD t T O j h).2.2 with | none => lp t T (rkD t T O j) (4 - (j : Int)) t (rkD t T O j h).1 (rkD t T O j h).2.1 | some f => ((rkD t T O j h).1, [], some f)) = _
  rw [e]
theorem rkD_f {t : Nat} {T : Nat → Int} {O : Nat → zRs} {j h f : Nat} (e : (rkD t T O j h).2.2 = some f) : rkD t T O (j + 1) h = ((rkD t T O j h).1, [], some f) := by
  show (match (rkD t T O j h).2.2 with | none => lp t T (rkD t T O j) (4 - (j : Int)) t (rkD t T O j h).1 (rkD t T O j h).2.1 | some f => ((rkD t T O j h).1, [], some f)) = _
  rw [e]
theorem opF_l {t : Nat} {T : Nat → Int} {m h : Nat} {r : zRs} (e : opL t T h = some r) : opF t T m h = r := by
  match m with
  | 0 =>
    show (match opL t T h with | some r => r | none => (h, [], some h)) = r
    rw [e]
  | m + 1 =>
    show (match opL t T h with | some r => r | none => if nbT t T h = 33 ∨ nbT t T h = 45 then unR (opF t T m (h + 1)) (if nbT t T h = 45 then -126 else -33) else if nbT t T h = 40 then prR t T (rkD t T (opF t T m) 5 (h + 1)) else (h, [], some h)) = r
    rw [e]
theorem opF_s {t : Nat} {T : Nat → Int} {m h : Nat} (e : opL t T h = none) : opF t T (m + 1) h = if nbT t T h = 33 ∨ nbT t T h = 45 then unR (opF t T m (h + 1)) (if nbT t T h = 45 then -126 else -33) else if nbT t T h = 40 then prR t T (rkD t T (opF t T m) 5 (h + 1)) else (h, [], some h) := by
  show (match opL t T h with | some r => r | none => if nbT t T h = 33 ∨ nbT t T h = 45 then unR (opF t T m (h + 1)) (if nbT t T h = 45 then -126 else -33) else if nbT t T h = 40 then prR t T (rkD t T (opF t T m) 5 (h + 1)) else (h, [], some h)) = _
  rw [e]
theorem opF_0 {t : Nat} {T : Nat → Int} {h : Nat} (e : opL t T h = none) : opF t T 0 h = (h, [], some h) := by
  show (match opL t T h with | some r => r | none => (h, [], some h)) = _
  rw [e]
theorem Sok_flt {t h : Nat} {a : Nat} {f : Nat} (h1 : h ≤ f) (h2 : f ≤ t) : Sok t h (a, [], some f) := ⟨fun z => (by cases z), fun f2 hf => by cases hf; exact ⟨h1, h2⟩⟩
theorem Sok_lp {t : Nat} {T : Nat → Int} {S : Nat → zRs} (hS : ∀ h, h ≤ t → Sok t h (S h)) {r : Int} (hr : 0 ≤ r) : ∀ (x h : Nat) (cs : List Int) (h0 : Nat), h0 + 1 ≤ h → h ≤ t → Gd cs → cs.length + h0 ≤ h → (∀ c ∈ cs, CcO c) → Sok t h0 (lp t T S r x h cs)
  | 0, h, cs, h0, a1, a2, a3, a4, a5 => ⟨fun _ => ⟨a1, a2, a3, a4, a5⟩, fun f hf => by cases hf⟩
  | x + 1, h, cs, h0, a1, a2, a3, a4, a5 => by
    by_cases q : rkO (nbT t T h) = r
    · have bs := rk_p (c := nbT t T h) (by omega)
      have bs2 := bs
      unfold bsgn at bs2
      have q3 := nb_t (show nbT t T h ≠ -1 by omega)
      have s := hS (h + 1) (by omega)
      cases e : (S (h + 1)).2.2 with
      | none =>
        obtain ⟨s1, s2, s3, s4, s5⟩ := s.1 e
        have g := Gd_bin a3 s3 bs
        have ll : (cs ++ (S (h + 1)).2.1 ++ [-(nbT t T h)]).length = cs.length + (S (h + 1)).2.1.length + 1 := by simp; omega
        have cc : ∀ c ∈ cs ++ (S (h + 1)).2.1 ++ [-(nbT t T h)], CcO c := by
          intro c hc
          rcases List.mem_append.mp hc with hc | hc
          · rcases List.mem_append.mp hc with hc | hc
            · exact a5 c hc
            · exact s5 c hc
          · rw [List.mem_singleton] at hc
            subst hc
            exact Or.inr (Or.inr (Or.inr bs))
        by_cases q2 : r = 2
        · rw [lp_2 q e q2]
          exact ⟨fun _ => ⟨by show h0 + 1 ≤ (S (h + 1)).1; omega, s2, g, by show (cs ++ (S (h + 1)).2.1 ++ [-(nbT t T h)]).length + h0 ≤ (S (h + 1)).1; omega, cc⟩, fun f hf => by cases hf⟩
        · rw [lp_n q e q2]
          exact Sok_lp hS hr x _ _ h0 (by omega) s2 g (by omega) cc
      | some f =>
        have s2 := s.2 f e
        rw [lp_f q e]
        exact Sok_flt (by omega) (by omega)
    · rw [lp_x q]
      exact ⟨fun _ => ⟨a1, a2, a3, a4, a5⟩, fun f hf => by cases hf⟩
theorem Sok_rkD {t : Nat} {T : Nat → Int} {O : Nat → zRs} (hO : ∀ h, h ≤ t → Sok t h (O h)) : ∀ j, j ≤ 5 → ∀ h, h ≤ t → Sok t h (rkD t T O j h)
  | 0, _, h, hh => hO h hh
  | j + 1, hj, h, hh => by
    have ih := Sok_rkD (T := T) hO j (by omega)
    have s := ih h hh
    cases e : (rkD t T O j h).2.2 with
    | none =>
      obtain ⟨s1, s2, s3, s4, s5⟩ := s.1 e
      rw [rkD_n e]
      exact Sok_lp ih (r := 4 - (j : Int)) (by omega) t _ _ h s1 s2 s3 s4 s5
    | some f =>
      have s2 := s.2 f e
      rw [rkD_f e]
      exact Sok_flt s2.1 s2.2
theorem Sok_opF {t : Nat} {T : Nat → Int} : ∀ m h, h ≤ t → Sok t h (opF t T m h)
  | 0, h, hh => by
    cases e : opL t T h with
    | some r => rw [opF_l e]; exact Sok_opL hh e
    | none => rw [opF_0 e]; exact Sok_flt (Nat.le_refl _) hh
  | m + 1, h, hh => by
    have ih := fun h hh => Sok_opF (t := t) (T := T) m h hh
    cases e : opL t T h with
    | some r => rw [opF_l e]; exact Sok_opL hh e
    | none =>
      rw [opF_s e]
      by_cases q : nbT t T h = 33 ∨ nbT t T h = 45
      · rw [if_pos q]
        have q3 := nb_t (show nbT t T h ≠ -1 by omega)
        have s := ih (h + 1) (by omega)
        cases e2 : (opF t T m (h + 1)).2.2 with
        | none =>
          obtain ⟨s1, s2, s3, s4, s5⟩ := s.1 e2
          rw [unR_n e2]
          have hc : (if nbT t T h = 45 then (-126 : Int) else -33) = -33 ∨ (if nbT t T h = 45 then (-126 : Int) else -33) = -126 := by split <;> omega
          refine ⟨fun _ => ⟨by show h + 1 ≤ (opF t T m (h + 1)).1; omega, s2, Gd_un s3 hc, ?_, fun c hc2 => ?_⟩, fun f hf => by cases hf⟩
          · show ((opF t T m (h + 1)).2.1 ++ [_]).length + h ≤ (opF t T m (h + 1)).1
            simp; omega
          rcases List.mem_append.mp hc2 with hc2 | hc2
          · exact s5 c hc2
          · rw [List.mem_singleton] at hc2
            subst hc2
            rcases hc with hc | hc
            · exact Or.inr (Or.inl hc)
            · exact Or.inr (Or.inr (Or.inl hc))
        | some f =>
          have s2 := s.2 f e2
          rw [unR_f e2]
          exact Sok_flt (by omega) (by omega)
      · rw [if_neg q]
        by_cases q2 : nbT t T h = 40
        · rw [if_pos q2]
          have q3 := nb_t (show nbT t T h ≠ -1 by omega)
          have s := Sok_rkD (T := T) ih 5 (by omega) (h + 1) (by omega)
          cases e2 : (rkD t T (opF t T m) 5 (h + 1)).2.2 with
          | none =>
            obtain ⟨s1, s2, s3, s4, s5⟩ := s.1 e2
            by_cases q4 : nbT t T (rkD t T (opF t T m) 5 (h + 1)).1 = 41
            · rw [prR_c e2 q4]
              have q5 := nb_t (show nbT t T (rkD t T (opF t T m) 5 (h + 1)).1 ≠ -1 by omega)
              exact ⟨fun _ => ⟨by show h + 1 ≤ (rkD t T (opF t T m) 5 (h + 1)).1 + 1; omega, q5.1, s3, by show (rkD t T (opF t T m) 5 (h + 1)).2.1.length + h ≤ (rkD t T (opF t T m) 5 (h + 1)).1 + 1; omega, s5⟩, fun f hf => by cases hf⟩
            · rw [prR_o e2 q4]
              exact Sok_flt (by omega) s2
          | some f =>
            have s2 := s.2 f e2
            rw [prR_f e2]
            exact Sok_flt (by omega) (by omega)
        · rw [if_neg q2]
          exact Sok_flt (Nat.le_refl _) hh
/-- parts joined by |, &, .. -/
def eiS (t : Nat) (T : Nat → Int) : Nat → zRs := rkD t T (opF t T 6) 5
abbrev zRl : Type := Nat × lwL × Option Nat
def liS (t : Nat) (T : Nat → Int) (h : Nat) : zRl :=
  match (eiS t T h).2.2 with
  | some f => ((eiS t T h).1, (none, []), some f)
  | none => if nbT t T (eiS t T h).1 = 63 then (match (eiS t T ((eiS t T h).1 + 1)).2.2 with | some f => ((eiS t T ((eiS t T h).1 + 1)).1, (none, []), some f) | none => ((eiS t T ((eiS t T h).1 + 1)).1, (some (eiS t T h).2.1, (eiS t T ((eiS t T h).1 + 1)).2.1), none)) else ((eiS t T h).1, (none, (eiS t T h).2.1), none)
/-- the lines from h on -/
def lsS (t : Nat) (T : Nat → Int) : Nat → Nat → List lwL → Nat × List lwL × Option Nat
  | 0, h, ls => (h, ls, none)
  | x + 1, h, ls => if nbT t T h = 59 then (match (liS t T (h + 1)).2.2 with | some f => (h, [], some f) | none => lsS t T x (liS t T (h + 1)).1 (ls ++ [(liS t T (h + 1)).2.1])) else (h, ls, none)
/-- the whole text: a fault, or its lines -/
def txS (t : Nat) (T : Nat → Int) : List lwL × Option Nat :=
  match (liS t T 0).2.2 with
  | some f => ([], some f)
  | none => match (lsS t T t (liS t T 0).1 [(liS t T 0).2.1]).2.2 with
    | some f => ([], some f)
    | none => if (lsS t T t (liS t T 0).1 [(liS t T 0).2.1]).1 < t then ([], some (lsS t T t (liS t T 0).1 [(liS t T 0).2.1]).1) else ((lsS t T t (liS t T 0).1 [(liS t T 0).2.1]).2.1, none)
theorem Sok_ei {t : Nat} {T : Nat → Int} {h : Nat} (hh : h ≤ t) : Sok t h (eiS t T h) := Sok_rkD (fun h hh => Sok_opF 6 h hh) 5 (by omega) h hh
theorem liS_f {t : Nat} {T : Nat → Int} {h f : Nat} (e : (eiS t T h).2.2 = some f) : liS t T h = ((eiS t T h).1, (none, []), some f) := by unfold liS; rw [e]
theorem liS_n {t : Nat} {T : Nat → Int} {h : Nat} (e : (eiS t T h).2.2 = none) (q : ¬ nbT t T (eiS t T h).1 = 63) : liS t T h = ((eiS t T h).1, (none, (eiS t T h).2.1), none) := by unfold liS; rw [e]; dsimp only; rw [if_neg q]
theorem liS_tf {t : Nat} {T : Nat → Int} {h f : Nat} (e : (eiS t T h).2.2 = none) (q : nbT t T (eiS t T h).1 = 63) (e2 : (eiS t T ((eiS t T h).1 + 1)).2.2 = some f) : liS t T h = ((eiS t T ((eiS t T h).1 + 1)).1, (none, []), some f) := by unfold liS; rw [e]; dsimp only; rw [if_pos q, e2]
theorem liS_t {t : Nat} {T : Nat → Int} {h : Nat} (e : (eiS t T h).2.2 = none) (q : nbT t T (eiS t T h).1 = 63) (e2 : (eiS t T ((eiS t T h).1 + 1)).2.2 = none) : liS t T h = ((eiS t T ((eiS t T h).1 + 1)).1, (some (eiS t T h).2.1, (eiS t T ((eiS t T h).1 + 1)).2.1), none) := by unfold liS; rw [e]; dsimp only; rw [if_pos q, e2]
theorem lsS_x {t : Nat} {T : Nat → Int} {x h : Nat} {ls : List lwL} (q : ¬ nbT t T h = 59) : lsS t T x h ls = (h, ls, none) := by
  match x with
  | 0 => rfl
  | x + 1 => rw [lsS, if_neg q]
theorem lsS_f {t : Nat} {T : Nat → Int} {x h f : Nat} {ls : List lwL} (q : nbT t T h = 59) (e : (liS t T (h + 1)).2.2 = some f) : lsS t T (x + 1) h ls = (h, [], some f) := by rw [lsS, if_pos q, e]
theorem lsS_n {t : Nat} {T : Nat → Int} {x h : Nat} {ls : List lwL} (q : nbT t T h = 59) (e : (liS t T (h + 1)).2.2 = none) : lsS t T (x + 1) h ls = lsS t T x (liS t T (h + 1)).1 (ls ++ [(liS t T (h + 1)).2.1]) := by rw [lsS, if_pos q, e]
theorem txS_1 {t : Nat} {T : Nat → Int} {f : Nat} (e : (liS t T 0).2.2 = some f) : txS t T = ([], some f) := by unfold txS; rw [e]
theorem txS_2 {t : Nat} {T : Nat → Int} {f : Nat} (e : (liS t T 0).2.2 = none) (e2 : (lsS t T t (liS t T 0).1 [(liS t T 0).2.1]).2.2 = some f) : txS t T = ([], some f) := by unfold txS; rw [e]; dsimp only; rw [e2]
theorem txS_3 {t : Nat} {T : Nat → Int} (e : (liS t T 0).2.2 = none) (e2 : (lsS t T t (liS t T 0).1 [(liS t T 0).2.1]).2.2 = none) (q : (lsS t T t (liS t T 0).1 [(liS t T 0).2.1]).1 < t) : txS t T = ([], some (lsS t T t (liS t T 0).1 [(liS t T 0).2.1]).1) := by unfold txS; rw [e]; dsimp only; rw [e2]; dsimp only; rw [if_pos q]
theorem txS_4 {t : Nat} {T : Nat → Int} (e : (liS t T 0).2.2 = none) (e2 : (lsS t T t (liS t T 0).1 [(liS t T 0).2.1]).2.2 = none) (q : ¬ (lsS t T t (liS t T 0).1 [(liS t T 0).2.1]).1 < t) : txS t T = ((lsS t T t (liS t T 0).1 [(liS t T 0).2.1]).2.1, none) := by unfold txS; rw [e]; dsimp only; rw [e2]; dsimp only; rw [if_neg q]
def Lok (t h : Nat) (R : zRl) : Prop := (R.2.2 = none → h + 1 ≤ R.1 ∧ R.1 ≤ t ∧ lnOk R.2.1 ∧ (lwC R.2.1).length + h ≤ R.1 ∧ ∀ c ∈ lwS R.2.1, CcO c) ∧ (∀ f, R.2.2 = some f → h ≤ f ∧ f ≤ t)
theorem Gd_ne {cs : List Int} (h : Gd cs) : cs ≠ [] := by
  rintro rfl
  have := h 0
  rw [lwH] at this
  cases this
theorem Lok_flt {t h : Nat} {a : Nat} {l : lwL} {f : Nat} (h1 : h ≤ f) (h2 : f ≤ t) : Lok t h (a, l, some f) := ⟨fun z => (by cases z), fun f2 hf => by cases hf; exact ⟨h1, h2⟩⟩
theorem Lok_li {t : Nat} {T : Nat → Int} {h : Nat} (hh : h ≤ t) : Lok t h (liS t T h) := by
  have s := Sok_ei (T := T) hh
  cases e : (eiS t T h).2.2 with
  | some f =>
    have s2 := s.2 f e
    rw [liS_f e]
    exact Lok_flt s2.1 s2.2
  | none =>
    obtain ⟨s1, s2, s3, s4, s5⟩ := s.1 e
    by_cases q : nbT t T (eiS t T h).1 = 63
    · have q3 := nb_t (show nbT t T (eiS t T h).1 ≠ -1 by omega)
      have u := Sok_ei (t := t) (T := T) (h := (eiS t T h).1 + 1) (by omega)
      cases e2 : (eiS t T ((eiS t T h).1 + 1)).2.2 with
      | some f =>
        have u2 := u.2 f e2
        rw [liS_tf e q e2]
        exact Lok_flt (by omega) (by omega)
      | none =>
        obtain ⟨u1, u2, u3, u4, u5⟩ := u.1 e2
        rw [liS_t e q e2]
        refine ⟨fun _ => ⟨by show h + 1 ≤ (eiS t T ((eiS t T h).1 + 1)).1; omega, u2, ⟨u3 0, Gd_ne u3, fun x hx => ?_⟩, ?_, fun c hc => ?_⟩, fun f hf => by cases hf⟩
        · cases hx; exact ⟨s3 0, Gd_ne s3⟩
        · show ((eiS t T h).2.1 ++ (-63) :: (eiS t T ((eiS t T h).1 + 1)).2.1).length + h ≤ (eiS t T ((eiS t T h).1 + 1)).1
          simp; omega
        · rcases List.mem_append.mp (show c ∈ (eiS t T h).2.1 ++ (eiS t T ((eiS t T h).1 + 1)).2.1 from hc) with hc | hc
          · exact s5 c hc
          · exact u5 c hc
    · rw [liS_n e q]
      exact ⟨fun _ => ⟨s1, s2, ⟨s3 0, Gd_ne s3, fun x hx => by cases hx⟩, s4, s5⟩, fun f hf => by cases hf⟩
