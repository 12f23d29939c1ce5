/-! the law's loop over the real machine -/
theorem zTB_in {w : Cond} (h : w ∈ zTB) : w ∈ lw_tbl := (List.mem_filter.mp h).1
set_option maxHeartbeats 1000000 in
theorem law_W {p : Program} {l : Launch} {e : Env} {s : State} {m : MethodId} {below : List Frame} {meth : Method} {c : Code} {b SL d kc ks : Nat} {xs : Nat → Int32} {cy : Nat → ClassId} {adr adK adV : Nat → Nat} {D : va_G} (C0 : lw_At p s m meth c b SL xs) (hK : va_K D vwCl (ztys cy) s) (hinj : ∀ i ∈ zIDS, ∀ j ∈ zIDS, adr i = adr j → i = j) (hSt : zSt adr adK adV s s.heap) (hd : d ≤ 1000) (hkc : kc ≤ 600000) (hks : ks ≤ 7302250) (h3 : adr 3 = b) (hnew : ∀ i ∈ zIDS, s.heap.size ≤ adr i)
    (hprim : ∀ (d : Nat) (a : Int) (M : zM) (Q : Int → zM → Prop), 12 ≤ d → zw a ≤ 255 → Q (zlet (zw a)) M → Met l yX2_letterOf (zW mX2_letterOf) (zrm (d + 1)) (va_Pc ([zI a].map (zcv adr)) (zB cy adr adK adV D M)) (zQc cy adr D (some .int) Q) 0 0 (zA adr))
    {pc : Nat} {L : List (Option Value)} {st : List Value} {M : zM} (h : wpL (Ev d) xs SL cL_law pc L st M) (ls : Array Slot) (H : Heap) (locs : List Loc) (hL4 : L.length = 4) (hl : lv_has ls 4 (zlv adr 0 L)) (hP : va_P D vwCl (zws cy adr M) H) (hS : va_S (zA adr) s.heap H locs) : W p l e room_1 s m #[Value.ref b] below meth c H locs kc ks (lw_Z below #[Value.ref b] s) (F0 m pc ls (st.map (zcv adr))) := by
  obtain ⟨hx, hb, hr, hml, hown, hts, hX, hbl, hlocks, hgv⟩ := C0
  have hbA : ¬ zA adr b := by
    rintro ⟨i, hi, e⟩
    have := hnew i hi
    omega
  have C : zC p s m #[Value.ref b] c room_1 d 12 cL_law 4 cy adr adK adV D kc ks := ⟨hx, hb, hml, hown, fun w hw => hts w (zTB_in hw), hK, hinj, hSt, by show d + 1 ≤ 2048; omega, by show 64 * d + 64 ≤ 84000; omega, hkc, hks⟩
  refine h (zPP p l e room_1 s m #[Value.ref b] below meth c 4 cy adr D kc ks (lw_Z below #[Value.ref b] s)) ?_ (s_calls C (fun r as M Q => z_sound hinj hprim d r as M Q)) (s_rules C) ⟨?_, ?_⟩ ls H locs hL4 hl hP hS
  · intro a pc L M hdg ha ls H locs hN hLoc hPw hSv
    have e1 : Int32.ofInt a = 1 := Int32.toInt_inj.mp ha
    refine va_forget (fun q hq => ?_) (W.widen hkc hks (W.eq (zeq e1) (lw_ret hx hb hr hlocks hdg)))
    obtain ⟨i, hi, e⟩ := hSv.2.2 q hq
    rw [e]; exact hnew i hi
  · intro a a1 pc L st M hdg ha h0 h1 kk ls H locs hN hLoc hPw hSv
    obtain ⟨hin, hix⟩ := zidx ha h0 h1
    show W p l e room_1 s m #[Value.ref b] below meth c H locs kc ks (lw_Z below #[Value.ref b] s) (F0 m pc ls (.int (Int32.ofInt a) :: .ref (adr 3) :: st.map (zcv adr)))
    rw [h3]
    refine va_sld hx hb hX hbl hbA hSv hin hdg ?_
    rw [hix]
    exact W.eq (zeq (Int32.ofInt_toInt _).symm) (kk ls H locs hN hLoc hPw hSv)
  · intro pc L st M hdg kk ls H locs hN hLoc hPw hSv
    show W p l e room_1 s m #[Value.ref b] below meth c H locs kc ks (lw_Z below #[Value.ref b] s) (F0 m pc ls (.ref (adr 3) :: st.map (zcv adr)))
    rw [h3]
    refine va_slen hx hb hX hbl hbA hSv hdg ?_
    exact W.eq (zeq (zofn SL)) (kk ls H locs hN hLoc hPw hSv)
