/-! the law's loop -/
theorem law_end {p : Program} {l : Launch} {e : Env} {s : State} {m : MethodId} {below : List Frame} {meth : Method} {c : Code} {b L : Nat} {xs : Nat → Int32} {G : va_G} {cs : Nat → ClassId} (E : lE p s m meth c b L xs G cs) {n : Nat} {h : zH} (g : zNg (tH zD0) h) : lA p l e s m below meth c b G cs n 1423 [] h := by
  intro ad H locs ls hSt hS hl
  obtain ⟨n3, n4⟩ := zNg_n g
  have n5 : zn h = 464 := by unfold zn; rw [h0_n g]; rfl
  have hs0 := h0_s0
  refine lv_iconst (v := 1) E.1.1 E.1.2.1 dL_law_1423 (by decide) ?_
  refine va_forget (fun q hq => hSt.2.2.2.2.2.2 q hq) ?_
  refine W.widen (k := 600000) (n := 7302250) (by omega) (by omega) ?_
  exact lw_ret E.1.1 E.1.2.1 E.1.2.2.1 E.1.2.2.2.2.2.2.2.2.1 dL_law_1424
theorem law_next {p : Program} {l : Launch} {e : Env} {s : State} {m : MethodId} {below : List Frame} {meth : Method} {c : Code} {b L : Nat} {xs : Nat → Int32} {G : va_G} {cs : Nat → ClassId} (E : lE p s m meth c b L xs G cs) {n : Nat} {h : zH} (k : lA p l e s m below meth c b G cs (n + 6) 18 [] h) : lA p l e s m below meth c b G cs n 1417 [] h := by
  intro ad H locs ls hSt hS hl
  refine lv_iinc (k := 3) (v := Int32.ofInt ((n + 6 : Nat) : Int)) (lv' := [(3, .int (Int32.ofInt ((n + 6 : Nat) : Int))), (0, .ref b), (1, .ref (ad 0)), (2, .ref (ad 403))]) E.1.1 E.1.2.1 dL_law_1417 hl rfl (by rw [Int.natCast_add, Int32.ofInt_add]; rfl) (by decide) rfl (fun ls hl => ?_)
  refine lv_goto (tgt := 18) E.1.1 E.1.2.1 dL_law_1420 (by decide) ?_
  exact k ad H locs ls hSt hS (lv_sub hl [1, 2, 3, 0] rfl)
theorem law_head {p : Program} {l : Launch} {e : Env} {s : State} {m : MethodId} {below : List Frame} {meth : Method} {c : Code} {b L : Nat} {xs : Nat → Int32} {G : va_G} {cs : Nat → ClassId} (E : lE p s m meth c b L xs G cs) (hL : L ≤ 3072) {n : Nat} (hnL : n ≤ L) {h : zH} (i : INV h) (g : zNg (tH zD0) h) (nx0 : n + 6 ≤ L → ∀ h2, INV h2 → zNg (tH zD0) h2 → lA p l e s m below meth c b G cs n 1417 [] h2) : lA p l e s m below meth c b G cs n 18 [] h := by
  intro ad H locs ls hSt hS hl
  have hbl := E.1.2.2.2.2.2.2.2.1
  have hz : zI32 (n : Int) := by unfold zI32; omega
  have hz2 : zI32 ((L : Int) - 6) := by unfold zI32; omega
  refine lv_iload_n E.1.1 E.1.2.1 dL_law_18 rfl (lv_at hl 3 rfl) ?_
  refine lv_aload_n E.1.1 E.1.2.1 dL_law_19 rfl (lv_at hl 0 rfl) ?_
  refine va_slen (A := fun q => s.heap.size ≤ q) E.1.1 E.1.2.1 E.1.2.2.2.2.2.2.1 hbl (Nat.not_le.mpr hbl) hSt.2.2.2.2 dL_law_20 ?_
  refine lv_bipush (v := 6) E.1.1 E.1.2.1 dL_law_21 (by decide) ?_
  refine lv_isub E.1.1 E.1.2.1 dL_law_23 ?_
  have e : Int32.ofNat L - 6 = Int32.ofInt ((L : Int) - 6) := by rw [Int32.ofInt_sub, Int32.ofInt_eq_ofNat]; rfl
  rw [e]
  refine lv_icmp_gt (tgt := 1423) E.1.1 E.1.2.1 dL_law_24 (by decide) (fun q => ?_) (fun q => ?_)
  · exact law_end E g ad H locs ls hSt hS hl
  · rw [zi_lt hz2 hz] at q
    have hn : n + 6 ≤ L := by omega
    have nx := nx0 hn
    refine lv_aload_n E.1.1 E.1.2.1 dL_law_27 rfl (lv_at hl 0 rfl) ?_
    refine lv_iload_n E.1.1 E.1.2.1 dL_law_28 rfl (lv_at hl 3 rfl) ?_
    refine va_sld (A := fun q => s.heap.size ≤ q) E.1.1 E.1.2.1 E.1.2.2.2.2.2.2.1 hbl (Nat.not_le.mpr hbl) hSt.2.2.2.2 (zi_in hz (by omega) (by omega)) dL_law_29 ?_
    refine lv_bipush (v := 63) E.1.1 E.1.2.1 dL_law_30 (by decide) ?_
    refine lv_iand E.1.1 E.1.2.1 dL_law_32 ?_
    generalize xs (Int32.ofInt (n : Int)).toNatClampNeg &&& 63 = t
    by_cases hr : t.toInt < 0 ∨ 38 < t.toInt
    · exact lv_tableOut (tgt := 1417) E.1.1 E.1.2.1 dL_law_33 hr (by decide) (nx h i g ad H locs ls hSt hS hl)
    · obtain ⟨k, hk⟩ : ∃ k : Nat, t.toInt = (k : Int) := ⟨t.toInt.toNat, by omega⟩
      have hd : k = 0 ∨ k = 1 ∨ k = 2 ∨ k = 3 ∨ k = 4 ∨ k = 5 ∨ k = 6 ∨ k = 7 ∨ k = 8 ∨ k = 9 ∨ k = 10 ∨ k = 11 ∨ k = 12 ∨ k = 13 ∨ k = 14 ∨ k = 15 ∨ k = 16 ∨ k = 17 ∨ k = 18 ∨ k = 19 ∨ k = 20 ∨ k = 21 ∨ k = 22 ∨ k = 23 ∨ k = 24 ∨ k = 25 ∨ k = 26 ∨ k = 27 ∨ k = 28 ∨ k = 29 ∨ k = 30 ∨ k = 31 ∨ k = 32 ∨ k = 33 ∨ k = 34 ∨ k = 35 ∨ k = 36 ∨ k = 37 ∨ k = 38 := by omega
      rcases hd with rfl | rfl | rfl | rfl | rfl | rfl | rfl | rfl | rfl | rfl | rfl | rfl | rfl | rfl | rfl | rfl | rfl | rfl | rfl | rfl | rfl | rfl | rfl | rfl | rfl | rfl | rfl | rfl | rfl | rfl | rfl | rfl | rfl | rfl | rfl | rfl | rfl | rfl | rfl
      · exact lv_tableIn (tgt := 204) (off := 171) E.1.1 E.1.2.1 dL_law_33 (by rw [hk]; decide) (by rw [hk]; decide) (by rw [hk]; rfl) (by decide) (lc_feed E hL hn i g nx ad H locs ls hSt hS hl)
      · exact lv_tableIn (tgt := 267) (off := 234) E.1.1 E.1.2.1 dL_law_33 (by rw [hk]; decide) (by rw [hk]; decide) (by rw [hk]; rfl) (by decide) (lc_end E hL hn i g nx ad H locs ls hSt hS hl)
      · exact lv_tableIn (tgt := 290) (off := 257) E.1.1 E.1.2.1 dL_law_33 (by rw [hk]; decide) (by rw [hk]; decide) (by rw [hk]; rfl) (by decide) (lc_slope E hL hn i g nx ad H locs ls hSt hS hl)
      · exact lv_tableIn (tgt := 303) (off := 270) E.1.1 E.1.2.1 dL_law_33 (by rw [hk]; decide) (by rw [hk]; decide) (by rw [hk]; rfl) (by decide) (lc_fault E hL hn i g nx ad H locs ls hSt hS hl)
      · exact lv_tableIn (tgt := 326) (off := 293) E.1.1 E.1.2.1 dL_law_33 (by rw [hk]; decide) (by rw [hk]; decide) (by rw [hk]; rfl) (by decide) (lc_has E hL hn i g nx ad H locs ls hSt hS hl)
      · exact lv_tableIn (tgt := 349) (off := 316) E.1.1 E.1.2.1 dL_law_33 (by rw [hk]; decide) (by rw [hk]; decide) (by rw [hk]; rfl) (by decide) (lc_letter E hL hn i g nx ad H locs ls hSt hS hl)
      · exact lv_tableIn (tgt := 392) (off := 359) E.1.1 E.1.2.1 dL_law_33 (by rw [hk]; decide) (by rw [hk]; decide) (by rw [hk]; rfl) (by decide) (lc_cell E hL hn i g nx ad H locs ls hSt hS hl)
      · exact lv_tableIn (tgt := 425) (off := 392) E.1.1 E.1.2.1 dL_law_33 (by rw [hk]; decide) (by rw [hk]; decide) (by rw [hk]; rfl) (by decide) (lc_stone E hL hn i g nx ad H locs ls hSt hS hl)
      · exact lv_tableIn (tgt := 458) (off := 425) E.1.1 E.1.2.1 dL_law_33 (by rw [hk]; decide) (by rw [hk]; decide) (by rw [hk]; rfl) (by decide) (lc_house E hL hn i g nx ad H locs ls hSt hS hl)
      · exact lv_tableIn (tgt := 491) (off := 458) E.1.1 E.1.2.1 dL_law_33 (by rw [hk]; decide) (by rw [hk]; decide) (by rw [hk]; rfl) (by decide) (lc_owner E hL hn i g nx ad H locs ls hSt hS hl)
      · exact lv_tableIn (tgt := 524) (off := 491) E.1.1 E.1.2.1 dL_law_33 (by rw [hk]; decide) (by rw [hk]; decide) (by rw [hk]; rfl) (by decide) (lc_due E hL hn i g nx ad H locs ls hSt hS hl)
      · exact lv_tableIn (tgt := 557) (off := 524) E.1.1 E.1.2.1 dL_law_33 (by rw [hk]; decide) (by rw [hk]; decide) (by rw [hk]; rfl) (by decide) (lc_law E hL hn i g nx ad H locs ls hSt hS hl)
      · exact lv_tableIn (tgt := 620) (off := 587) E.1.1 E.1.2.1 dL_law_33 (by rw [hk]; decide) (by rw [hk]; decide) (by rw [hk]; rfl) (by decide) (lc_lever E hL hn i g nx ad H locs ls hSt hS hl)
      · exact lv_tableIn (tgt := 653) (off := 620) E.1.1 E.1.2.1 dL_law_33 (by rw [hk]; decide) (by rw [hk]; decide) (by rw [hk]; rfl) (by decide) (lc_spring E hL hn i g nx ad H locs ls hSt hS hl)
      · exact lv_tableIn (tgt := 676) (off := 643) E.1.1 E.1.2.1 dL_law_33 (by rw [hk]; decide) (by rw [hk]; decide) (by rw [hk]; rfl) (by decide) (lc_goOn E hL hn i g nx ad H locs ls hSt hS hl)
      · exact lv_tableIn (tgt := 699) (off := 666) E.1.1 E.1.2.1 dL_law_33 (by rw [hk]; decide) (by rw [hk]; decide) (by rw [hk]; rfl) (by decide) (lc_seed E hL hn i g nx ad H locs ls hSt hS hl)
      · exact lv_tableIn (tgt := 722) (off := 689) E.1.1 E.1.2.1 dL_law_33 (by rw [hk]; decide) (by rw [hk]; decide) (by rw [hk]; rfl) (by decide) (lc_net E hL hn i g nx ad H locs ls hSt hS hl)
      · exact lv_tableIn (tgt := 771) (off := 738) E.1.1 E.1.2.1 dL_law_33 (by rw [hk]; decide) (by rw [hk]; decide) (by rw [hk]; rfl) (by decide) (lc_wall E hL hn i g nx ad H locs ls hSt hS hl)
      · exact lv_tableIn (tgt := 804) (off := 771) E.1.1 E.1.2.1 dL_law_33 (by rw [hk]; decide) (by rw [hk]; decide) (by rw [hk]; rfl) (by decide) (lc_dig E hL hn i g nx ad H locs ls hSt hS hl)
      · exact lv_tableIn (tgt := 837) (off := 804) E.1.1 E.1.2.1 dL_law_33 (by rw [hk]; decide) (by rw [hk]; decide) (by rw [hk]; rfl) (by decide) (lc_take E hL hn i g nx ad H locs ls hSt hS hl)
      · exact lv_tableIn (tgt := 860) (off := 827) E.1.1 E.1.2.1 dL_law_33 (by rw [hk]; decide) (by rw [hk]; decide) (by rw [hk]; rfl) (by decide) (lc_undo E hL hn i g nx ad H locs ls hSt hS hl)
      · exact lv_tableIn (tgt := 873) (off := 840) E.1.1 E.1.2.1 dL_law_33 (by rw [hk]; decide) (by rw [hk]; decide) (by rw [hk]; rfl) (by decide) (lc_path E hL hn i g nx ad H locs ls hSt hS hl)
      · exact lv_tableIn (tgt := 916) (off := 883) E.1.1 E.1.2.1 dL_law_33 (by rw [hk]; decide) (by rw [hk]; decide) (by rw [hk]; rfl) (by decide) (lc_roll E hL hn i g nx ad H locs ls hSt hS hl)
      · exact lv_tableIn (tgt := 959) (off := 926) E.1.1 E.1.2.1 dL_law_33 (by rw [hk]; decide) (by rw [hk]; decide) (by rw [hk]; rfl) (by decide) (lc_thaw E hL hn i g nx ad H locs ls hSt hS hl)
      · exact lv_tableIn (tgt := 992) (off := 959) E.1.1 E.1.2.1 dL_law_33 (by rw [hk]; decide) (by rw [hk]; decide) (by rw [hk]; rfl) (by decide) (lc_lies E hL hn i g nx ad H locs ls hSt hS hl)
      · exact lv_tableIn (tgt := 1025) (off := 992) E.1.1 E.1.2.1 dL_law_33 (by rw [hk]; decide) (by rw [hk]; decide) (by rw [hk]; rfl) (by decide) (lc_hit E hL hn i g nx ad H locs ls hSt hS hl)
      · exact lv_tableIn (tgt := 1048) (off := 1015) E.1.1 E.1.2.1 dL_law_33 (by rw [hk]; decide) (by rw [hk]; decide) (by rw [hk]; rfl) (by decide) (lc_worst E hL hn i g nx ad H locs ls hSt hS hl)
      · exact lv_tableIn (tgt := 1071) (off := 1038) E.1.1 E.1.2.1 dL_law_33 (by rw [hk]; decide) (by rw [hk]; decide) (by rw [hk]; rfl) (by decide) (lc_men E hL hn i g nx ad H locs ls hSt hS hl)
      · exact lv_tableIn (tgt := 1104) (off := 1071) E.1.1 E.1.2.1 dL_law_33 (by rw [hk]; decide) (by rw [hk]; decide) (by rw [hk]; rfl) (by decide) (lc_crew E hL hn i g nx ad H locs ls hSt hS hl)
      · exact lv_tableIn (tgt := 1147) (off := 1114) E.1.1 E.1.2.1 dL_law_33 (by rw [hk]; decide) (by rw [hk]; decide) (by rw [hk]; rfl) (by decide) (lc_nets E hL hn i g nx ad H locs ls hSt hS hl)
      · exact lv_tableIn (tgt := 1170) (off := 1137) E.1.1 E.1.2.1 dL_law_33 (by rw [hk]; decide) (by rw [hk]; decide) (by rw [hk]; rfl) (by decide) (lc_dowry E hL hn i g nx ad H locs ls hSt hS hl)
      · exact lv_tableIn (tgt := 1223) (off := 1190) E.1.1 E.1.2.1 dL_law_33 (by rw [hk]; decide) (by rw [hk]; decide) (by rw [hk]; rfl) (by decide) (lc_whence E hL hn i g nx ad H locs ls hSt hS hl)
      · exact lv_tableIn (tgt := 1256) (off := 1223) E.1.1 E.1.2.1 dL_law_33 (by rw [hk]; decide) (by rw [hk]; decide) (by rw [hk]; rfl) (by decide) (lc_leans E hL hn i g nx ad H locs ls hSt hS hl)
      · exact lv_tableIn (tgt := 1289) (off := 1256) E.1.1 E.1.2.1 dL_law_33 (by rw [hk]; decide) (by rw [hk]; decide) (by rw [hk]; rfl) (by decide) (lc_quarry E hL hn i g nx ad H locs ls hSt hS hl)
      · exact lv_tableIn (tgt := 1322) (off := 1289) E.1.1 E.1.2.1 dL_law_33 (by rw [hk]; decide) (by rw [hk]; decide) (by rw [hk]; rfl) (by decide) (lc_ropes E hL hn i g nx ad H locs ls hSt hS hl)
      · exact lv_tableIn (tgt := 1345) (off := 1312) E.1.1 E.1.2.1 dL_law_33 (by rw [hk]; decide) (by rw [hk]; decide) (by rw [hk]; rfl) (by decide) (lc_image E hL hn i g nx ad H locs ls hSt hS hl)
      · exact lv_tableIn (tgt := 1358) (off := 1325) E.1.1 E.1.2.1 dL_law_33 (by rw [hk]; decide) (by rw [hk]; decide) (by rw [hk]; rfl) (by decide) (lc_octet E hL hn i g nx ad H locs ls hSt hS hl)
      · exact lv_tableIn (tgt := 1381) (off := 1348) E.1.1 E.1.2.1 dL_law_33 (by rw [hk]; decide) (by rw [hk]; decide) (by rw [hk]; rfl) (by decide) (lc_on E hL hn i g nx ad H locs ls hSt hS hl)
      · exact lv_tableIn (tgt := 1394) (off := 1361) E.1.1 E.1.2.1 dL_law_33 (by rw [hk]; decide) (by rw [hk]; decide) (by rw [hk]; rfl) (by decide) (lc_status E hL hn i g nx ad H locs ls hSt hS hl)
theorem law_loop {p : Program} {l : Launch} {e : Env} {s : State} {m : MethodId} {below : List Frame} {meth : Method} {c : Code} {b L : Nat} {xs : Nat → Int32} {G : va_G} {cs : Nat → ClassId} (E : lE p s m meth c b L xs G cs) (hL : L ≤ 3072) : ∀ (f n : Nat), L < n + f → n ≤ L → ∀ h, INV h → zNg (tH zD0) h → lA p l e s m below meth c b G cs n 18 [] h
  | 0, n, h1, h2 => by omega
  | f + 1, n, h1, h2 => fun h i g => law_head E hL h2 i g fun hn h3 i3 g3 => law_next E (law_loop E hL f (n + 6) (by omega) hn h3 i3 g3)
