section LSX
variable {w : WD} {p : Program} {e : Env} {s : State} {m : MethodId} {below : List Frame} {meth : Method} {c : Code} {b L : Nat} {xs : Nat → Int32} {i : Nat} {X : XS}
theorem l_switch (hA : LA w p s m meth c b L xs) (hi : i + 6 ≤ L) (hJ : J X) (NX : ∀ Z : XS, J Z → LGo w p e s m below meth c b i 1295 [] Z) {x : Int32} {H : Heap} {locs : List Loc} {ls : Array Slot} (hR : RX X) (hP : va_P w.2.1 vwCl (wsX w X) H) (hS : va_S (fwAd s) s.heap H locs) (hl : lv_has ls 4 [(3, .int (nI i)), (2, .ref (wAd w 43)), (1, .ref (wAd w 1)), (0, .ref b)]) : W p w.1 e room_1 s m #[Value.ref b] below meth c H locs 600000 7302250 (lw_Z below #[Value.ref b] s) (F0 m 33 ls [.int x]) := by
  obtain ⟨⟨hx, hb, -⟩, -, -⟩ := id hA
  by_cases h0 : x.toInt < 0 ∨ 36 < x.toInt
  · refine lv_tableOut (tgt := 1295) hx hb dl_33 h0 (by decide) ?_
    exact NX X hJ (fun v hv => by cases hv) hR H locs ls hP hS hl
  rcases (show x.toInt = 0 ∨ x.toInt = 1 ∨ x.toInt = 2 ∨ x.toInt = 3 ∨ x.toInt = 4 ∨ x.toInt = 5 ∨ x.toInt = 6 ∨ x.toInt = 7 ∨ x.toInt = 8 ∨ x.toInt = 9 ∨ x.toInt = 10 ∨ x.toInt = 11 ∨ x.toInt = 12 ∨ x.toInt = 13 ∨ x.toInt = 14 ∨ x.toInt = 15 ∨ x.toInt = 16 ∨ x.toInt = 17 ∨ x.toInt = 18 ∨ x.toInt = 19 ∨ x.toInt = 20 ∨ x.toInt = 21 ∨ x.toInt = 22 ∨ x.toInt = 23 ∨ x.toInt = 24 ∨ x.toInt = 25 ∨ x.toInt = 26 ∨ x.toInt = 27 ∨ x.toInt = 28 ∨ x.toInt = 29 ∨ x.toInt = 30 ∨ x.toInt = 31 ∨ x.toInt = 32 ∨ x.toInt = 33 ∨ x.toInt = 34 ∨ x.toInt = 35 ∨ x.toInt = 36 by omega) with hn | hn | hn | hn | hn | hn | hn | hn | hn | hn | hn | hn | hn | hn | hn | hn | hn | hn | hn | hn | hn | hn | hn | hn | hn | hn | hn | hn | hn | hn | hn | hn | hn | hn | hn | hn | hn
  · refine lv_tableIn (tgt := 196) (off := 163) hx hb dl_33 (by omega) (by omega) (by rw [hn]; rfl) (by decide) ?_
    exact lc_field hA hi hJ NX (fun v hv => by cases hv) hR H locs ls hP hS hl
  · refine lv_tableIn (tgt := 249) (off := 216) hx hb dl_33 (by omega) (by omega) (by rw [hn]; rfl) (by decide) ?_
    exact lc_sign hA hi hJ NX (fun v hv => by cases hv) hR H locs ls hP hS hl
  · refine lv_tableIn (tgt := 272) (off := 239) hx hb dl_33 (by omega) (by omega) (by rw [hn]; rfl) (by decide) ?_
    exact lc_ofMan hA hi hJ NX (fun v hv => by cases hv) hR H locs ls hP hS hl
  · refine lv_tableIn (tgt := 305) (off := 272) hx hb dl_33 (by omega) (by omega) (by rw [hn]; rfl) (by decide) ?_
    exact lc_far hA hi hJ NX (fun v hv => by cases hv) hR H locs ls hP hS hl
  · refine lv_tableIn (tgt := 338) (off := 305) hx hb dl_33 (by omega) (by omega) (by rw [hn]; rfl) (by decide) ?_
    exact lc_law hA hi hJ NX (fun v hv => by cases hv) hR H locs ls hP hS hl
  · refine lv_tableIn (tgt := 361) (off := 328) hx hb dl_33 (by omega) (by omega) (by rw [hn]; rfl) (by decide) ?_
    exact lc_stone hA hi hJ NX (fun v hv => by cases hv) hR H locs ls hP hS hl
  · refine lv_tableIn (tgt := 394) (off := 361) hx hb dl_33 (by omega) (by omega) (by rw [hn]; rfl) (by decide) ?_
    exact lc_undo hA hi hJ NX (fun v hv => by cases hv) hR H locs ls hP hS hl
  · refine lv_tableIn (tgt := 417) (off := 384) hx hb dl_33 (by omega) (by omega) (by rw [hn]; rfl) (by decide) ?_
    exact lc_stands hA hi hJ NX (fun v hv => by cases hv) hR H locs ls hP hS hl
  · refine lv_tableIn (tgt := 440) (off := 407) hx hb dl_33 (by omega) (by omega) (by rw [hn]; rfl) (by decide) ?_
    exact lc_foe hA hi hJ NX (fun v hv => by cases hv) hR H locs ls hP hS hl
  · refine lv_tableIn (tgt := 473) (off := 440) hx hb dl_33 (by omega) (by omega) (by rw [hn]; rfl) (by decide) ?_
    exact lc_armour hA hi hJ NX (fun v hv => by cases hv) hR H locs ls hP hS hl
  · refine lv_tableIn (tgt := 506) (off := 473) hx hb dl_33 (by omega) (by omega) (by rw [hn]; rfl) (by decide) ?_
    exact lc_left hA hi hJ NX (fun v hv => by cases hv) hR H locs ls hP hS hl
  · refine lv_tableIn (tgt := 519) (off := 486) hx hb dl_33 (by omega) (by omega) (by rw [hn]; rfl) (by decide) ?_
    exact lc_falls hA hi hJ NX (fun v hv => by cases hv) hR H locs ls hP hS hl
  · refine lv_tableIn (tgt := 542) (off := 509) hx hb dl_33 (by omega) (by omega) (by rw [hn]; rfl) (by decide) ?_
    exact lc_cast hA hi hJ NX (fun v hv => by cases hv) hR H locs ls hP hS hl
  · refine lv_tableIn (tgt := 575) (off := 542) hx hb dl_33 (by omega) (by omega) (by rw [hn]; rfl) (by decide) ?_
    exact lc_save hA hi hJ NX (fun v hv => by cases hv) hR H locs ls hP hS hl
  · refine lv_tableIn (tgt := 608) (off := 575) hx hb dl_33 (by omega) (by omega) (by rw [hn]; rfl) (by decide) ?_
    exact lc_cull hA hi hJ NX (fun v hv => by cases hv) hR H locs ls hP hS hl
  · refine lv_tableIn (tgt := 631) (off := 598) hx hb dl_33 (by omega) (by omega) (by rw [hn]; rfl) (by decide) ?_
    exact lc_sow hA hi hJ NX (fun v hv => by cases hv) hR H locs ls hP hS hl
  · refine lv_tableIn (tgt := 654) (off := 621) hx hb dl_33 (by omega) (by omega) (by rw [hn]; rfl) (by decide) ?_
    exact lc_worth hA hi hJ NX (fun v hv => by cases hv) hR H locs ls hP hS hl
  · refine lv_tableIn (tgt := 677) (off := 644) hx hb dl_33 (by omega) (by omega) (by rw [hn]; rfl) (by decide) ?_
    exact lc_game hA hi hJ NX (fun v hv => by cases hv) hR H locs ls hP hS hl
  · refine lv_tableIn (tgt := 700) (off := 667) hx hb dl_33 (by omega) (by omega) (by rw [hn]; rfl) (by decide) ?_
    exact lc_reading hA hi hJ NX (fun v hv => by cases hv) hR H locs ls hP hS hl
  · refine lv_tableIn (tgt := 759) (off := 726) hx hb dl_33 (by omega) (by omega) (by rw [hn]; rfl) (by decide) ?_
    exact lc_back hA hi hJ NX (fun v hv => by cases hv) hR H locs ls hP hS hl
  · refine lv_tableIn (tgt := 782) (off := 749) hx hb dl_33 (by omega) (by omega) (by rw [hn]; rfl) (by decide) ?_
    exact lc_whence hA hi hJ NX (fun v hv => by cases hv) hR H locs ls hP hS hl
  · refine lv_tableIn (tgt := 805) (off := 772) hx hb dl_33 (by omega) (by omega) (by rw [hn]; rfl) (by decide) ?_
    exact lc_laws hA hi hJ NX (fun v hv => by cases hv) hR H locs ls hP hS hl
  · refine lv_tableIn (tgt := 818) (off := 785) hx hb dl_33 (by omega) (by omega) (by rw [hn]; rfl) (by decide) ?_
    exact lc_kinds hA hi hJ NX (fun v hv => by cases hv) hR H locs ls hP hS hl
  · refine lv_tableIn (tgt := 841) (off := 808) hx hb dl_33 (by omega) (by omega) (by rw [hn]; rfl) (by decide) ?_
    exact lc_odds hA hi hJ NX (fun v hv => by cases hv) hR H locs ls hP hS hl
  · refine lv_tableIn (tgt := 875) (off := 842) hx hb dl_33 (by omega) (by omega) (by rw [hn]; rfl) (by decide) ?_
    exact lc_coin hA hi hJ NX (fun v hv => by cases hv) hR H locs ls hP hS hl
  · refine lv_tableIn (tgt := 898) (off := 865) hx hb dl_33 (by omega) (by omega) (by rw [hn]; rfl) (by decide) ?_
    exact lc_row hA hi hJ NX (fun v hv => by cases hv) hR H locs ls hP hS hl
  · refine lv_tableIn (tgt := 951) (off := 918) hx hb dl_33 (by omega) (by omega) (by rw [hn]; rfl) (by decide) ?_
    exact lc_sheet hA hi hJ NX (fun v hv => by cases hv) hR H locs ls hP hS hl
  · refine lv_tableIn (tgt := 994) (off := 961) hx hb dl_33 (by omega) (by omega) (by rw [hn]; rfl) (by decide) ?_
    exact lc_lose hA hi hJ NX (fun v hv => by cases hv) hR H locs ls hP hS hl
  · refine lv_tableIn (tgt := 1017) (off := 984) hx hb dl_33 (by omega) (by omega) (by rw [hn]; rfl) (by decide) ?_
    exact lc_put hA hi hJ NX (fun v hv => by cases hv) hR H locs ls hP hS hl
  · refine lv_tableIn (tgt := 1060) (off := 1027) hx hb dl_33 (by omega) (by omega) (by rw [hn]; rfl) (by decide) ?_
    exact lc_cell hA hi hJ NX (fun v hv => by cases hv) hR H locs ls hP hS hl
  · refine lv_tableIn (tgt := 1104) (off := 1071) hx hb dl_33 (by omega) (by omega) (by rw [hn]; rfl) (by decide) ?_
    exact lc_copy hA hi hJ NX (fun v hv => by cases hv) hR H locs ls hP hS hl
  · refine lv_tableIn (tgt := 1167) (off := 1134) hx hb dl_33 (by omega) (by omega) (by rw [hn]; rfl) (by decide) ?_
    exact lc_tell hA hi hJ NX (fun v hv => by cases hv) hR H locs ls hP hS hl
  · refine lv_tableIn (tgt := 1190) (off := 1157) hx hb dl_33 (by omega) (by omega) (by rw [hn]; rfl) (by decide) ?_
    exact lc_swear hA hi hJ NX (fun v hv => by cases hv) hR H locs ls hP hS hl
  · refine lv_tableIn (tgt := 1213) (off := 1180) hx hb dl_33 (by omega) (by omega) (by rw [hn]; rfl) (by decide) ?_
    exact lc_as hA hi hJ NX (fun v hv => by cases hv) hR H locs ls hP hS hl
  · refine lv_tableIn (tgt := 1246) (off := 1213) hx hb dl_33 (by omega) (by omega) (by rw [hn]; rfl) (by decide) ?_
    exact lc_trace hA hi hJ NX (fun v hv => by cases hv) hR H locs ls hP hS hl
  · refine lv_tableIn (tgt := 1259) (off := 1226) hx hb dl_33 (by omega) (by omega) (by rw [hn]; rfl) (by decide) ?_
    exact lc_fault hA hi hJ NX (fun v hv => by cases hv) hR H locs ls hP hS hl
  · refine lv_tableIn (tgt := 1272) (off := 1239) hx hb dl_33 (by omega) (by omega) (by rw [hn]; rfl) (by decide) ?_
    exact lc_many hA hi hJ NX (fun v hv => by cases hv) hR H locs ls hP hS hl
end LSX
