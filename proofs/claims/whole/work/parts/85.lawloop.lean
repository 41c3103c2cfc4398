/-! the law's loop -/
theorem lw_sw : decode code 33 = .ok (.tableswitch 1162 0 34 #[155, 188, 211, 234, 257, 280, 313, 346, 369, 382, 405, 448, 481, 504, 527, 550, 563, 596, 619, 632, 655, 698, 711, 724, 757, 780, 834, 867, 910, 933, 986, 1029, 1092, 1125, 1148], 155) := by decide +kernel
theorem lw_y_type : lwLay 188 2 13 17 = true := by decide +kernel
theorem lw_z_type : decode code 216 = .ok (.if_icmp .eq 979, 3) := by decide +kernel
theorem lw_y_wipe : lwLay 221 1 18 22 = true := by decide +kernel
theorem lw_z_wipe : decode code 239 = .ok (.if_icmp .eq 956, 3) := by decide +kernel
theorem lw_y_undo : lwLay 244 1 23 26 = true := by decide +kernel
theorem lw_z_undo : decode code 262 = .ok (.if_icmp .eq 933, 3) := by decide +kernel
theorem lw_y_fault : lwLay 267 1 27 30 = true := by decide +kernel
theorem lw_z_fault : decode code 285 = .ok (.if_icmp .eq 910, 3) := by decide +kernel
theorem lw_y_cell : lwLay 290 1 31 34 = true := by decide +kernel
theorem lw_z_cell : decode code 308 = .ok (.if_icmp .eq 887, 3) := by decide +kernel
theorem lw_y_last : lwLay 313 2 35 38 = true := by decide +kernel
theorem lw_z_last : decode code 341 = .ok (.if_icmp .eq 854, 3) := by decide +kernel
theorem lw_y_person : lwLay 346 2 39 42 = true := by decide +kernel
theorem lw_z_person : decode code 374 = .ok (.if_icmp .eq 821, 3) := by decide +kernel
theorem lw_y_rain : lwLay 379 1 43 46 = true := by decide +kernel
theorem lw_z_rain : decode code 397 = .ok (.if_icmp .eq 798, 3) := by decide +kernel
theorem lw_y_back : lwLay 402 0 47 51 = true := by decide +kernel
theorem lw_z_back : decode code 410 = .ok (.if_icmp .eq 785, 3) := by decide +kernel
theorem lw_y_read : lwLay 415 1 52 55 = true := by decide +kernel
theorem lw_z_read : decode code 433 = .ok (.if_icmp .eq 762, 3) := by decide +kernel
theorem lw_y_at : lwLay 438 3 56 60 = true := by decide +kernel
theorem lw_z_at : decode code 476 = .ok (.if_icmp .eq 719, 3) := by decide +kernel
theorem lw_y_ends : lwLay 481 2 61 64 = true := by decide +kernel
theorem lw_z_ends : decode code 509 = .ok (.if_icmp .eq 686, 3) := by decide +kernel
theorem lw_y_who : lwLay 514 1 65 68 = true := by decide +kernel
theorem lw_z_who : decode code 532 = .ok (.if_icmp .eq 663, 3) := by decide +kernel
theorem lw_y_met : lwLay 537 1 69 72 = true := by decide +kernel
theorem lw_z_met : decode code 555 = .ok (.if_icmp .eq 640, 3) := by decide +kernel
theorem lw_y_worn : lwLay 560 1 73 76 = true := by decide +kernel
theorem lw_z_worn : decode code 578 = .ok (.if_icmp .eq 617, 3) := by decide +kernel
theorem lw_y_rifest : lwLay 583 0 77 80 = true := by decide +kernel
theorem lw_z_rifest : decode code 591 = .ok (.if_icmp .eq 604, 3) := by decide +kernel
theorem lw_y_pair : lwLay 596 2 81 84 = true := by decide +kernel
theorem lw_z_pair : decode code 624 = .ok (.if_icmp .eq 571, 3) := by decide +kernel
theorem lw_y_soles : lwLay 629 1 85 88 = true := by decide +kernel
theorem lw_z_soles : decode code 647 = .ok (.if_icmp .eq 548, 3) := by decide +kernel
theorem lw_y_match : lwLay 652 0 89 92 = true := by decide +kernel
theorem lw_z_match : decode code 660 = .ok (.if_icmp .eq 535, 3) := by decide +kernel
theorem lw_y_dry : lwLay 665 1 93 96 = true := by decide +kernel
theorem lw_z_dry : decode code 683 = .ok (.if_icmp .eq 512, 3) := by decide +kernel
theorem lw_y_seen : lwLay 688 3 97 100 = true := by decide +kernel
theorem lw_z_seen : decode code 726 = .ok (.if_icmp .eq 469, 3) := by decide +kernel
theorem lw_y_forget : lwLay 731 0 101 104 = true := by decide +kernel
theorem lw_z_forget : decode code 739 = .ok (.if_icmp .eq 456, 3) := by decide +kernel
theorem lw_y_never : lwLay 744 0 105 108 = true := by decide +kernel
theorem lw_z_never : decode code 752 = .ok (.if_icmp .eq 443, 3) := by decide +kernel
theorem lw_y_wore : lwLay 757 2 109 112 = true := by decide +kernel
theorem lw_z_wore : decode code 785 = .ok (.if_icmp .eq 410, 3) := by decide +kernel
theorem lw_y_ask : lwLay 790 1 113 116 = true := by decide +kernel
theorem lw_z_ask : decode code 808 = .ok (.if_icmp .eq 387, 3) := by decide +kernel
theorem lw_y_storm : lwLay 813 4 117 121 = true := by decide +kernel
theorem lw_z0_storm : decode code 861 = .ok (.lcmp, 1) := by decide +kernel
theorem lw_z_storm : decode code 862 = .ok (.ifCond .eq 333, 3) := by decide +kernel
theorem lw_y_shelves : lwLay 867 2 122 125 = true := by decide +kernel
theorem lw_z_shelves : decode code 895 = .ok (.if_icmp .eq 300, 3) := by decide +kernel
theorem lw_y_sheet : lwLay 900 3 126 129 = true := by decide +kernel
theorem lw_z_sheet : decode code 938 = .ok (.if_icmp .eq 257, 3) := by decide +kernel
theorem lw_y_lose : lwLay 943 1 130 133 = true := by decide +kernel
theorem lw_z_lose : decode code 961 = .ok (.if_icmp .eq 234, 3) := by decide +kernel
theorem lw_y_lay : lwLay 966 4 134 138 = true := by decide +kernel
theorem lw_z_lay : decode code 1014 = .ok (.if_icmp .eq 181, 3) := by decide +kernel
theorem lw_y_get : lwLay 1019 3 139 142 = true := by decide +kernel
theorem lw_z_get : decode code 1057 = .ok (.if_icmp .eq 138, 3) := by decide +kernel
theorem lw_y_copy : lwLay 1062 5 143 147 = true := by decide +kernel
theorem lw_z_copy : decode code 1120 = .ok (.if_icmp .eq 75, 3) := by decide +kernel
theorem lw_y_write : lwLay 1125 2 148 151 = true := by decide +kernel
theorem lw_z_write : decode code 1153 = .ok (.if_icmp .eq 42, 3) := by decide +kernel
theorem lw_y_count : lwLay 1158 1 152 155 = true := by decide +kernel
theorem lw_z_count : decode code 1176 = .ok (.if_icmp .eq 19, 3) := by decide +kernel
theorem lw_y_digest : lwLay 1181 0 156 160 = true := by decide +kernel
theorem lw_z0_digest : decode code 1189 = .ok (.lcmp, 1) := by decide +kernel
theorem lw_z_digest : decode code 1190 = .ok (.ifCond .eq 5, 3) := by decide +kernel
theorem lw_d18 : decode code 18 = .ok (.iload_n 3, 1) := by decide +kernel
theorem lw_d19 : decode code 19 = .ok (.aload_n 0, 1) := by decide +kernel
theorem lw_d20 : decode code 20 = .ok (.arraylength, 1) := by decide +kernel
theorem lw_d21 : decode code 21 = .ok (.bipush 6, 2) := by decide +kernel
theorem lw_d23 : decode code 23 = .ok (.isub, 1) := by decide +kernel
theorem lw_d24 : decode code 24 = .ok (.if_icmp .gt 1177, 3) := by decide +kernel
theorem lw_d27 : decode code 27 = .ok (.aload_n 0, 1) := by decide +kernel
theorem lw_d28 : decode code 28 = .ok (.iload_n 3, 1) := by decide +kernel
theorem lw_d29 : decode code 29 = .ok (.iaload, 1) := by decide +kernel
theorem lw_d30 : decode code 30 = .ok (.bipush 63, 2) := by decide +kernel
theorem lw_d32 : decode code 32 = .ok (.iand, 1) := by decide +kernel
theorem lw_d1195 : decode code 1195 = .ok (.iinc 3 6, 3) := by decide +kernel
theorem lw_d1198 : decode code 1198 = .ok (.goto (-1180), 3) := by decide +kernel
theorem lw_d1201 : decode code 1201 = .ok (.iconst 1, 1) := by decide +kernel
theorem lw_d1202 : decode code 1202 = .ok (.ireturn, 1) := by decide +kernel
section LWL
variable {p : Program} {l : Launch} {e : Env} {s : State} {m : MethodId} {below : List Frame} {meth : Method} {c : Code} {b L : Nat} {xs : Nat → Int32} {D : va_G} {cA : Nat → ClassId} {adC adM : Nat → Nat} {cells slots : Nat} {Q : State → Prop}
theorem lw_sub6 {i L : Nat} (hL : L ≤ 384) (hi : i ≤ 400) : ¬ Int32.ofNat L - 6 < nI i → i + 6 ≤ L := by
  intro h
  rw [Int32.lt_iff_toInt_lt, show Int32.ofNat L - 6 = nI L - nI 6 from rfl, pk_sub_toInt (by omega) (by omega), nI_toInt (by omega)] at h
  omega
theorem lw_body {i j : Nat} {S : Sp} {wC wM : am_M} {H : Heap} {locs : List Loc} {ls : Array Slot} (X : lwX p s m meth c b L xs D cA adC adM) (hH : lwH s D cA adC adM wC wM H locs) (rc : RC wC S) (rm : RM wM S) (hL : L ≤ 384) (hi : i + 6 ≤ L) (hl : lv_has ls 4 [(0, .ref b), (1, .ref (adC 0)), (2, .ref (adM 0)), (3, .int (nI i))]) (hj : j < 35) (hce : cells ≤ 600000) (hsl : slots ≤ 7302250)
    (kk : ∀ (wC' wM' : am_M) (S' : Sp) (H1 : Heap) (locs1 : List Loc), RC wC' S' → RM wM' S' → lwH s D cA adC adM wC' wM' H1 locs1 → W p l e room_1 s m #[Value.ref b] below meth c H1 locs1 cells slots Q (F0 m 1195 ls [])) :
    W p l e room_1 s m #[Value.ref b] below meth c H locs cells slots Q (F0 m 33 ls [.int (nI j)]) := by
  obtain ⟨hx, hb, -⟩ := id X
  match j, hj with
  | 0, _ =>
    refine lv_tableIn (off := 155) (tgt := 188) hx hb lw_sw (by decide) (by decide) (by decide) (by decide) ?_
    exact lw_caseI (pc := 188) (n := 2) X hH rc rm hL hi hl (by decide) lw_y_type lw_wC_type lw_wM_type lw_z_type (by decide) (op_type _ _) hce hsl kk
  | 1, _ =>
    refine lv_tableIn (off := 188) (tgt := 221) hx hb lw_sw (by decide) (by decide) (by decide) (by decide) ?_
    exact lw_caseI (pc := 221) (n := 1) X hH rc rm hL hi hl (by decide) lw_y_wipe lw_wC_wipe lw_wM_wipe lw_z_wipe (by decide) (op_wipe _) hce hsl kk
  | 2, _ =>
    refine lv_tableIn (off := 211) (tgt := 244) hx hb lw_sw (by decide) (by decide) (by decide) (by decide) ?_
    exact lw_caseI (pc := 244) (n := 1) X hH rc rm hL hi hl (by decide) lw_y_undo lw_wC_undo lw_wM_undo lw_z_undo (by decide) (op_undo _) hce hsl kk
  | 3, _ =>
    refine lv_tableIn (off := 234) (tgt := 267) hx hb lw_sw (by decide) (by decide) (by decide) (by decide) ?_
    exact lw_caseI (pc := 267) (n := 1) X hH rc rm hL hi hl (by decide) lw_y_fault lw_wC_fault lw_wM_fault lw_z_fault (by decide) (op_fault _) hce hsl kk
  | 4, _ =>
    refine lv_tableIn (off := 257) (tgt := 290) hx hb lw_sw (by decide) (by decide) (by decide) (by decide) ?_
    exact lw_caseI (pc := 290) (n := 1) X hH rc rm hL hi hl (by decide) lw_y_cell lw_wC_cell lw_wM_cell lw_z_cell (by decide) (op_cell _) hce hsl kk
  | 5, _ =>
    refine lv_tableIn (off := 280) (tgt := 313) hx hb lw_sw (by decide) (by decide) (by decide) (by decide) ?_
    exact lw_caseI (pc := 313) (n := 2) X hH rc rm hL hi hl (by decide) lw_y_last lw_wC_last lw_wM_last lw_z_last (by decide) (op_last _ _) hce hsl kk
  | 6, _ =>
    refine lv_tableIn (off := 313) (tgt := 346) hx hb lw_sw (by decide) (by decide) (by decide) (by decide) ?_
    exact lw_caseI (pc := 346) (n := 2) X hH rc rm hL hi hl (by decide) lw_y_person lw_wC_person lw_wM_person lw_z_person (by decide) (op_person _ _) hce hsl kk
  | 7, _ =>
    refine lv_tableIn (off := 346) (tgt := 379) hx hb lw_sw (by decide) (by decide) (by decide) (by decide) ?_
    exact lw_caseI (pc := 379) (n := 1) X hH rc rm hL hi hl (by decide) lw_y_rain lw_wC_rain lw_wM_rain lw_z_rain (by decide) (op_rain _) hce hsl kk
  | 8, _ =>
    refine lv_tableIn (off := 369) (tgt := 402) hx hb lw_sw (by decide) (by decide) (by decide) (by decide) ?_
    exact lw_caseI (pc := 402) (n := 0) X hH rc rm hL hi hl (by decide) lw_y_back lw_wC_back lw_wM_back lw_z_back (by decide) (op_back ) hce hsl kk
  | 9, _ =>
    refine lv_tableIn (off := 382) (tgt := 415) hx hb lw_sw (by decide) (by decide) (by decide) (by decide) ?_
    exact lw_caseI (pc := 415) (n := 1) X hH rc rm hL hi hl (by decide) lw_y_read lw_wC_read lw_wM_read lw_z_read (by decide) (op_read _) hce hsl kk
  | 10, _ =>
    refine lv_tableIn (off := 405) (tgt := 438) hx hb lw_sw (by decide) (by decide) (by decide) (by decide) ?_
    exact lw_caseI (pc := 438) (n := 3) X hH rc rm hL hi hl (by decide) lw_y_at lw_wC_at lw_wM_at lw_z_at (by decide) (op_at _ _ _) hce hsl kk
  | 11, _ =>
    refine lv_tableIn (off := 448) (tgt := 481) hx hb lw_sw (by decide) (by decide) (by decide) (by decide) ?_
    exact lw_caseI (pc := 481) (n := 2) X hH rc rm hL hi hl (by decide) lw_y_ends lw_wC_ends lw_wM_ends lw_z_ends (by decide) (op_ends _ _) hce hsl kk
  | 12, _ =>
    refine lv_tableIn (off := 481) (tgt := 514) hx hb lw_sw (by decide) (by decide) (by decide) (by decide) ?_
    exact lw_caseI (pc := 514) (n := 1) X hH rc rm hL hi hl (by decide) lw_y_who lw_wC_who lw_wM_who lw_z_who (by decide) (op_who _) hce hsl kk
  | 13, _ =>
    refine lv_tableIn (off := 504) (tgt := 537) hx hb lw_sw (by decide) (by decide) (by decide) (by decide) ?_
    exact lw_caseI (pc := 537) (n := 1) X hH rc rm hL hi hl (by decide) lw_y_met lw_wC_met lw_wM_met lw_z_met (by decide) (op_met _) hce hsl kk
  | 14, _ =>
    refine lv_tableIn (off := 527) (tgt := 560) hx hb lw_sw (by decide) (by decide) (by decide) (by decide) ?_
    exact lw_caseI (pc := 560) (n := 1) X hH rc rm hL hi hl (by decide) lw_y_worn lw_wC_worn lw_wM_worn lw_z_worn (by decide) (op_worn _) hce hsl kk
  | 15, _ =>
    refine lv_tableIn (off := 550) (tgt := 583) hx hb lw_sw (by decide) (by decide) (by decide) (by decide) ?_
    exact lw_caseI (pc := 583) (n := 0) X hH rc rm hL hi hl (by decide) lw_y_rifest lw_wC_rifest lw_wM_rifest lw_z_rifest (by decide) (op_rifest ) hce hsl kk
  | 16, _ =>
    refine lv_tableIn (off := 563) (tgt := 596) hx hb lw_sw (by decide) (by decide) (by decide) (by decide) ?_
    exact lw_caseI (pc := 596) (n := 2) X hH rc rm hL hi hl (by decide) lw_y_pair lw_wC_pair lw_wM_pair lw_z_pair (by decide) (op_pair _ _) hce hsl kk
  | 17, _ =>
    refine lv_tableIn (off := 596) (tgt := 629) hx hb lw_sw (by decide) (by decide) (by decide) (by decide) ?_
    exact lw_caseI (pc := 629) (n := 1) X hH rc rm hL hi hl (by decide) lw_y_soles lw_wC_soles lw_wM_soles lw_z_soles (by decide) (op_soles _) hce hsl kk
  | 18, _ =>
    refine lv_tableIn (off := 619) (tgt := 652) hx hb lw_sw (by decide) (by decide) (by decide) (by decide) ?_
    exact lw_caseI (pc := 652) (n := 0) X hH rc rm hL hi hl (by decide) lw_y_match lw_wC_match lw_wM_match lw_z_match (by decide) (op_match ) hce hsl kk
  | 19, _ =>
    refine lv_tableIn (off := 632) (tgt := 665) hx hb lw_sw (by decide) (by decide) (by decide) (by decide) ?_
    exact lw_caseI (pc := 665) (n := 1) X hH rc rm hL hi hl (by decide) lw_y_dry lw_wC_dry lw_wM_dry lw_z_dry (by decide) (op_dry _) hce hsl kk
  | 20, _ =>
    refine lv_tableIn (off := 655) (tgt := 688) hx hb lw_sw (by decide) (by decide) (by decide) (by decide) ?_
    exact lw_caseI (pc := 688) (n := 3) X hH rc rm hL hi hl (by decide) lw_y_seen lw_wC_seen lw_wM_seen lw_z_seen (by decide) (op_seen _ _ _) hce hsl kk
  | 21, _ =>
    refine lv_tableIn (off := 698) (tgt := 731) hx hb lw_sw (by decide) (by decide) (by decide) (by decide) ?_
    exact lw_caseI (pc := 731) (n := 0) X hH rc rm hL hi hl (by decide) lw_y_forget lw_wC_forget lw_wM_forget lw_z_forget (by decide) (op_forget ) hce hsl kk
  | 22, _ =>
    refine lv_tableIn (off := 711) (tgt := 744) hx hb lw_sw (by decide) (by decide) (by decide) (by decide) ?_
    exact lw_caseI (pc := 744) (n := 0) X hH rc rm hL hi hl (by decide) lw_y_never lw_wC_never lw_wM_never lw_z_never (by decide) (op_never ) hce hsl kk
  | 23, _ =>
    refine lv_tableIn (off := 724) (tgt := 757) hx hb lw_sw (by decide) (by decide) (by decide) (by decide) ?_
    exact lw_caseI (pc := 757) (n := 2) X hH rc rm hL hi hl (by decide) lw_y_wore lw_wC_wore lw_wM_wore lw_z_wore (by decide) (op_wore _ _) hce hsl kk
  | 24, _ =>
    refine lv_tableIn (off := 757) (tgt := 790) hx hb lw_sw (by decide) (by decide) (by decide) (by decide) ?_
    exact lw_caseI (pc := 790) (n := 1) X hH rc rm hL hi hl (by decide) lw_y_ask lw_wC_ask lw_wM_ask lw_z_ask (by decide) (op_ask _) hce hsl kk
  | 25, _ =>
    refine lv_tableIn (off := 780) (tgt := 813) hx hb lw_sw (by decide) (by decide) (by decide) (by decide) ?_
    exact lw_caseJ (pc := 813) (n := 4) X hH rc rm hL hi hl (by decide) lw_y_storm lw_wC_storm lw_wM_storm lw_z0_storm lw_z_storm (by decide) (op_storm _ _ _ _) hce hsl kk
  | 26, _ =>
    refine lv_tableIn (off := 834) (tgt := 867) hx hb lw_sw (by decide) (by decide) (by decide) (by decide) ?_
    exact lw_caseI (pc := 867) (n := 2) X hH rc rm hL hi hl (by decide) lw_y_shelves lw_wC_shelves lw_wM_shelves lw_z_shelves (by decide) (op_shelves _ _) hce hsl kk
  | 27, _ =>
    refine lv_tableIn (off := 867) (tgt := 900) hx hb lw_sw (by decide) (by decide) (by decide) (by decide) ?_
    exact lw_caseI (pc := 900) (n := 3) X hH rc rm hL hi hl (by decide) lw_y_sheet lw_wC_sheet lw_wM_sheet lw_z_sheet (by decide) (op_sheet _ _ _) hce hsl kk
  | 28, _ =>
    refine lv_tableIn (off := 910) (tgt := 943) hx hb lw_sw (by decide) (by decide) (by decide) (by decide) ?_
    exact lw_caseI (pc := 943) (n := 1) X hH rc rm hL hi hl (by decide) lw_y_lose lw_wC_lose lw_wM_lose lw_z_lose (by decide) (op_lose _) hce hsl kk
  | 29, _ =>
    refine lv_tableIn (off := 933) (tgt := 966) hx hb lw_sw (by decide) (by decide) (by decide) (by decide) ?_
    exact lw_caseI (pc := 966) (n := 4) X hH rc rm hL hi hl (by decide) lw_y_lay lw_wC_lay lw_wM_lay lw_z_lay (by decide) (op_lay _ _ _ _) hce hsl kk
  | 30, _ =>
    refine lv_tableIn (off := 986) (tgt := 1019) hx hb lw_sw (by decide) (by decide) (by decide) (by decide) ?_
    exact lw_caseI (pc := 1019) (n := 3) X hH rc rm hL hi hl (by decide) lw_y_get lw_wC_get lw_wM_get lw_z_get (by decide) (op_get _ _ _) hce hsl kk
  | 31, _ =>
    refine lv_tableIn (off := 1029) (tgt := 1062) hx hb lw_sw (by decide) (by decide) (by decide) (by decide) ?_
    exact lw_caseI (pc := 1062) (n := 5) X hH rc rm hL hi hl (by decide) lw_y_copy lw_wC_copy lw_wM_copy lw_z_copy (by decide) (op_copy _ _ _ _ _) hce hsl kk
  | 32, _ =>
    refine lv_tableIn (off := 1092) (tgt := 1125) hx hb lw_sw (by decide) (by decide) (by decide) (by decide) ?_
    exact lw_caseI (pc := 1125) (n := 2) X hH rc rm hL hi hl (by decide) lw_y_write lw_wC_write lw_wM_write lw_z_write (by decide) (op_write _ _) hce hsl kk
  | 33, _ =>
    refine lv_tableIn (off := 1125) (tgt := 1158) hx hb lw_sw (by decide) (by decide) (by decide) (by decide) ?_
    exact lw_caseI (pc := 1158) (n := 1) X hH rc rm hL hi hl (by decide) lw_y_count lw_wC_count lw_wM_count lw_z_count (by decide) (op_count _) hce hsl kk
  | 34, _ =>
    refine lv_tableIn (off := 1148) (tgt := 1181) hx hb lw_sw (by decide) (by decide) (by decide) (by decide) ?_
    exact lw_caseJ (pc := 1181) (n := 0) X hH rc rm hL hi hl (by decide) lw_y_digest lw_wC_digest lw_wM_digest lw_z0_digest lw_z_digest (by decide) (op_digest ) hce hsl kk
  | j + 35, hj => exact absurd hj (by omega)
end LWL
/-- the loop, to its end -/
theorem lw_loop {p : Program} {l : Launch} {e : Env} {s : State} {m : MethodId} {below : List Frame} {meth : Method} {c : Code} {b L : Nat} {xs : Nat → Int32} {D : va_G} {cA : Nat → ClassId} {adC adM : Nat → Nat} (X : lwX p s m meth c b L xs D cA adC adM) (hL : L ≤ 384) : ∀ (n i : Nat), L + 6 ≤ i + n → i ≤ 390 → ∀ (S : Sp) (wC wM : am_M) (H : Heap) (locs : List Loc) (ls : Array Slot), lwH s D cA adC adM wC wM H locs → RC wC S → RM wM S → lv_has ls 4 [(0, .ref b), (1, .ref (adC 0)), (2, .ref (adM 0)), (3, .int (nI i))] → W p l e room_1 s m #[Value.ref b] below meth c H locs 600000 7302250 (lw_Z below #[Value.ref b] s) (F0 m 18 ls []) := by
  intro n
  obtain ⟨hx, hb, hml, hr, hlk, hown, hts, hX, hbl, -⟩ := id X
  induction n with
  | zero =>
    intro i hi hi2 S wC wM H locs ls hH rc rm hl
    refine lv_iload_n hx hb lw_d18 rfl (lv_at hl 3 rfl) ?_
    refine lv_aload_n hx hb lw_d19 rfl (lv_at hl 0 rfl) ?_
    refine va_slen (A := lwA s) hx hb hX hbl (Nat.not_le.mpr hbl) hH.2.2 lw_d20 ?_
    refine lv_bipush (v := 6) hx hb lw_d21 (by decide) ?_
    refine lv_isub hx hb lw_d23 ?_
    refine lv_icmp_gt (tgt := 1201) hx hb lw_d24 (by decide) (fun _ => ?_) (fun z => absurd (lw_sub6 hL (by omega) z) (by omega))
    refine lv_iconst (v := 1) hx hb lw_d1201 (by decide) ?_
    refine va_forget (fun q hq => hH.2.2.2.2 q hq) ?_
    exact lw_ret hx hb hr hlk lw_d1202
  | succ n ih =>
    intro i hi hi2 S wC wM H locs ls hH rc rm hl
    refine lv_iload_n hx hb lw_d18 rfl (lv_at hl 3 rfl) ?_
    refine lv_aload_n hx hb lw_d19 rfl (lv_at hl 0 rfl) ?_
    refine va_slen (A := lwA s) hx hb hX hbl (Nat.not_le.mpr hbl) hH.2.2 lw_d20 ?_
    refine lv_bipush (v := 6) hx hb lw_d21 (by decide) ?_
    refine lv_isub hx hb lw_d23 ?_
    refine lv_icmp_gt (tgt := 1201) hx hb lw_d24 (by decide) (fun _ => ?_) (fun z => ?_)
    · refine lv_iconst (v := 1) hx hb lw_d1201 (by decide) ?_
      refine va_forget (fun q hq => hH.2.2.2.2 q hq) ?_
      exact lw_ret hx hb hr hlk lw_d1202
    · have hiL : i + 6 ≤ L := lw_sub6 hL (by omega) z
      have again : ∀ (wC' wM' : am_M) (S' : Sp) (H1 : Heap) (locs1 : List Loc), RC wC' S' → RM wM' S' → lwH s D cA adC adM wC' wM' H1 locs1 → W p l e room_1 s m #[Value.ref b] below meth c H1 locs1 600000 7302250 (lw_Z below #[Value.ref b] s) (F0 m 1195 ls []) := by
        intro wC' wM' S' H1 locs1 rc' rm' hH1
        refine lv_iinc (v := nI (i + 6)) (lv' := [(3, .int (nI (i + 6))), (0, .ref b), (1, .ref (adC 0)), (2, .ref (adM 0))]) hx hb lw_d1195 hl (k := 3) rfl (by rw [← nI_add]; rfl) (by decide) rfl (fun ls' hl' => ?_)
        refine lv_goto (tgt := 18) hx hb lw_d1198 (by decide) ?_
        exact ih (i + 6) (by omega) (by omega) S' wC' wM' H1 locs1 ls' hH1 rc' rm' (lv_sub hl' [1, 2, 3, 0] rfl)
      refine lv_aload_n hx hb lw_d27 rfl (lv_at hl 0 rfl) ?_
      refine lv_iload_n hx hb lw_d28 rfl (lv_at hl 3 rfl) ?_
      refine va_sld (A := lwA s) hx hb hX hbl (Nat.not_le.mpr hbl) hH.2.2 (vp_in_nI (by omega) (by omega)) lw_d29 ?_
      refine lv_bipush (v := 63) hx hb lw_d30 (by decide) ?_
      refine lv_iand hx hb lw_d32 ?_
      obtain ⟨j, hj, ej⟩ := pk_andE (xs (nI i).toNatClampNeg) (m := 63) 6 (by decide)
      rw [ej]
      by_cases hj35 : j < 35
      · exact lw_body X hH rc rm hL hiL hl hj35 (Nat.le_refl _) (Nat.le_refl _) again
      · refine lv_tableOut (tgt := 1195) hx hb lw_sw (Or.inr (by rw [nI_toInt (by omega)]; omega)) (by decide) ?_
        exact again wC wM S H locs rc rm hH
