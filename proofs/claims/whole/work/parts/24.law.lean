theorem kV_L_15 : KV RL 15 RX11 yX11_feed cX11_feed 5 (some .int) 2 := KV.mk wd_334 wd_335 wd_336 wd_1 wd_337 (by decide +kernel)
theorem kV_L_19 : KV RL 19 RX12 yX12_feed cX12_feed 5 (some .int) 2 := KV.mk wd_1123 wd_1124 wd_1125 wd_13 wd_1126 (by decide +kernel)
theorem kV_L_20 : KV RL 20 RX11 yX11_village cX11_village 3 (some .int) 0 := KV.mk wd_341 wd_342 wd_343 wd_1 wd_344 (by decide +kernel)
theorem kV_L_24 : KV RL 24 RX12 yX12_village cX12_village 3 (some .int) 0 := KV.mk wd_1131 wd_1132 wd_1133 wd_13 wd_1134 (by decide +kernel)
theorem kV_L_25 : KV RL 25 RX11 yX11_person cX11_person 5 (some .int) 4 := KV.mk wd_486 wd_487 wd_488 wd_1 wd_489 (by decide +kernel)
theorem kV_L_29 : KV RL 29 RX12 yX12_person cX12_person 6 (some .int) 4 := KV.mk wd_1213 wd_1214 wd_1215 wd_13 wd_1216 (by decide +kernel)
theorem kV_L_30 : KV RL 30 RX11 yX11_personOf cX11_personOf 3 (some .int) 2 := KV.mk wd_491 wd_492 wd_493 wd_1 wd_494 (by decide +kernel)
theorem kV_L_34 : KV RL 34 RX12 yX12_personOf cX12_personOf 3 (some .int) 2 := KV.mk wd_1220 wd_1221 wd_1222 wd_13 wd_1223 (by decide +kernel)
theorem kV_L_35 : KV RL 35 RX11 yX11_leave cX11_leave 2 (some .int) 1 := KV.mk wd_499 wd_500 wd_501 wd_1 wd_502 (by decide +kernel)
theorem kV_L_39 : KV RL 39 RX12 yX12_leave cX12_leave 4 (some .int) 1 := KV.mk wd_1228 wd_1229 wd_1230 wd_13 wd_1231 (by decide +kernel)
theorem kV_L_40 : KV RL 40 RX11 yX11_mind cX11_mind 5 (some .int) 3 := KV.mk wd_507 wd_508 wd_509 wd_1 wd_510 (by decide +kernel)
theorem kV_L_44 : KV RL 44 RX12 yX12_mind cX12_mind 5 (some .int) 3 := KV.mk wd_1232 wd_1233 wd_1234 wd_13 wd_1235 (by decide +kernel)
theorem kV_L_45 : KV RL 45 RX11 yX11_give cX11_give 3 (some .int) 2 := KV.mk wd_511 wd_512 wd_513 wd_1 wd_514 (by decide +kernel)
theorem kV_L_48 : KV RL 48 RX12 yX12_give cX12_give 3 (some .int) 2 := KV.mk wd_1236 wd_1237 wd_1238 wd_13 wd_1239 (by decide +kernel)
theorem kV_L_49 : KV RL 49 RX11 yX11_noes cX11_noes 4 (some .int) 2 := KV.mk wd_515 wd_516 wd_517 wd_1 wd_518 (by decide +kernel)
theorem kV_L_52 : KV RL 52 RX12 yX12_noes cX12_noes 4 (some .int) 2 := KV.mk wd_1240 wd_1241 wd_1242 wd_13 wd_1243 (by decide +kernel)
theorem kV_L_53 : KV RL 53 RX11 yX11_proposal cX11_proposal 2 (some .int) 1 := KV.mk wd_519 wd_520 wd_521 wd_1 wd_522 (by decide +kernel)
theorem kV_L_56 : KV RL 56 RX12 yX12_proposal cX12_proposal 3 (some .int) 1 := KV.mk wd_1244 wd_1245 wd_1246 wd_13 wd_1247 (by decide +kernel)
theorem kV_L_57 : KV RL 57 RX11 yX11_weigh cX11_weigh 4 (some .int) 2 := KV.mk wd_524 wd_525 wd_526 wd_1 wd_527 (by decide +kernel)
theorem kV_L_60 : KV RL 60 RX12 yX12_weigh cX12_weigh 4 (some .int) 2 := KV.mk wd_1248 wd_1249 wd_1250 wd_13 wd_1251 (by decide +kernel)
theorem kV_L_61 : KV RL 61 RX11 yX11_worth cX11_worth 5 (some .int) 3 := KV.mk wd_532 wd_533 wd_534 wd_1 wd_535 (by decide +kernel)
theorem kV_L_64 : KV RL 64 RX12 yX12_worth cX12_worth 5 (some .int) 3 := KV.mk wd_1256 wd_1257 wd_1258 wd_13 wd_1259 (by decide +kernel)
theorem kV_L_65 : KV RL 65 RX11 yX11_proposalOf cX11_proposalOf 3 (some .int) 2 := KV.mk wd_536 wd_537 wd_538 wd_1 wd_539 (by decide +kernel)
theorem kV_L_68 : KV RL 68 RX12 yX12_proposalOf cX12_proposalOf 3 (some .int) 2 := KV.mk wd_1264 wd_1265 wd_1266 wd_13 wd_1267 (by decide +kernel)
theorem kV_L_69 : KV RL 69 RX11 yX11_set cX11_set 4 (some .int) 2 := KV.mk wd_540 wd_541 wd_542 wd_1 wd_543 (by decide +kernel)
theorem kV_L_72 : KV RL 72 RX12 yX12_set cX12_set 5 (some .int) 2 := KV.mk wd_1268 wd_1269 wd_1270 wd_13 wd_1271 (by decide +kernel)
theorem kV_L_73 : KV RL 73 RX11 yX11_law cX11_law 2 (some .int) 1 := KV.mk wd_547 wd_548 wd_549 wd_1 wd_550 (by decide +kernel)
theorem kV_L_76 : KV RL 76 RX12 yX12_law cX12_law 2 (some .int) 1 := KV.mk wd_1275 wd_1276 wd_1277 wd_13 wd_1278 (by decide +kernel)
theorem kV_L_77 : KV RL 77 RX11 yX11_would cX11_would 2 (some .int) 1 := KV.mk wd_551 wd_552 wd_553 wd_1 wd_554 (by decide +kernel)
theorem kV_L_80 : KV RL 80 RX12 yX12_would cX12_would 2 (some .int) 1 := KV.mk wd_1279 wd_1280 wd_1281 wd_13 wd_1282 (by decide +kernel)
theorem kV_L_81 : KV RL 81 RX11 yX11_says cX11_says 2 (some .int) 1 := KV.mk wd_586 wd_587 wd_588 wd_1 wd_589 (by decide +kernel)
theorem kV_L_84 : KV RL 84 RX12 yX12_says cX12_says 2 (some .int) 1 := KV.mk wd_1299 wd_1300 wd_1301 wd_13 wd_1302 (by decide +kernel)
theorem kV_L_85 : KV RL 85 RX11 yX11_comes cX11_comes 2 (some .int) 1 := KV.mk wd_604 wd_605 wd_606 wd_1 wd_607 (by decide +kernel)
theorem kV_L_88 : KV RL 88 RX12 yX12_comes cX12_comes 2 (some .int) 1 := KV.mk wd_1307 wd_1308 wd_1309 wd_13 wd_1310 (by decide +kernel)
theorem kV_L_89 : KV RL 89 RX11 yX11_lot cX11_lot 2 (some .int) 0 := KV.mk wd_628 wd_629 wd_630 wd_1 wd_631 (by decide +kernel)
theorem kV_L_92 : KV RL 92 RX12 yX12_lot cX12_lot 3 (some .int) 0 := KV.mk wd_1322 wd_1323 wd_1324 wd_13 wd_1325 (by decide +kernel)
theorem kV_L_93 : KV RL 93 RX11 yX11_had cX11_had 2 (some .int) 1 := KV.mk wd_645 wd_646 wd_647 wd_1 wd_648 (by decide +kernel)
theorem kV_L_96 : KV RL 96 RX12 yX12_had cX12_had 2 (some .int) 1 := KV.mk wd_1338 wd_1339 wd_1340 wd_13 wd_1341 (by decide +kernel)
theorem kV_L_97 : KV RL 97 RX11 yX11_seed cX11_seed 3 (some .int) 1 := KV.mk wd_650 wd_651 wd_652 wd_1 wd_653 (by decide +kernel)
theorem kV_L_100 : KV RL 100 RX12 yX12_seed cX12_seed 3 (some .int) 1 := KV.mk wd_1343 wd_1344 wd_1345 wd_13 wd_1346 (by decide +kernel)
theorem kV_L_101 : KV RL 101 RX11 yX11_value cX11_value 4 (some .long) 3 := KV.mk wd_654 wd_655 wd_656 wd_1 wd_657 (by decide +kernel)
theorem kV_L_105 : KV RL 105 RX12 yX12_value cX12_value 4 (some .long) 3 := KV.mk wd_1347 wd_1348 wd_1349 wd_13 wd_1350 (by decide +kernel)
theorem kV_L_106 : KV RL 106 RX11 yX11_best cX11_best 4 (some .long) 3 := KV.mk wd_695 wd_696 wd_697 wd_1 wd_698 (by decide +kernel)
theorem kV_L_109 : KV RL 109 RX12 yX12_best cX12_best 5 (some .long) 3 := KV.mk wd_1382 wd_1383 wd_1384 wd_13 wd_1385 (by decide +kernel)
theorem kV_L_110 : KV RL 110 RX11 yX11_should cX11_should 4 (some .int) 3 := KV.mk wd_725 wd_726 wd_727 wd_1 wd_728 (by decide +kernel)
theorem kV_L_113 : KV RL 113 RX12 yX12_should cX12_should 11 (some .int) 3 := KV.mk wd_1406 wd_1407 wd_1408 wd_13 wd_1409 (by decide +kernel)
theorem kV_L_114 : KV RL 114 RX11 yX11_barOf cX11_barOf 3 (some .int) 2 := KV.mk wd_733 wd_734 wd_735 wd_1 wd_736 (by decide +kernel)
theorem kV_L_117 : KV RL 117 RX12 yX12_barOf cX12_barOf 11 (some .int) 2 := KV.mk wd_1410 wd_1411 wd_1412 wd_13 wd_1413 (by decide +kernel)
theorem kV_L_118 : KV RL 118 RX11 yX11_lets cX11_lets 5 (some .int) 2 := KV.mk wd_742 wd_743 wd_744 wd_1 wd_745 (by decide +kernel)
theorem kV_L_121 : KV RL 121 RX12 yX12_lets cX12_lets 6 (some .int) 2 := KV.mk wd_1414 wd_1415 wd_1416 wd_13 wd_1417 (by decide +kernel)
theorem kV_L_122 : KV RL 122 RX11 yX11_harm cX11_harm 2 (some .int) 1 := KV.mk wd_754 wd_755 wd_756 wd_1 wd_757 (by decide +kernel)
theorem kV_L_125 : KV RL 125 RX12 yX12_harm cX12_harm 11 (some .int) 1 := KV.mk wd_1426 wd_1427 wd_1428 wd_13 wd_1429 (by decide +kernel)
theorem kV_L_126 : KV RL 126 RX11 yX11_spoilt cX11_spoilt 3 (some .long) 2 := KV.mk wd_762 wd_763 wd_764 wd_1 wd_765 (by decide +kernel)
theorem kV_L_130 : KV RL 130 RX12 yX12_spoilt cX12_spoilt 3 (some .long) 2 := KV.mk wd_1378 wd_1379 wd_1380 wd_13 wd_1381 (by decide +kernel)
theorem kV_L_131 : KV RL 131 RX11 yX11_prove cX11_prove 2 (some .int) 1 := KV.mk wd_767 wd_768 wd_769 wd_1 wd_770 (by decide +kernel)
theorem kV_L_134 : KV RL 134 RX12 yX12_prove cX12_prove 4 (some .int) 1 := KV.mk wd_1430 wd_1431 wd_1432 wd_13 wd_1433 (by decide +kernel)
theorem kV_L_135 : KV RL 135 RX11 yX11_row cX11_row 3 (some .int) 2 := KV.mk wd_777 wd_778 wd_779 wd_1 wd_780 (by decide +kernel)
theorem kV_L_138 : KV RL 138 RX12 yX12_row cX12_row 3 (some .int) 2 := KV.mk wd_1438 wd_1439 wd_1440 wd_13 wd_1441 (by decide +kernel)
theorem kV_L_139 : KV RL 139 RX11 yX11_alterRow cX11_alterRow 5 (some .int) 3 := KV.mk wd_785 wd_786 wd_787 wd_1 wd_788 (by decide +kernel)
theorem kV_L_142 : KV RL 142 RX12 yX12_alterRow cX12_alterRow 5 (some .int) 3 := KV.mk wd_1446 wd_1447 wd_1448 wd_13 wd_1449 (by decide +kernel)
theorem kV_L_143 : KV RL 143 RX11 yX11_judge cX11_judge 3 (some .int) 0 := KV.mk wd_789 wd_790 wd_791 wd_1 wd_792 (by decide +kernel)
theorem kV_L_146 : KV RL 146 RX12 yX12_judge cX12_judge 3 (some .int) 0 := KV.mk wd_1450 wd_1451 wd_1452 wd_13 wd_1453 (by decide +kernel)
theorem kV_L_147 : KV RL 147 RX11 yX11_worths cX11_worths 6 (some .int) 2 := KV.mk wd_793 wd_794 wd_795 wd_1 wd_796 (by decide +kernel)
theorem kV_L_150 : KV RL 150 RX12 yX12_worths cX12_worths 8 (some .int) 2 := KV.mk wd_1454 wd_1455 wd_1456 wd_13 wd_1457 (by decide +kernel)
theorem kV_L_151 : KV RL 151 RX11 yX11_sheet cX11_sheet 4 (some .int) 3 := KV.mk wd_799 wd_800 wd_801 wd_1 wd_802 (by decide +kernel)
theorem kV_L_154 : KV RL 154 RX12 yX12_sheet cX12_sheet 5 (some .int) 3 := KV.mk wd_1467 wd_1468 wd_1469 wd_13 wd_1470 (by decide +kernel)
theorem kV_L_155 : KV RL 155 RX11 yX11_put cX11_put 5 (some .int) 3 := KV.mk wd_807 wd_808 wd_809 wd_1 wd_810 (by decide +kernel)
theorem kV_L_158 : KV RL 158 RX12 yX12_put cX12_put 4 (some .int) 3 := KV.mk wd_1471 wd_1472 wd_1473 wd_13 wd_1474 (by decide +kernel)
theorem kV_L_159 : KV RL 159 RX11 yX11_item cX11_item 5 (some .int) 3 := KV.mk wd_814 wd_815 wd_816 wd_1 wd_817 (by decide +kernel)
theorem kV_L_162 : KV RL 162 RX12 yX12_item cX12_item 5 (some .int) 3 := KV.mk wd_1475 wd_1476 wd_1477 wd_13 wd_1478 (by decide +kernel)
theorem kV_L_163 : KV RL 163 RX11 yX11_shelf cX11_shelf 5 (some .int) 3 := KV.mk wd_818 wd_819 wd_820 wd_1 wd_821 (by decide +kernel)
theorem kV_L_166 : KV RL 166 RX12 yX12_shelf cX12_shelf 4 (some .int) 3 := KV.mk wd_1479 wd_1480 wd_1481 wd_13 wd_1482 (by decide +kernel)
theorem kV_L_167 : KV RL 167 RX11 yX11_taken cX11_taken 4 (some .int) 2 := KV.mk wd_826 wd_827 wd_828 wd_1 wd_829 (by decide +kernel)
theorem kV_L_170 : KV RL 170 RX12 yX12_taken cX12_taken 4 (some .int) 2 := KV.mk wd_1487 wd_1488 wd_1489 wd_13 wd_1490 (by decide +kernel)
theorem kV_L_171 : KV RL 171 RX11 yX11_act cX11_act 6 (some .int) 3 := KV.mk wd_837 wd_838 wd_839 wd_1 wd_840 (by decide +kernel)
theorem kV_L_174 : KV RL 174 RX12 yX12_act cX12_act 6 (some .int) 3 := KV.mk wd_1498 wd_1499 wd_1500 wd_13 wd_1501 (by decide +kernel)
theorem kV_L_175 : KV RL 175 RX11 yX11_trace cX11_trace 2 (some .int) 1 := KV.mk wd_937 wd_938 wd_939 wd_1 wd_940 (by decide +kernel)
theorem kV_L_178 : KV RL 178 RX12 yX12_trace cX12_trace 2 (some .int) 1 := KV.mk wd_1542 wd_1543 wd_1544 wd_13 wd_1545 (by decide +kernel)
theorem kV_L_179 : KV RL 179 RX11 yX11_many cX11_many 2 (some .int) 1 := KV.mk wd_941 wd_942 wd_943 wd_1 wd_944 (by decide +kernel)
theorem kV_L_182 : KV RL 182 RX12 yX12_many cX12_many 4 (some .int) 1 := KV.mk wd_1546 wd_1547 wd_1548 wd_13 wd_1549 (by decide +kernel)
theorem kV_L_183 : KV RL 183 RX11 yX11_keep cX11_keep 1 (some .int) 0 := KV.mk wd_949 wd_950 wd_951 wd_1 wd_952 (by decide +kernel)
theorem kV_L_186 : KV RL 186 RX12 yX12_keep cX12_keep 1 (some .int) 0 := KV.mk wd_1550 wd_1551 wd_1552 wd_13 wd_1553 (by decide +kernel)
theorem kV_L_187 : KV RL 187 RX11 yX11_again cX11_again 1 (some .int) 0 := KV.mk wd_953 wd_954 wd_955 wd_1 wd_956 (by decide +kernel)
theorem kV_L_190 : KV RL 190 RX12 yX12_again cX12_again 1 (some .int) 0 := KV.mk wd_1562 wd_1563 wd_1564 wd_13 wd_1565 (by decide +kernel)
set_option maxHeartbeats 8000000 in
set_option maxRecDepth 100000 in
theorem law_loop {p : Program} {l : Launch} {e : Env} {s0 : State} {m : MethodId} {args : Array Value} {below : List Frame} {meth : Method} {c : Code} {G : g_G} (OK : EOk G.2.2) (adK adV : Nat → Nat) (hX : HX G adK adV) (hXI : HXI G) (fu : Nat) {b L : Nat} {xs : Nat → Int32} (XX : Cx G (fun q : Nat => s0.heap.size ≤ q) p s0 m meth c cL_law 4 RL args) (hXs : va_X b L xs s0 s0.heap) (hbl : b < s0.heap.size) {cells slots : Nat} (hc1 : cells ≤ room_1.cells) (hs1 : slots ≤ room_1.slots) (oa : Nat → Nat) (na : Nat → Nat) (ka : Nat → Nat) (aa : Nat → Nat) (wa : Nat → Nat) (ra : Nat → Nat) (ma : Nat → Nat) (pa : Nat → Nat) (sd : Nat → Nat → Nat) (yd : Nat → Nat) (td : Nat → Nat) (ad : Nat → Nat) {Q : State → Prop}
    (hend : ∀ (H : Heap) (locs : List Loc) {ow : g_St} {nw : g_St} {kp : g_St} {ah : g_St} {aw : g_St} {rd : g_St} {md : g_St} {tp : g_St} {hh : g_Sf} {th : g_St} {tr : g_St} {s : g_St}, Iv G (fun q : Nat => s0.heap.size ≤ q) s0 H locs ((bO G oa na ka aa ra pa sd yd td ow ++ (bV G na nw ++ (bV G ka kp ++ (bA G aa wa ah ++ (bV G wa aw ++ (bT G ra ma rd ++ (bV G ma md ++ (bP G pa tp ++ (bH G sd hh ++ (bY G yd td th ++ (bK G td tr ++ []))))))))))) ++ (wM G ad s ++ [])) → ∀ (ls : Array Slot), decode cL_law 1552 = .ok (.ireturn, 1) → W p l e room_1 s0 m args below meth c H locs cells slots Q (F0 m 1552 ls [.int 1])) :
    ∀ (n : Nat) (ow : g_St) (nw : g_St) (kp : g_St) (ah : g_St) (aw : g_St) (rd : g_St) (md : g_St) (tp : g_St) (hh : g_Sf) (th : g_St) (tr : g_St) (s : g_St) (v3 : Int32), f_law fu L xs n ow nw kp ah aw rd md tp hh th tr s v3 = some () → ∀ (H : Heap) (locs : List Loc), Iv G (fun q : Nat => s0.heap.size ≤ q) s0 H locs ((bO G oa na ka aa ra pa sd yd td ow ++ (bV G na nw ++ (bV G ka kp ++ (bA G aa wa ah ++ (bV G wa aw ++ (bT G ra ma rd ++ (bV G ma md ++ (bP G pa tp ++ (bH G sd hh ++ (bY G yd td th ++ (bK G td tr ++ []))))))))))) ++ (wM G ad s ++ [])) → ∀ ls, lv_has ls 4 [(0, .ref b), (1, .ref (oa 0)), (2, .ref (ad 0)), (3, .int v3)] → W p l e room_1 s0 m args below meth c H locs cells slots Q (F0 m 18 ls []) := by
  have hx := XX.x
  have hb := XX.b
  have hbA : ¬ (fun q : Nat => s0.heap.size ≤ q) b := Nat.not_le.mpr hbl
  intro n
  induction n with
  | zero => intro ow nw kp ah aw rd md tp hh th tr s v3 h; exact absurd h (fun q => by cases q)
  | succ n ih =>
    intro ow nw kp ah aw rd md tp hh th tr s v3 h H locs I ls hl
    rw [f_law] at h
    refine lv_iload_n hx hb dL_law_18 rfl (lv_at hl 3 rfl) ?_
    refine lv_aload_n hx hb dL_law_19 rfl (lv_at hl 0 rfl) ?_
    refine va_slen hx hb hXs hbl hbA I.2.2.1 dL_law_20 ?_
    refine lv_iconst (v := 5) hx hb dL_law_21 (by decide) ?_
    refine lv_isub hx hb dL_law_22 ?_
    refine lv_icmp_gt (tgt := 1551) hx hb dL_law_23 (by decide) (fun c1 => ?_) (fun c1 => ?_)
    · replace h := if_t h c1
      refine lv_iconst (v := 1) hx hb dL_law_1551 (by decide) ?_
      exact hend H locs I ls dL_law_1552
    · replace h := if_f h c1
      refine lv_aload_n hx hb dL_law_26 rfl (lv_at hl 0 rfl) ?_
      refine lv_iload_n hx hb dL_law_27 rfl (lv_at hl 3 rfl) ?_
      obtain ⟨g1, h⟩ := gd_some h
      refine va_sld hx hb hXs hbl hbA I.2.2.1 g1 dL_law_28 ?_
      refine lv_bipush (v := 63) hx hb dL_law_29 (by decide) ?_
      refine lv_iand hx hb dL_law_31 ?_
      refine lv_topi (fun y2 ey2 => ?_)
      replace h := lt_e h ey2
      by_cases q0 : y2 = (0 : Int32)
      · replace h := if_t h q0
        refine lv_tableIn (tgt := 216) (off := 184) hx hb dL_law_32 (by rw [q0]; decide) (by rw [q0]; decide) (by rw [q0]; rfl) (by decide) ?_
        refine lv_aload_n hx hb dL_law_216 rfl (lv_at hl 1 rfl) ?_
        refine lv_aload_n hx hb dL_law_217 rfl (lv_at hl 0 rfl) ?_
        refine lv_iload_n hx hb dL_law_218 rfl (lv_at hl 3 rfl) ?_
        refine lv_iconst (v := 1) hx hb dL_law_219 (by decide) ?_
        refine lv_iadd hx hb dL_law_220 ?_
        obtain ⟨g3, h⟩ := gd_some h
        refine va_sld hx hb hXs hbl hbA I.2.2.1 g3 dL_law_221 ?_
        refine lv_i2l hx hb dL_law_222 rfl ?_
        refine lv_bipush (v := 32) hx hb dL_law_223 (by decide) ?_
        refine lv_lshl hx hb dL_law_225 rfl ?_
        refine lv_aload_n hx hb dL_law_226 rfl (lv_at hl 0 rfl) ?_
        refine lv_iload_n hx hb dL_law_227 rfl (lv_at hl 3 rfl) ?_
        refine lv_iconst (v := 2) hx hb dL_law_228 (by decide) ?_
        refine lv_iadd hx hb dL_law_229 ?_
        obtain ⟨g4, h⟩ := gd_some h
        refine va_sld hx hb hXs hbl hbA I.2.2.1 g4 dL_law_230 ?_
        refine lv_i2l hx hb dL_law_231 rfl ?_
        refine lv_ldc2 (v := 4294967295) hx hb XX.o (XX.t _ wd_1566) dL_law_232 ?_
        refine lv_land hx hb dL_law_235 ?_
        refine lv_lor hx hb dL_law_236 ?_
        refine lv_aload_n hx hb dL_law_237 rfl (lv_at hl 0 rfl) ?_
        refine lv_iload_n hx hb dL_law_238 rfl (lv_at hl 3 rfl) ?_
        refine lv_iconst (v := 3) hx hb dL_law_239 (by decide) ?_
        refine lv_iadd hx hb dL_law_240 ?_
        obtain ⟨g5, h⟩ := gd_some h
        refine va_sld hx hb hXs hbl hbA I.2.2.1 g5 dL_law_241 ?_
        obtain ⟨r6, s7, s8, q9, h⟩ := bd3_some h
        refine call_i (X := []) (wc := (bO G oa na ka aa ra pa sd yd td ow ++ (bV G na nw ++ (bV G ka kp ++ (bA G aa wa ah ++ (bV G wa aw ++ (bT G ra ma rd ++ (bV G ma md ++ (bP G pa tp ++ (bH G sd hh ++ (bY G yd td th ++ (bK G td tr ++ [])))))))))))) (Y := wM G ad s ++ []) (rest := []) XX I hl.1 (c_O_feed l G OK oa na ka aa wa ra ma pa sd yd td fu ow nw kp ah aw rd md tp hh th tr ((g_shlL ((xs (v3 + (1 : Int32)).toNatClampNeg).toInt64) (32 : Int32)) ||| (((xs (v3 + (2 : Int32)).toNatClampNeg).toInt64) &&& (4294967295 : Int64))) (xs (v3 + (3 : Int32)).toNatClampNeg) r6 s7 s8 q9) kV_L_15 (Rc.mk XX I (q0 := 0) (ci := 11) rfl rfl) rfl rfl (Nat.le_of_ble_eq_true rfl) ⟨rfl, rfl, Nat.le_of_ble_eq_true rfl, Nat.le_of_ble_eq_true rfl⟩ ⟨hc1, hs1⟩ dL_law_242 (fun H locs hz I => ?_)
        replace I : Iv G (fun q : Nat => s0.heap.size ≤ q) s0 H locs ((bO G oa na ka aa ra pa sd yd td s7 ++ (bV G na nw ++ (bV G ka kp ++ (bA G aa wa ah ++ (bV G wa aw ++ (bT G ra ma rd ++ (bV G ma md ++ (bP G pa s8 ++ (bH G sd hh ++ (bY G yd td th ++ (bK G td tr ++ []))))))))))) ++ (wM G ad s ++ [])) := I
        refine lv_aload_n hx hb dL_law_245 rfl (lv_at hl 2 rfl) ?_
        refine lv_aload_n hx hb dL_law_246 rfl (lv_at hl 0 rfl) ?_
        refine lv_iload_n hx hb dL_law_247 rfl (lv_at hl 3 rfl) ?_
        refine lv_iconst (v := 1) hx hb dL_law_248 (by decide) ?_
        refine lv_iadd hx hb dL_law_249 ?_
        obtain ⟨g10, h⟩ := gd_some h
        refine va_sld hx hb hXs hbl hbA I.2.2.1 g10 dL_law_250 ?_
        refine lv_i2l hx hb dL_law_251 rfl ?_
        refine lv_bipush (v := 32) hx hb dL_law_252 (by decide) ?_
        refine lv_lshl hx hb dL_law_254 rfl ?_
        refine lv_aload_n hx hb dL_law_255 rfl (lv_at hl 0 rfl) ?_
        refine lv_iload_n hx hb dL_law_256 rfl (lv_at hl 3 rfl) ?_
        refine lv_iconst (v := 2) hx hb dL_law_257 (by decide) ?_
        refine lv_iadd hx hb dL_law_258 ?_
        obtain ⟨g11, h⟩ := gd_some h
        refine va_sld hx hb hXs hbl hbA I.2.2.1 g11 dL_law_259 ?_
        refine lv_i2l hx hb dL_law_260 rfl ?_
        refine lv_ldc2 (v := 4294967295) hx hb XX.o (XX.t _ wd_1566) dL_law_261 ?_
        refine lv_land hx hb dL_law_264 ?_
        refine lv_lor hx hb dL_law_265 ?_
        refine lv_aload_n hx hb dL_law_266 rfl (lv_at hl 0 rfl) ?_
        refine lv_iload_n hx hb dL_law_267 rfl (lv_at hl 3 rfl) ?_
        refine lv_iconst (v := 3) hx hb dL_law_268 (by decide) ?_
        refine lv_iadd hx hb dL_law_269 ?_
        obtain ⟨g12, h⟩ := gd_some h
        refine va_sld hx hb hXs hbl hbA I.2.2.1 g12 dL_law_270 ?_
        obtain ⟨r13, s14, q15, h⟩ := bd2_some h
        refine call_i (X := (bO G oa na ka aa ra pa sd yd td s7 ++ (bV G na nw ++ (bV G ka kp ++ (bA G aa wa ah ++ (bV G wa aw ++ (bT G ra ma rd ++ (bV G ma md ++ (bP G pa s8 ++ (bH G sd hh ++ (bY G yd td th ++ (bK G td tr ++ [])))))))))))) (wc := wM G ad s) (Y := []) (rest := [.int r6]) XX I hl.1 (c_M_feed l G OK ad fu s ((g_shlL ((xs (v3 + (1 : Int32)).toNatClampNeg).toInt64) (32 : Int32)) ||| (((xs (v3 + (2 : Int32)).toNatClampNeg).toInt64) &&& (4294967295 : Int64))) (xs (v3 + (3 : Int32)).toNatClampNeg) r13 s14 q15) kV_L_19 (Rc.mk XX I (q0 := 121) (ci := 12) rfl rfl) rfl rfl (Nat.le_of_ble_eq_true rfl) ⟨rfl, rfl, Nat.le_of_ble_eq_true rfl, Nat.le_of_ble_eq_true rfl⟩ ⟨hc1, hs1⟩ dL_law_271 (fun H locs hz I => ?_)
        replace I : Iv G (fun q : Nat => s0.heap.size ≤ q) s0 H locs ((bO G oa na ka aa ra pa sd yd td s7 ++ (bV G na nw ++ (bV G ka kp ++ (bA G aa wa ah ++ (bV G wa aw ++ (bT G ra ma rd ++ (bV G ma md ++ (bP G pa s8 ++ (bH G sd hh ++ (bY G yd td th ++ (bK G td tr ++ []))))))))))) ++ (wM G ad s14 ++ [])) := I
        refine lv_icmp_eq (tgt := 1545) hx hb dL_law_274 (by decide) (fun c1 => ?_) (fun c1 => ?_)
        · replace h := if_t h c1
          obtain ⟨y16, ey16⟩ : ∃ z : Int32, z = v3 + (5 : Int32) := ⟨_, rfl⟩
          replace h := lt_e h ey16
          refine lv_iinc (v := y16) (lv' := [(3, .int y16), (0, .ref b), (1, .ref (oa 0)), (2, .ref (ad 0))]) hx hb dL_law_1545 hl (k := 3) rfl (by rw [ey16]; rfl) (by decide) rfl (fun ls hl => ?_)
          refine lv_goto (tgt := 18) hx hb dL_law_1548 (by decide) ?_
          exact ih _ _ _ _ _ _ _ _ _ _ _ _ _ h _ _ I ls (lv_sub hl [1, 2, 3, 0] rfl)
        · replace h := if_f h c1
          refine lv_iconst (v := 0) hx hb dL_law_277 (by decide) ?_
          exact absurd h (fun q => by cases q)
      replace h := if_f h q0
      by_cases q1 : y2 = (1 : Int32)
      · replace h := if_t h q1
        refine lv_tableIn (tgt := 279) (off := 247) hx hb dL_law_32 (by rw [q1]; decide) (by rw [q1]; decide) (by rw [q1]; rfl) (by decide) ?_
        refine lv_aload_n hx hb dL_law_279 rfl (lv_at hl 1 rfl) ?_
        obtain ⟨r17, s18, s19, s20, s21, q22, h⟩ := bd5_some h
        refine call_i (X := []) (wc := (bO G oa na ka aa ra pa sd yd td ow ++ (bV G na nw ++ (bV G ka kp ++ (bA G aa wa ah ++ (bV G wa aw ++ (bT G ra ma rd ++ (bV G ma md ++ (bP G pa tp ++ (bH G sd hh ++ (bY G yd td th ++ (bK G td tr ++ [])))))))))))) (Y := wM G ad s ++ []) (rest := []) XX I hl.1 (c_O_village l G OK adK adV hX oa na ka aa wa ra ma pa sd yd td fu ow nw kp ah aw rd md tp hh th tr r17 s18 s19 s20 s21 q22) kV_L_20 (Rc.mk XX I (q0 := 0) (ci := 11) rfl rfl) rfl rfl (Nat.le_of_ble_eq_true rfl) ⟨rfl, rfl, Nat.le_of_ble_eq_true rfl, Nat.le_of_ble_eq_true rfl⟩ ⟨hc1, hs1⟩ dL_law_280 (fun H locs hz I => ?_)
        replace I : Iv G (fun q : Nat => s0.heap.size ≤ q) s0 H locs ((bO G oa na ka aa ra pa sd yd td s18 ++ (bV G na s19 ++ (bV G ka kp ++ (bA G aa wa ah ++ (bV G wa aw ++ (bT G ra ma s20 ++ (bV G ma s21 ++ (bP G pa tp ++ (bH G sd hh ++ (bY G yd td th ++ (bK G td tr ++ []))))))))))) ++ (wM G ad s ++ [])) := I
        refine lv_aload_n hx hb dL_law_283 rfl (lv_at hl 2 rfl) ?_
        obtain ⟨r23, s24, q25, h⟩ := bd2_some h
        refine call_i (X := (bO G oa na ka aa ra pa sd yd td s18 ++ (bV G na s19 ++ (bV G ka kp ++ (bA G aa wa ah ++ (bV G wa aw ++ (bT G ra ma s20 ++ (bV G ma s21 ++ (bP G pa tp ++ (bH G sd hh ++ (bY G yd td th ++ (bK G td tr ++ [])))))))))))) (wc := wM G ad s) (Y := []) (rest := [.int r17]) XX I hl.1 (c_M_village l G OK ad fu s r23 s24 q25) kV_L_24 (Rc.mk XX I (q0 := 121) (ci := 12) rfl rfl) rfl rfl (Nat.le_of_ble_eq_true rfl) ⟨rfl, rfl, Nat.le_of_ble_eq_true rfl, Nat.le_of_ble_eq_true rfl⟩ ⟨hc1, hs1⟩ dL_law_284 (fun H locs hz I => ?_)
        replace I : Iv G (fun q : Nat => s0.heap.size ≤ q) s0 H locs ((bO G oa na ka aa ra pa sd yd td s18 ++ (bV G na s19 ++ (bV G ka kp ++ (bA G aa wa ah ++ (bV G wa aw ++ (bT G ra ma s20 ++ (bV G ma s21 ++ (bP G pa tp ++ (bH G sd hh ++ (bY G yd td th ++ (bK G td tr ++ []))))))))))) ++ (wM G ad s24 ++ [])) := I
        refine lv_icmp_eq (tgt := 1545) hx hb dL_law_287 (by decide) (fun c1 => ?_) (fun c1 => ?_)
        · replace h := if_t h c1
          obtain ⟨y26, ey26⟩ : ∃ z : Int32, z = v3 + (5 : Int32) := ⟨_, rfl⟩
          replace h := lt_e h ey26
          refine lv_iinc (v := y26) (lv' := [(3, .int y26), (0, .ref b), (1, .ref (oa 0)), (2, .ref (ad 0))]) hx hb dL_law_1545 hl (k := 3) rfl (by rw [ey26]; rfl) (by decide) rfl (fun ls hl => ?_)
          refine lv_goto (tgt := 18) hx hb dL_law_1548 (by decide) ?_
          exact ih _ _ _ _ _ _ _ _ _ _ _ _ _ h _ _ I ls (lv_sub hl [1, 2, 3, 0] rfl)
        · replace h := if_f h c1
          refine lv_iconst (v := 0) hx hb dL_law_290 (by decide) ?_
          exact absurd h (fun q => by cases q)
      replace h := if_f h q1
      by_cases q2 : y2 = (2 : Int32)
      · replace h := if_t h q2
        refine lv_tableIn (tgt := 292) (off := 260) hx hb dL_law_32 (by rw [q2]; decide) (by rw [q2]; decide) (by rw [q2]; rfl) (by decide) ?_
        refine lv_aload_n hx hb dL_law_292 rfl (lv_at hl 1 rfl) ?_
        refine lv_aload_n hx hb dL_law_293 rfl (lv_at hl 0 rfl) ?_
        refine lv_iload_n hx hb dL_law_294 rfl (lv_at hl 3 rfl) ?_
        refine lv_iconst (v := 1) hx hb dL_law_295 (by decide) ?_
        refine lv_iadd hx hb dL_law_296 ?_
        obtain ⟨g27, h⟩ := gd_some h
        refine va_sld hx hb hXs hbl hbA I.2.2.1 g27 dL_law_297 ?_
        refine lv_aload_n hx hb dL_law_298 rfl (lv_at hl 0 rfl) ?_
        refine lv_iload_n hx hb dL_law_299 rfl (lv_at hl 3 rfl) ?_
        refine lv_iconst (v := 2) hx hb dL_law_300 (by decide) ?_
        refine lv_iadd hx hb dL_law_301 ?_
        obtain ⟨g28, h⟩ := gd_some h
        refine va_sld hx hb hXs hbl hbA I.2.2.1 g28 dL_law_302 ?_
        refine lv_aload_n hx hb dL_law_303 rfl (lv_at hl 0 rfl) ?_
        refine lv_iload_n hx hb dL_law_304 rfl (lv_at hl 3 rfl) ?_
        refine lv_iconst (v := 3) hx hb dL_law_305 (by decide) ?_
        refine lv_iadd hx hb dL_law_306 ?_
        obtain ⟨g29, h⟩ := gd_some h
        refine va_sld hx hb hXs hbl hbA I.2.2.1 g29 dL_law_307 ?_
        refine lv_aload_n hx hb dL_law_308 rfl (lv_at hl 0 rfl) ?_
        refine lv_iload_n hx hb dL_law_309 rfl (lv_at hl 3 rfl) ?_
        refine lv_iconst (v := 4) hx hb dL_law_310 (by decide) ?_
        refine lv_iadd hx hb dL_law_311 ?_
        obtain ⟨g30, h⟩ := gd_some h
        refine va_sld hx hb hXs hbl hbA I.2.2.1 g30 dL_law_312 ?_
        obtain ⟨r31, s32, q33, h⟩ := bd2_some h
        refine call_i (X := []) (wc := (bO G oa na ka aa ra pa sd yd td ow ++ (bV G na nw ++ (bV G ka kp ++ (bA G aa wa ah ++ (bV G wa aw ++ (bT G ra ma rd ++ (bV G ma md ++ (bP G pa tp ++ (bH G sd hh ++ (bY G yd td th ++ (bK G td tr ++ [])))))))))))) (Y := wM G ad s ++ []) (rest := []) XX I hl.1 (c_O_person l G OK oa na ka aa wa ra ma pa sd yd td fu ow nw kp ah aw rd md tp hh th tr (xs (v3 + (1 : Int32)).toNatClampNeg) (xs (v3 + (2 : Int32)).toNatClampNeg) (xs (v3 + (3 : Int32)).toNatClampNeg) (xs (v3 + (4 : Int32)).toNatClampNeg) r31 s32 q33) kV_L_25 (Rc.mk XX I (q0 := 0) (ci := 11) rfl rfl) rfl rfl (Nat.le_of_ble_eq_true rfl) ⟨rfl, rfl, Nat.le_of_ble_eq_true rfl, Nat.le_of_ble_eq_true rfl⟩ ⟨hc1, hs1⟩ dL_law_313 (fun H locs hz I => ?_)
        replace I : Iv G (fun q : Nat => s0.heap.size ≤ q) s0 H locs ((bO G oa na ka aa ra pa sd yd td ow ++ (bV G na s32 ++ (bV G ka kp ++ (bA G aa wa ah ++ (bV G wa aw ++ (bT G ra ma rd ++ (bV G ma md ++ (bP G pa tp ++ (bH G sd hh ++ (bY G yd td th ++ (bK G td tr ++ []))))))))))) ++ (wM G ad s ++ [])) := I
        refine lv_aload_n hx hb dL_law_316 rfl (lv_at hl 2 rfl) ?_
        refine lv_aload_n hx hb dL_law_317 rfl (lv_at hl 0 rfl) ?_
        refine lv_iload_n hx hb dL_law_318 rfl (lv_at hl 3 rfl) ?_
        refine lv_iconst (v := 1) hx hb dL_law_319 (by decide) ?_
        refine lv_iadd hx hb dL_law_320 ?_
        obtain ⟨g34, h⟩ := gd_some h
        refine va_sld hx hb hXs hbl hbA I.2.2.1 g34 dL_law_321 ?_
        refine lv_aload_n hx hb dL_law_322 rfl (lv_at hl 0 rfl) ?_
        refine lv_iload_n hx hb dL_law_323 rfl (lv_at hl 3 rfl) ?_
        refine lv_iconst (v := 2) hx hb dL_law_324 (by decide) ?_
        refine lv_iadd hx hb dL_law_325 ?_
        obtain ⟨g35, h⟩ := gd_some h
        refine va_sld hx hb hXs hbl hbA I.2.2.1 g35 dL_law_326 ?_
        refine lv_aload_n hx hb dL_law_327 rfl (lv_at hl 0 rfl) ?_
        refine lv_iload_n hx hb dL_law_328 rfl (lv_at hl 3 rfl) ?_
        refine lv_iconst (v := 3) hx hb dL_law_329 (by decide) ?_
        refine lv_iadd hx hb dL_law_330 ?_
        obtain ⟨g36, h⟩ := gd_some h
        refine va_sld hx hb hXs hbl hbA I.2.2.1 g36 dL_law_331 ?_
        refine lv_aload_n hx hb dL_law_332 rfl (lv_at hl 0 rfl) ?_
        refine lv_iload_n hx hb dL_law_333 rfl (lv_at hl 3 rfl) ?_
        refine lv_iconst (v := 4) hx hb dL_law_334 (by decide) ?_
        refine lv_iadd hx hb dL_law_335 ?_
        obtain ⟨g37, h⟩ := gd_some h
        refine va_sld hx hb hXs hbl hbA I.2.2.1 g37 dL_law_336 ?_
        obtain ⟨r38, s39, q40, h⟩ := bd2_some h
        refine call_i (X := (bO G oa na ka aa ra pa sd yd td ow ++ (bV G na s32 ++ (bV G ka kp ++ (bA G aa wa ah ++ (bV G wa aw ++ (bT G ra ma rd ++ (bV G ma md ++ (bP G pa tp ++ (bH G sd hh ++ (bY G yd td th ++ (bK G td tr ++ [])))))))))))) (wc := wM G ad s) (Y := []) (rest := [.int r31]) XX I hl.1 (c_M_person l G OK ad fu s (xs (v3 + (1 : Int32)).toNatClampNeg) (xs (v3 + (2 : Int32)).toNatClampNeg) (xs (v3 + (3 : Int32)).toNatClampNeg) (xs (v3 + (4 : Int32)).toNatClampNeg) r38 s39 q40) kV_L_29 (Rc.mk XX I (q0 := 121) (ci := 12) rfl rfl) rfl rfl (Nat.le_of_ble_eq_true rfl) ⟨rfl, rfl, Nat.le_of_ble_eq_true rfl, Nat.le_of_ble_eq_true rfl⟩ ⟨hc1, hs1⟩ dL_law_337 (fun H locs hz I => ?_)
        replace I : Iv G (fun q : Nat => s0.heap.size ≤ q) s0 H locs ((bO G oa na ka aa ra pa sd yd td ow ++ (bV G na s32 ++ (bV G ka kp ++ (bA G aa wa ah ++ (bV G wa aw ++ (bT G ra ma rd ++ (bV G ma md ++ (bP G pa tp ++ (bH G sd hh ++ (bY G yd td th ++ (bK G td tr ++ []))))))))))) ++ (wM G ad s39 ++ [])) := I
        refine lv_icmp_eq (tgt := 1545) hx hb dL_law_340 (by decide) (fun c1 => ?_) (fun c1 => ?_)
        · replace h := if_t h c1
          obtain ⟨y41, ey41⟩ : ∃ z : Int32, z = v3 + (5 : Int32) := ⟨_, rfl⟩
          replace h := lt_e h ey41
          refine lv_iinc (v := y41) (lv' := [(3, .int y41), (0, .ref b), (1, .ref (oa 0)), (2, .ref (ad 0))]) hx hb dL_law_1545 hl (k := 3) rfl (by rw [ey41]; rfl) (by decide) rfl (fun ls hl => ?_)
          refine lv_goto (tgt := 18) hx hb dL_law_1548 (by decide) ?_
          exact ih _ _ _ _ _ _ _ _ _ _ _ _ _ h _ _ I ls (lv_sub hl [1, 2, 3, 0] rfl)
        · replace h := if_f h c1
          refine lv_iconst (v := 0) hx hb dL_law_343 (by decide) ?_
          exact absurd h (fun q => by cases q)
      replace h := if_f h q2
      by_cases q3 : y2 = (3 : Int32)
      · replace h := if_t h q3
        refine lv_tableIn (tgt := 345) (off := 313) hx hb dL_law_32 (by rw [q3]; decide) (by rw [q3]; decide) (by rw [q3]; rfl) (by decide) ?_
        refine lv_aload_n hx hb dL_law_345 rfl (lv_at hl 1 rfl) ?_
        refine lv_aload_n hx hb dL_law_346 rfl (lv_at hl 0 rfl) ?_
        refine lv_iload_n hx hb dL_law_347 rfl (lv_at hl 3 rfl) ?_
        refine lv_iconst (v := 1) hx hb dL_law_348 (by decide) ?_
        refine lv_iadd hx hb dL_law_349 ?_
        obtain ⟨g42, h⟩ := gd_some h
        refine va_sld hx hb hXs hbl hbA I.2.2.1 g42 dL_law_350 ?_
        refine lv_aload_n hx hb dL_law_351 rfl (lv_at hl 0 rfl) ?_
        refine lv_iload_n hx hb dL_law_352 rfl (lv_at hl 3 rfl) ?_
        refine lv_iconst (v := 2) hx hb dL_law_353 (by decide) ?_
        refine lv_iadd hx hb dL_law_354 ?_
        obtain ⟨g43, h⟩ := gd_some h
        refine va_sld hx hb hXs hbl hbA I.2.2.1 g43 dL_law_355 ?_
        obtain ⟨r44, q45, h⟩ := bd1_some h
        refine call_i (X := []) (wc := (bO G oa na ka aa ra pa sd yd td ow ++ (bV G na nw ++ (bV G ka kp ++ (bA G aa wa ah ++ (bV G wa aw ++ (bT G ra ma rd ++ (bV G ma md ++ (bP G pa tp ++ (bH G sd hh ++ (bY G yd td th ++ (bK G td tr ++ [])))))))))))) (Y := wM G ad s ++ []) (rest := []) XX I hl.1 (c_O_personOf l G OK oa na ka aa wa ra ma pa sd yd td ow nw kp ah aw rd md tp hh th tr (xs (v3 + (1 : Int32)).toNatClampNeg) (xs (v3 + (2 : Int32)).toNatClampNeg) r44 q45) kV_L_30 (Rc.mk XX I (q0 := 0) (ci := 11) rfl rfl) rfl rfl (Nat.le_of_ble_eq_true rfl) ⟨rfl, rfl, Nat.le_of_ble_eq_true rfl, Nat.le_of_ble_eq_true rfl⟩ ⟨hc1, hs1⟩ dL_law_356 (fun H locs hz I => ?_)
        replace I : Iv G (fun q : Nat => s0.heap.size ≤ q) s0 H locs ((bO G oa na ka aa ra pa sd yd td ow ++ (bV G na nw ++ (bV G ka kp ++ (bA G aa wa ah ++ (bV G wa aw ++ (bT G ra ma rd ++ (bV G ma md ++ (bP G pa tp ++ (bH G sd hh ++ (bY G yd td th ++ (bK G td tr ++ []))))))))))) ++ (wM G ad s ++ [])) := I
        refine lv_aload_n hx hb dL_law_359 rfl (lv_at hl 2 rfl) ?_
        refine lv_aload_n hx hb dL_law_360 rfl (lv_at hl 0 rfl) ?_
        refine lv_iload_n hx hb dL_law_361 rfl (lv_at hl 3 rfl) ?_
        refine lv_iconst (v := 1) hx hb dL_law_362 (by decide) ?_
        refine lv_iadd hx hb dL_law_363 ?_
        obtain ⟨g46, h⟩ := gd_some h
        refine va_sld hx hb hXs hbl hbA I.2.2.1 g46 dL_law_364 ?_
        refine lv_aload_n hx hb dL_law_365 rfl (lv_at hl 0 rfl) ?_
        refine lv_iload_n hx hb dL_law_366 rfl (lv_at hl 3 rfl) ?_
        refine lv_iconst (v := 2) hx hb dL_law_367 (by decide) ?_
        refine lv_iadd hx hb dL_law_368 ?_
        obtain ⟨g47, h⟩ := gd_some h
        refine va_sld hx hb hXs hbl hbA I.2.2.1 g47 dL_law_369 ?_
        obtain ⟨r48, q49, h⟩ := bd1_some h
        refine call_i (X := (bO G oa na ka aa ra pa sd yd td ow ++ (bV G na nw ++ (bV G ka kp ++ (bA G aa wa ah ++ (bV G wa aw ++ (bT G ra ma rd ++ (bV G ma md ++ (bP G pa tp ++ (bH G sd hh ++ (bY G yd td th ++ (bK G td tr ++ [])))))))))))) (wc := wM G ad s) (Y := []) (rest := [.int r44]) XX I hl.1 (c_M_personOf l G OK ad s (xs (v3 + (1 : Int32)).toNatClampNeg) (xs (v3 + (2 : Int32)).toNatClampNeg) r48 q49) kV_L_34 (Rc.mk XX I (q0 := 121) (ci := 12) rfl rfl) rfl rfl (Nat.le_of_ble_eq_true rfl) ⟨rfl, rfl, Nat.le_of_ble_eq_true rfl, Nat.le_of_ble_eq_true rfl⟩ ⟨hc1, hs1⟩ dL_law_370 (fun H locs hz I => ?_)
        replace I : Iv G (fun q : Nat => s0.heap.size ≤ q) s0 H locs ((bO G oa na ka aa ra pa sd yd td ow ++ (bV G na nw ++ (bV G ka kp ++ (bA G aa wa ah ++ (bV G wa aw ++ (bT G ra ma rd ++ (bV G ma md ++ (bP G pa tp ++ (bH G sd hh ++ (bY G yd td th ++ (bK G td tr ++ []))))))))))) ++ (wM G ad s ++ [])) := I
        refine lv_icmp_eq (tgt := 1545) hx hb dL_law_373 (by decide) (fun c1 => ?_) (fun c1 => ?_)
        · replace h := if_t h c1
          obtain ⟨y50, ey50⟩ : ∃ z : Int32, z = v3 + (5 : Int32) := ⟨_, rfl⟩
          replace h := lt_e h ey50
          refine lv_iinc (v := y50) (lv' := [(3, .int y50), (0, .ref b), (1, .ref (oa 0)), (2, .ref (ad 0))]) hx hb dL_law_1545 hl (k := 3) rfl (by rw [ey50]; rfl) (by decide) rfl (fun ls hl => ?_)
          refine lv_goto (tgt := 18) hx hb dL_law_1548 (by decide) ?_
          exact ih _ _ _ _ _ _ _ _ _ _ _ _ _ h _ _ I ls (lv_sub hl [1, 2, 3, 0] rfl)
        · replace h := if_f h c1
          refine lv_iconst (v := 0) hx hb dL_law_376 (by decide) ?_
          exact absurd h (fun q => by cases q)
      replace h := if_f h q3
      by_cases q4 : y2 = (4 : Int32)
      · replace h := if_t h q4
        refine lv_tableIn (tgt := 378) (off := 346) hx hb dL_law_32 (by rw [q4]; decide) (by rw [q4]; decide) (by rw [q4]; rfl) (by decide) ?_
        refine lv_aload_n hx hb dL_law_378 rfl (lv_at hl 1 rfl) ?_
        refine lv_aload_n hx hb dL_law_379 rfl (lv_at hl 0 rfl) ?_
        refine lv_iload_n hx hb dL_law_380 rfl (lv_at hl 3 rfl) ?_
        refine lv_iconst (v := 1) hx hb dL_law_381 (by decide) ?_
        refine lv_iadd hx hb dL_law_382 ?_
        obtain ⟨g51, h⟩ := gd_some h
        refine va_sld hx hb hXs hbl hbA I.2.2.1 g51 dL_law_383 ?_
        obtain ⟨r52, s53, q54, h⟩ := bd2_some h
        refine call_i (X := []) (wc := (bO G oa na ka aa ra pa sd yd td ow ++ (bV G na nw ++ (bV G ka kp ++ (bA G aa wa ah ++ (bV G wa aw ++ (bT G ra ma rd ++ (bV G ma md ++ (bP G pa tp ++ (bH G sd hh ++ (bY G yd td th ++ (bK G td tr ++ [])))))))))))) (Y := wM G ad s ++ []) (rest := []) XX I hl.1 (c_O_leave l G OK oa na ka aa wa ra ma pa sd yd td fu ow nw kp ah aw rd md tp hh th tr (xs (v3 + (1 : Int32)).toNatClampNeg) r52 s53 q54) kV_L_35 (Rc.mk XX I (q0 := 0) (ci := 11) rfl rfl) rfl rfl (Nat.le_of_ble_eq_true rfl) ⟨rfl, rfl, Nat.le_of_ble_eq_true rfl, Nat.le_of_ble_eq_true rfl⟩ ⟨hc1, hs1⟩ dL_law_384 (fun H locs hz I => ?_)
        replace I : Iv G (fun q : Nat => s0.heap.size ≤ q) s0 H locs ((bO G oa na ka aa ra pa sd yd td ow ++ (bV G na s53 ++ (bV G ka kp ++ (bA G aa wa ah ++ (bV G wa aw ++ (bT G ra ma rd ++ (bV G ma md ++ (bP G pa tp ++ (bH G sd hh ++ (bY G yd td th ++ (bK G td tr ++ []))))))))))) ++ (wM G ad s ++ [])) := I
        refine lv_aload_n hx hb dL_law_387 rfl (lv_at hl 2 rfl) ?_
        refine lv_aload_n hx hb dL_law_388 rfl (lv_at hl 0 rfl) ?_
        refine lv_iload_n hx hb dL_law_389 rfl (lv_at hl 3 rfl) ?_
        refine lv_iconst (v := 1) hx hb dL_law_390 (by decide) ?_
        refine lv_iadd hx hb dL_law_391 ?_
        obtain ⟨g55, h⟩ := gd_some h
        refine va_sld hx hb hXs hbl hbA I.2.2.1 g55 dL_law_392 ?_
        obtain ⟨r56, s57, q58, h⟩ := bd2_some h
        refine call_i (X := (bO G oa na ka aa ra pa sd yd td ow ++ (bV G na s53 ++ (bV G ka kp ++ (bA G aa wa ah ++ (bV G wa aw ++ (bT G ra ma rd ++ (bV G ma md ++ (bP G pa tp ++ (bH G sd hh ++ (bY G yd td th ++ (bK G td tr ++ [])))))))))))) (wc := wM G ad s) (Y := []) (rest := [.int r52]) XX I hl.1 (c_M_leave l G OK ad fu s (xs (v3 + (1 : Int32)).toNatClampNeg) r56 s57 q58) kV_L_39 (Rc.mk XX I (q0 := 121) (ci := 12) rfl rfl) rfl rfl (Nat.le_of_ble_eq_true rfl) ⟨rfl, rfl, Nat.le_of_ble_eq_true rfl, Nat.le_of_ble_eq_true rfl⟩ ⟨hc1, hs1⟩ dL_law_393 (fun H locs hz I => ?_)
        replace I : Iv G (fun q : Nat => s0.heap.size ≤ q) s0 H locs ((bO G oa na ka aa ra pa sd yd td ow ++ (bV G na s53 ++ (bV G ka kp ++ (bA G aa wa ah ++ (bV G wa aw ++ (bT G ra ma rd ++ (bV G ma md ++ (bP G pa tp ++ (bH G sd hh ++ (bY G yd td th ++ (bK G td tr ++ []))))))))))) ++ (wM G ad s57 ++ [])) := I
        refine lv_icmp_eq (tgt := 1545) hx hb dL_law_396 (by decide) (fun c1 => ?_) (fun c1 => ?_)
        · replace h := if_t h c1
          obtain ⟨y59, ey59⟩ : ∃ z : Int32, z = v3 + (5 : Int32) := ⟨_, rfl⟩
          replace h := lt_e h ey59
          refine lv_iinc (v := y59) (lv' := [(3, .int y59), (0, .ref b), (1, .ref (oa 0)), (2, .ref (ad 0))]) hx hb dL_law_1545 hl (k := 3) rfl (by rw [ey59]; rfl) (by decide) rfl (fun ls hl => ?_)
          refine lv_goto (tgt := 18) hx hb dL_law_1548 (by decide) ?_
          exact ih _ _ _ _ _ _ _ _ _ _ _ _ _ h _ _ I ls (lv_sub hl [1, 2, 3, 0] rfl)
        · replace h := if_f h c1
          refine lv_iconst (v := 0) hx hb dL_law_399 (by decide) ?_
          exact absurd h (fun q => by cases q)
      replace h := if_f h q4
      by_cases q5 : y2 = (5 : Int32)
      · replace h := if_t h q5
        refine lv_tableIn (tgt := 401) (off := 369) hx hb dL_law_32 (by rw [q5]; decide) (by rw [q5]; decide) (by rw [q5]; rfl) (by decide) ?_
        refine lv_aload_n hx hb dL_law_401 rfl (lv_at hl 1 rfl) ?_
        refine lv_aload_n hx hb dL_law_402 rfl (lv_at hl 0 rfl) ?_
        refine lv_iload_n hx hb dL_law_403 rfl (lv_at hl 3 rfl) ?_
        refine lv_iconst (v := 1) hx hb dL_law_404 (by decide) ?_
        refine lv_iadd hx hb dL_law_405 ?_
        obtain ⟨g60, h⟩ := gd_some h
        refine va_sld hx hb hXs hbl hbA I.2.2.1 g60 dL_law_406 ?_
        refine lv_aload_n hx hb dL_law_407 rfl (lv_at hl 0 rfl) ?_
        refine lv_iload_n hx hb dL_law_408 rfl (lv_at hl 3 rfl) ?_
        refine lv_iconst (v := 2) hx hb dL_law_409 (by decide) ?_
        refine lv_iadd hx hb dL_law_410 ?_
        obtain ⟨g61, h⟩ := gd_some h
        refine va_sld hx hb hXs hbl hbA I.2.2.1 g61 dL_law_411 ?_
        refine lv_aload_n hx hb dL_law_412 rfl (lv_at hl 0 rfl) ?_
        refine lv_iload_n hx hb dL_law_413 rfl (lv_at hl 3 rfl) ?_
        refine lv_iconst (v := 3) hx hb dL_law_414 (by decide) ?_
        refine lv_iadd hx hb dL_law_415 ?_
        obtain ⟨g62, h⟩ := gd_some h
        refine va_sld hx hb hXs hbl hbA I.2.2.1 g62 dL_law_416 ?_
        obtain ⟨r63, s64, q65, h⟩ := bd2_some h
        refine call_i (X := []) (wc := (bO G oa na ka aa ra pa sd yd td ow ++ (bV G na nw ++ (bV G ka kp ++ (bA G aa wa ah ++ (bV G wa aw ++ (bT G ra ma rd ++ (bV G ma md ++ (bP G pa tp ++ (bH G sd hh ++ (bY G yd td th ++ (bK G td tr ++ [])))))))))))) (Y := wM G ad s ++ []) (rest := []) XX I hl.1 (c_O_mind l G OK oa na ka aa wa ra ma pa sd yd td ow nw kp ah aw rd md tp hh th tr (xs (v3 + (1 : Int32)).toNatClampNeg) (xs (v3 + (2 : Int32)).toNatClampNeg) (xs (v3 + (3 : Int32)).toNatClampNeg) r63 s64 q65) kV_L_40 (Rc.mk XX I (q0 := 0) (ci := 11) rfl rfl) rfl rfl (Nat.le_of_ble_eq_true rfl) ⟨rfl, rfl, Nat.le_of_ble_eq_true rfl, Nat.le_of_ble_eq_true rfl⟩ ⟨hc1, hs1⟩ dL_law_417 (fun H locs hz I => ?_)
        replace I : Iv G (fun q : Nat => s0.heap.size ≤ q) s0 H locs ((bO G oa na ka aa ra pa sd yd td ow ++ (bV G na s64 ++ (bV G ka kp ++ (bA G aa wa ah ++ (bV G wa aw ++ (bT G ra ma rd ++ (bV G ma md ++ (bP G pa tp ++ (bH G sd hh ++ (bY G yd td th ++ (bK G td tr ++ []))))))))))) ++ (wM G ad s ++ [])) := I
        refine lv_aload_n hx hb dL_law_420 rfl (lv_at hl 2 rfl) ?_
        refine lv_aload_n hx hb dL_law_421 rfl (lv_at hl 0 rfl) ?_
        refine lv_iload_n hx hb dL_law_422 rfl (lv_at hl 3 rfl) ?_
        refine lv_iconst (v := 1) hx hb dL_law_423 (by decide) ?_
        refine lv_iadd hx hb dL_law_424 ?_
        obtain ⟨g66, h⟩ := gd_some h
        refine va_sld hx hb hXs hbl hbA I.2.2.1 g66 dL_law_425 ?_
        refine lv_aload_n hx hb dL_law_426 rfl (lv_at hl 0 rfl) ?_
        refine lv_iload_n hx hb dL_law_427 rfl (lv_at hl 3 rfl) ?_
        refine lv_iconst (v := 2) hx hb dL_law_428 (by decide) ?_
        refine lv_iadd hx hb dL_law_429 ?_
        obtain ⟨g67, h⟩ := gd_some h
        refine va_sld hx hb hXs hbl hbA I.2.2.1 g67 dL_law_430 ?_
        refine lv_aload_n hx hb dL_law_431 rfl (lv_at hl 0 rfl) ?_
        refine lv_iload_n hx hb dL_law_432 rfl (lv_at hl 3 rfl) ?_
        refine lv_iconst (v := 3) hx hb dL_law_433 (by decide) ?_
        refine lv_iadd hx hb dL_law_434 ?_
        obtain ⟨g68, h⟩ := gd_some h
        refine va_sld hx hb hXs hbl hbA I.2.2.1 g68 dL_law_435 ?_
        obtain ⟨r69, s70, q71, h⟩ := bd2_some h
        refine call_i (X := (bO G oa na ka aa ra pa sd yd td ow ++ (bV G na s64 ++ (bV G ka kp ++ (bA G aa wa ah ++ (bV G wa aw ++ (bT G ra ma rd ++ (bV G ma md ++ (bP G pa tp ++ (bH G sd hh ++ (bY G yd td th ++ (bK G td tr ++ [])))))))))))) (wc := wM G ad s) (Y := []) (rest := [.int r63]) XX I hl.1 (c_M_mind l G OK ad s (xs (v3 + (1 : Int32)).toNatClampNeg) (xs (v3 + (2 : Int32)).toNatClampNeg) (xs (v3 + (3 : Int32)).toNatClampNeg) r69 s70 q71) kV_L_44 (Rc.mk XX I (q0 := 121) (ci := 12) rfl rfl) rfl rfl (Nat.le_of_ble_eq_true rfl) ⟨rfl, rfl, Nat.le_of_ble_eq_true rfl, Nat.le_of_ble_eq_true rfl⟩ ⟨hc1, hs1⟩ dL_law_436 (fun H locs hz I => ?_)
        replace I : Iv G (fun q : Nat => s0.heap.size ≤ q) s0 H locs ((bO G oa na ka aa ra pa sd yd td ow ++ (bV G na s64 ++ (bV G ka kp ++ (bA G aa wa ah ++ (bV G wa aw ++ (bT G ra ma rd ++ (bV G ma md ++ (bP G pa tp ++ (bH G sd hh ++ (bY G yd td th ++ (bK G td tr ++ []))))))))))) ++ (wM G ad s70 ++ [])) := I
        refine lv_icmp_eq (tgt := 1545) hx hb dL_law_439 (by decide) (fun c1 => ?_) (fun c1 => ?_)
        · replace h := if_t h c1
          obtain ⟨y72, ey72⟩ : ∃ z : Int32, z = v3 + (5 : Int32) := ⟨_, rfl⟩
          replace h := lt_e h ey72
          refine lv_iinc (v := y72) (lv' := [(3, .int y72), (0, .ref b), (1, .ref (oa 0)), (2, .ref (ad 0))]) hx hb dL_law_1545 hl (k := 3) rfl (by rw [ey72]; rfl) (by decide) rfl (fun ls hl => ?_)
          refine lv_goto (tgt := 18) hx hb dL_law_1548 (by decide) ?_
          exact ih _ _ _ _ _ _ _ _ _ _ _ _ _ h _ _ I ls (lv_sub hl [1, 2, 3, 0] rfl)
        · replace h := if_f h c1
          refine lv_iconst (v := 0) hx hb dL_law_442 (by decide) ?_
          exact absurd h (fun q => by cases q)
      replace h := if_f h q5
      by_cases q6 : y2 = (6 : Int32)
      · replace h := if_t h q6
        refine lv_tableIn (tgt := 444) (off := 412) hx hb dL_law_32 (by rw [q6]; decide) (by rw [q6]; decide) (by rw [q6]; rfl) (by decide) ?_
        refine lv_aload_n hx hb dL_law_444 rfl (lv_at hl 1 rfl) ?_
        refine lv_aload_n hx hb dL_law_445 rfl (lv_at hl 0 rfl) ?_
        refine lv_iload_n hx hb dL_law_446 rfl (lv_at hl 3 rfl) ?_
        refine lv_iconst (v := 1) hx hb dL_law_447 (by decide) ?_
        refine lv_iadd hx hb dL_law_448 ?_
        obtain ⟨g73, h⟩ := gd_some h
        refine va_sld hx hb hXs hbl hbA I.2.2.1 g73 dL_law_449 ?_
        refine lv_aload_n hx hb dL_law_450 rfl (lv_at hl 0 rfl) ?_
        refine lv_iload_n hx hb dL_law_451 rfl (lv_at hl 3 rfl) ?_
        refine lv_iconst (v := 2) hx hb dL_law_452 (by decide) ?_
        refine lv_iadd hx hb dL_law_453 ?_
        obtain ⟨g74, h⟩ := gd_some h
        refine va_sld hx hb hXs hbl hbA I.2.2.1 g74 dL_law_454 ?_
        obtain ⟨r75, s76, q77, h⟩ := bd2_some h
        refine call_i (X := []) (wc := (bO G oa na ka aa ra pa sd yd td ow ++ (bV G na nw ++ (bV G ka kp ++ (bA G aa wa ah ++ (bV G wa aw ++ (bT G ra ma rd ++ (bV G ma md ++ (bP G pa tp ++ (bH G sd hh ++ (bY G yd td th ++ (bK G td tr ++ [])))))))))))) (Y := wM G ad s ++ []) (rest := []) XX I hl.1 (c_O_give l G OK oa na ka aa wa ra ma pa sd yd td ow nw kp ah aw rd md tp hh th tr (xs (v3 + (1 : Int32)).toNatClampNeg) (xs (v3 + (2 : Int32)).toNatClampNeg) r75 s76 q77) kV_L_45 (Rc.mk XX I (q0 := 0) (ci := 11) rfl rfl) rfl rfl (Nat.le_of_ble_eq_true rfl) ⟨rfl, rfl, Nat.le_of_ble_eq_true rfl, Nat.le_of_ble_eq_true rfl⟩ ⟨hc1, hs1⟩ dL_law_455 (fun H locs hz I => ?_)
        replace I : Iv G (fun q : Nat => s0.heap.size ≤ q) s0 H locs ((bO G oa na ka aa ra pa sd yd td ow ++ (bV G na s76 ++ (bV G ka kp ++ (bA G aa wa ah ++ (bV G wa aw ++ (bT G ra ma rd ++ (bV G ma md ++ (bP G pa tp ++ (bH G sd hh ++ (bY G yd td th ++ (bK G td tr ++ []))))))))))) ++ (wM G ad s ++ [])) := I
        refine lv_aload_n hx hb dL_law_458 rfl (lv_at hl 2 rfl) ?_
        refine lv_aload_n hx hb dL_law_459 rfl (lv_at hl 0 rfl) ?_
        refine lv_iload_n hx hb dL_law_460 rfl (lv_at hl 3 rfl) ?_
        refine lv_iconst (v := 1) hx hb dL_law_461 (by decide) ?_
        refine lv_iadd hx hb dL_law_462 ?_
        obtain ⟨g78, h⟩ := gd_some h
        refine va_sld hx hb hXs hbl hbA I.2.2.1 g78 dL_law_463 ?_
        refine lv_aload_n hx hb dL_law_464 rfl (lv_at hl 0 rfl) ?_
        refine lv_iload_n hx hb dL_law_465 rfl (lv_at hl 3 rfl) ?_
        refine lv_iconst (v := 2) hx hb dL_law_466 (by decide) ?_
        refine lv_iadd hx hb dL_law_467 ?_
        obtain ⟨g79, h⟩ := gd_some h
        refine va_sld hx hb hXs hbl hbA I.2.2.1 g79 dL_law_468 ?_
        obtain ⟨r80, s81, q82, h⟩ := bd2_some h
        refine call_i (X := (bO G oa na ka aa ra pa sd yd td ow ++ (bV G na s76 ++ (bV G ka kp ++ (bA G aa wa ah ++ (bV G wa aw ++ (bT G ra ma rd ++ (bV G ma md ++ (bP G pa tp ++ (bH G sd hh ++ (bY G yd td th ++ (bK G td tr ++ [])))))))))))) (wc := wM G ad s) (Y := []) (rest := [.int r75]) XX I hl.1 (c_M_give l G OK ad s (xs (v3 + (1 : Int32)).toNatClampNeg) (xs (v3 + (2 : Int32)).toNatClampNeg) r80 s81 q82) kV_L_48 (Rc.mk XX I (q0 := 121) (ci := 12) rfl rfl) rfl rfl (Nat.le_of_ble_eq_true rfl) ⟨rfl, rfl, Nat.le_of_ble_eq_true rfl, Nat.le_of_ble_eq_true rfl⟩ ⟨hc1, hs1⟩ dL_law_469 (fun H locs hz I => ?_)
        replace I : Iv G (fun q : Nat => s0.heap.size ≤ q) s0 H locs ((bO G oa na ka aa ra pa sd yd td ow ++ (bV G na s76 ++ (bV G ka kp ++ (bA G aa wa ah ++ (bV G wa aw ++ (bT G ra ma rd ++ (bV G ma md ++ (bP G pa tp ++ (bH G sd hh ++ (bY G yd td th ++ (bK G td tr ++ []))))))))))) ++ (wM G ad s81 ++ [])) := I
        refine lv_icmp_eq (tgt := 1545) hx hb dL_law_472 (by decide) (fun c1 => ?_) (fun c1 => ?_)
        · replace h := if_t h c1
          obtain ⟨y83, ey83⟩ : ∃ z : Int32, z = v3 + (5 : Int32) := ⟨_, rfl⟩
          replace h := lt_e h ey83
          refine lv_iinc (v := y83) (lv' := [(3, .int y83), (0, .ref b), (1, .ref (oa 0)), (2, .ref (ad 0))]) hx hb dL_law_1545 hl (k := 3) rfl (by rw [ey83]; rfl) (by decide) rfl (fun ls hl => ?_)
          refine lv_goto (tgt := 18) hx hb dL_law_1548 (by decide) ?_
          exact ih _ _ _ _ _ _ _ _ _ _ _ _ _ h _ _ I ls (lv_sub hl [1, 2, 3, 0] rfl)
        · replace h := if_f h c1
          refine lv_iconst (v := 0) hx hb dL_law_475 (by decide) ?_
          exact absurd h (fun q => by cases q)
      replace h := if_f h q6
      by_cases q7 : y2 = (7 : Int32)
      · replace h := if_t h q7
        refine lv_tableIn (tgt := 477) (off := 445) hx hb dL_law_32 (by rw [q7]; decide) (by rw [q7]; decide) (by rw [q7]; rfl) (by decide) ?_
        refine lv_aload_n hx hb dL_law_477 rfl (lv_at hl 1 rfl) ?_
        refine lv_aload_n hx hb dL_law_478 rfl (lv_at hl 0 rfl) ?_
        refine lv_iload_n hx hb dL_law_479 rfl (lv_at hl 3 rfl) ?_
        refine lv_iconst (v := 1) hx hb dL_law_480 (by decide) ?_
        refine lv_iadd hx hb dL_law_481 ?_
        obtain ⟨g84, h⟩ := gd_some h
        refine va_sld hx hb hXs hbl hbA I.2.2.1 g84 dL_law_482 ?_
        refine lv_aload_n hx hb dL_law_483 rfl (lv_at hl 0 rfl) ?_
        refine lv_iload_n hx hb dL_law_484 rfl (lv_at hl 3 rfl) ?_
        refine lv_iconst (v := 2) hx hb dL_law_485 (by decide) ?_
        refine lv_iadd hx hb dL_law_486 ?_
        obtain ⟨g85, h⟩ := gd_some h
        refine va_sld hx hb hXs hbl hbA I.2.2.1 g85 dL_law_487 ?_
        obtain ⟨r86, s87, q88, h⟩ := bd2_some h
        refine call_i (X := []) (wc := (bO G oa na ka aa ra pa sd yd td ow ++ (bV G na nw ++ (bV G ka kp ++ (bA G aa wa ah ++ (bV G wa aw ++ (bT G ra ma rd ++ (bV G ma md ++ (bP G pa tp ++ (bH G sd hh ++ (bY G yd td th ++ (bK G td tr ++ [])))))))))))) (Y := wM G ad s ++ []) (rest := []) XX I hl.1 (c_O_noes l G OK oa na ka aa wa ra ma pa sd yd td ow nw kp ah aw rd md tp hh th tr (xs (v3 + (1 : Int32)).toNatClampNeg) (xs (v3 + (2 : Int32)).toNatClampNeg) r86 s87 q88) kV_L_49 (Rc.mk XX I (q0 := 0) (ci := 11) rfl rfl) rfl rfl (Nat.le_of_ble_eq_true rfl) ⟨rfl, rfl, Nat.le_of_ble_eq_true rfl, Nat.le_of_ble_eq_true rfl⟩ ⟨hc1, hs1⟩ dL_law_488 (fun H locs hz I => ?_)
        replace I : Iv G (fun q : Nat => s0.heap.size ≤ q) s0 H locs ((bO G oa na ka aa ra pa sd yd td ow ++ (bV G na s87 ++ (bV G ka kp ++ (bA G aa wa ah ++ (bV G wa aw ++ (bT G ra ma rd ++ (bV G ma md ++ (bP G pa tp ++ (bH G sd hh ++ (bY G yd td th ++ (bK G td tr ++ []))))))))))) ++ (wM G ad s ++ [])) := I
        refine lv_aload_n hx hb dL_law_491 rfl (lv_at hl 2 rfl) ?_
        refine lv_aload_n hx hb dL_law_492 rfl (lv_at hl 0 rfl) ?_
        refine lv_iload_n hx hb dL_law_493 rfl (lv_at hl 3 rfl) ?_
        refine lv_iconst (v := 1) hx hb dL_law_494 (by decide) ?_
        refine lv_iadd hx hb dL_law_495 ?_
        obtain ⟨g89, h⟩ := gd_some h
        refine va_sld hx hb hXs hbl hbA I.2.2.1 g89 dL_law_496 ?_
        refine lv_aload_n hx hb dL_law_497 rfl (lv_at hl 0 rfl) ?_
        refine lv_iload_n hx hb dL_law_498 rfl (lv_at hl 3 rfl) ?_
        refine lv_iconst (v := 2) hx hb dL_law_499 (by decide) ?_
        refine lv_iadd hx hb dL_law_500 ?_
        obtain ⟨g90, h⟩ := gd_some h
        refine va_sld hx hb hXs hbl hbA I.2.2.1 g90 dL_law_501 ?_
        obtain ⟨r91, s92, q93, h⟩ := bd2_some h
        refine call_i (X := (bO G oa na ka aa ra pa sd yd td ow ++ (bV G na s87 ++ (bV G ka kp ++ (bA G aa wa ah ++ (bV G wa aw ++ (bT G ra ma rd ++ (bV G ma md ++ (bP G pa tp ++ (bH G sd hh ++ (bY G yd td th ++ (bK G td tr ++ [])))))))))))) (wc := wM G ad s) (Y := []) (rest := [.int r86]) XX I hl.1 (c_M_noes l G OK ad s (xs (v3 + (1 : Int32)).toNatClampNeg) (xs (v3 + (2 : Int32)).toNatClampNeg) r91 s92 q93) kV_L_52 (Rc.mk XX I (q0 := 121) (ci := 12) rfl rfl) rfl rfl (Nat.le_of_ble_eq_true rfl) ⟨rfl, rfl, Nat.le_of_ble_eq_true rfl, Nat.le_of_ble_eq_true rfl⟩ ⟨hc1, hs1⟩ dL_law_502 (fun H locs hz I => ?_)
        replace I : Iv G (fun q : Nat => s0.heap.size ≤ q) s0 H locs ((bO G oa na ka aa ra pa sd yd td ow ++ (bV G na s87 ++ (bV G ka kp ++ (bA G aa wa ah ++ (bV G wa aw ++ (bT G ra ma rd ++ (bV G ma md ++ (bP G pa tp ++ (bH G sd hh ++ (bY G yd td th ++ (bK G td tr ++ []))))))))))) ++ (wM G ad s92 ++ [])) := I
        refine lv_icmp_eq (tgt := 1545) hx hb dL_law_505 (by decide) (fun c1 => ?_) (fun c1 => ?_)
        · replace h := if_t h c1
          obtain ⟨y94, ey94⟩ : ∃ z : Int32, z = v3 + (5 : Int32) := ⟨_, rfl⟩
          replace h := lt_e h ey94
          refine lv_iinc (v := y94) (lv' := [(3, .int y94), (0, .ref b), (1, .ref (oa 0)), (2, .ref (ad 0))]) hx hb dL_law_1545 hl (k := 3) rfl (by rw [ey94]; rfl) (by decide) rfl (fun ls hl => ?_)
          refine lv_goto (tgt := 18) hx hb dL_law_1548 (by decide) ?_
          exact ih _ _ _ _ _ _ _ _ _ _ _ _ _ h _ _ I ls (lv_sub hl [1, 2, 3, 0] rfl)
        · replace h := if_f h c1
          refine lv_iconst (v := 0) hx hb dL_law_508 (by decide) ?_
          exact absurd h (fun q => by cases q)
      replace h := if_f h q7
      by_cases q8 : y2 = (8 : Int32)
      · replace h := if_t h q8
        refine lv_tableIn (tgt := 510) (off := 478) hx hb dL_law_32 (by rw [q8]; decide) (by rw [q8]; decide) (by rw [q8]; rfl) (by decide) ?_
        refine lv_aload_n hx hb dL_law_510 rfl (lv_at hl 1 rfl) ?_
        refine lv_aload_n hx hb dL_law_511 rfl (lv_at hl 0 rfl) ?_
        refine lv_iload_n hx hb dL_law_512 rfl (lv_at hl 3 rfl) ?_
        refine lv_iconst (v := 1) hx hb dL_law_513 (by decide) ?_
        refine lv_iadd hx hb dL_law_514 ?_
        obtain ⟨g95, h⟩ := gd_some h
        refine va_sld hx hb hXs hbl hbA I.2.2.1 g95 dL_law_515 ?_
        obtain ⟨r96, s97, q98, h⟩ := bd2_some h
        refine call_i (X := []) (wc := (bO G oa na ka aa ra pa sd yd td ow ++ (bV G na nw ++ (bV G ka kp ++ (bA G aa wa ah ++ (bV G wa aw ++ (bT G ra ma rd ++ (bV G ma md ++ (bP G pa tp ++ (bH G sd hh ++ (bY G yd td th ++ (bK G td tr ++ [])))))))))))) (Y := wM G ad s ++ []) (rest := []) XX I hl.1 (c_O_proposal l G OK oa na ka aa wa ra ma pa sd yd td fu ow nw kp ah aw rd md tp hh th tr (xs (v3 + (1 : Int32)).toNatClampNeg) r96 s97 q98) kV_L_53 (Rc.mk XX I (q0 := 0) (ci := 11) rfl rfl) rfl rfl (Nat.le_of_ble_eq_true rfl) ⟨rfl, rfl, Nat.le_of_ble_eq_true rfl, Nat.le_of_ble_eq_true rfl⟩ ⟨hc1, hs1⟩ dL_law_516 (fun H locs hz I => ?_)
        replace I : Iv G (fun q : Nat => s0.heap.size ≤ q) s0 H locs ((bO G oa na ka aa ra pa sd yd td ow ++ (bV G na s97 ++ (bV G ka kp ++ (bA G aa wa ah ++ (bV G wa aw ++ (bT G ra ma rd ++ (bV G ma md ++ (bP G pa tp ++ (bH G sd hh ++ (bY G yd td th ++ (bK G td tr ++ []))))))))))) ++ (wM G ad s ++ [])) := I
        refine lv_aload_n hx hb dL_law_519 rfl (lv_at hl 2 rfl) ?_
        refine lv_aload_n hx hb dL_law_520 rfl (lv_at hl 0 rfl) ?_
        refine lv_iload_n hx hb dL_law_521 rfl (lv_at hl 3 rfl) ?_
        refine lv_iconst (v := 1) hx hb dL_law_522 (by decide) ?_
        refine lv_iadd hx hb dL_law_523 ?_
        obtain ⟨g99, h⟩ := gd_some h
        refine va_sld hx hb hXs hbl hbA I.2.2.1 g99 dL_law_524 ?_
        obtain ⟨r100, s101, q102, h⟩ := bd2_some h
        refine call_i (X := (bO G oa na ka aa ra pa sd yd td ow ++ (bV G na s97 ++ (bV G ka kp ++ (bA G aa wa ah ++ (bV G wa aw ++ (bT G ra ma rd ++ (bV G ma md ++ (bP G pa tp ++ (bH G sd hh ++ (bY G yd td th ++ (bK G td tr ++ [])))))))))))) (wc := wM G ad s) (Y := []) (rest := [.int r96]) XX I hl.1 (c_M_proposal l G OK ad fu s (xs (v3 + (1 : Int32)).toNatClampNeg) r100 s101 q102) kV_L_56 (Rc.mk XX I (q0 := 121) (ci := 12) rfl rfl) rfl rfl (Nat.le_of_ble_eq_true rfl) ⟨rfl, rfl, Nat.le_of_ble_eq_true rfl, Nat.le_of_ble_eq_true rfl⟩ ⟨hc1, hs1⟩ dL_law_525 (fun H locs hz I => ?_)
        replace I : Iv G (fun q : Nat => s0.heap.size ≤ q) s0 H locs ((bO G oa na ka aa ra pa sd yd td ow ++ (bV G na s97 ++ (bV G ka kp ++ (bA G aa wa ah ++ (bV G wa aw ++ (bT G ra ma rd ++ (bV G ma md ++ (bP G pa tp ++ (bH G sd hh ++ (bY G yd td th ++ (bK G td tr ++ []))))))))))) ++ (wM G ad s101 ++ [])) := I
        refine lv_icmp_eq (tgt := 1545) hx hb dL_law_528 (by decide) (fun c1 => ?_) (fun c1 => ?_)
        · replace h := if_t h c1
          obtain ⟨y103, ey103⟩ : ∃ z : Int32, z = v3 + (5 : Int32) := ⟨_, rfl⟩
          replace h := lt_e h ey103
          refine lv_iinc (v := y103) (lv' := [(3, .int y103), (0, .ref b), (1, .ref (oa 0)), (2, .ref (ad 0))]) hx hb dL_law_1545 hl (k := 3) rfl (by rw [ey103]; rfl) (by decide) rfl (fun ls hl => ?_)
          refine lv_goto (tgt := 18) hx hb dL_law_1548 (by decide) ?_
          exact ih _ _ _ _ _ _ _ _ _ _ _ _ _ h _ _ I ls (lv_sub hl [1, 2, 3, 0] rfl)
        · replace h := if_f h c1
          refine lv_iconst (v := 0) hx hb dL_law_531 (by decide) ?_
          exact absurd h (fun q => by cases q)
      replace h := if_f h q8
      by_cases q9 : y2 = (9 : Int32)
      · replace h := if_t h q9
        refine lv_tableIn (tgt := 533) (off := 501) hx hb dL_law_32 (by rw [q9]; decide) (by rw [q9]; decide) (by rw [q9]; rfl) (by decide) ?_
        refine lv_aload_n hx hb dL_law_533 rfl (lv_at hl 1 rfl) ?_
        refine lv_aload_n hx hb dL_law_534 rfl (lv_at hl 0 rfl) ?_
        refine lv_iload_n hx hb dL_law_535 rfl (lv_at hl 3 rfl) ?_
        refine lv_iconst (v := 1) hx hb dL_law_536 (by decide) ?_
        refine lv_iadd hx hb dL_law_537 ?_
        obtain ⟨g104, h⟩ := gd_some h
        refine va_sld hx hb hXs hbl hbA I.2.2.1 g104 dL_law_538 ?_
        refine lv_aload_n hx hb dL_law_539 rfl (lv_at hl 0 rfl) ?_
        refine lv_iload_n hx hb dL_law_540 rfl (lv_at hl 3 rfl) ?_
        refine lv_iconst (v := 2) hx hb dL_law_541 (by decide) ?_
        refine lv_iadd hx hb dL_law_542 ?_
        obtain ⟨g105, h⟩ := gd_some h
        refine va_sld hx hb hXs hbl hbA I.2.2.1 g105 dL_law_543 ?_
        obtain ⟨r106, s107, q108, h⟩ := bd2_some h
        refine call_i (X := []) (wc := (bO G oa na ka aa ra pa sd yd td ow ++ (bV G na nw ++ (bV G ka kp ++ (bA G aa wa ah ++ (bV G wa aw ++ (bT G ra ma rd ++ (bV G ma md ++ (bP G pa tp ++ (bH G sd hh ++ (bY G yd td th ++ (bK G td tr ++ [])))))))))))) (Y := wM G ad s ++ []) (rest := []) XX I hl.1 (c_O_weigh l G OK oa na ka aa wa ra ma pa sd yd td ow nw kp ah aw rd md tp hh th tr (xs (v3 + (1 : Int32)).toNatClampNeg) (xs (v3 + (2 : Int32)).toNatClampNeg) r106 s107 q108) kV_L_57 (Rc.mk XX I (q0 := 0) (ci := 11) rfl rfl) rfl rfl (Nat.le_of_ble_eq_true rfl) ⟨rfl, rfl, Nat.le_of_ble_eq_true rfl, Nat.le_of_ble_eq_true rfl⟩ ⟨hc1, hs1⟩ dL_law_544 (fun H locs hz I => ?_)
        replace I : Iv G (fun q : Nat => s0.heap.size ≤ q) s0 H locs ((bO G oa na ka aa ra pa sd yd td ow ++ (bV G na s107 ++ (bV G ka kp ++ (bA G aa wa ah ++ (bV G wa aw ++ (bT G ra ma rd ++ (bV G ma md ++ (bP G pa tp ++ (bH G sd hh ++ (bY G yd td th ++ (bK G td tr ++ []))))))))))) ++ (wM G ad s ++ [])) := I
        refine lv_aload_n hx hb dL_law_547 rfl (lv_at hl 2 rfl) ?_
        refine lv_aload_n hx hb dL_law_548 rfl (lv_at hl 0 rfl) ?_
        refine lv_iload_n hx hb dL_law_549 rfl (lv_at hl 3 rfl) ?_
        refine lv_iconst (v := 1) hx hb dL_law_550 (by decide) ?_
        refine lv_iadd hx hb dL_law_551 ?_
        obtain ⟨g109, h⟩ := gd_some h
        refine va_sld hx hb hXs hbl hbA I.2.2.1 g109 dL_law_552 ?_
        refine lv_aload_n hx hb dL_law_553 rfl (lv_at hl 0 rfl) ?_
        refine lv_iload_n hx hb dL_law_554 rfl (lv_at hl 3 rfl) ?_
        refine lv_iconst (v := 2) hx hb dL_law_555 (by decide) ?_
        refine lv_iadd hx hb dL_law_556 ?_
        obtain ⟨g110, h⟩ := gd_some h
        refine va_sld hx hb hXs hbl hbA I.2.2.1 g110 dL_law_557 ?_
        obtain ⟨r111, s112, q113, h⟩ := bd2_some h
        refine call_i (X := (bO G oa na ka aa ra pa sd yd td ow ++ (bV G na s107 ++ (bV G ka kp ++ (bA G aa wa ah ++ (bV G wa aw ++ (bT G ra ma rd ++ (bV G ma md ++ (bP G pa tp ++ (bH G sd hh ++ (bY G yd td th ++ (bK G td tr ++ [])))))))))))) (wc := wM G ad s) (Y := []) (rest := [.int r106]) XX I hl.1 (c_M_weigh l G OK ad s (xs (v3 + (1 : Int32)).toNatClampNeg) (xs (v3 + (2 : Int32)).toNatClampNeg) r111 s112 q113) kV_L_60 (Rc.mk XX I (q0 := 121) (ci := 12) rfl rfl) rfl rfl (Nat.le_of_ble_eq_true rfl) ⟨rfl, rfl, Nat.le_of_ble_eq_true rfl, Nat.le_of_ble_eq_true rfl⟩ ⟨hc1, hs1⟩ dL_law_558 (fun H locs hz I => ?_)
        replace I : Iv G (fun q : Nat => s0.heap.size ≤ q) s0 H locs ((bO G oa na ka aa ra pa sd yd td ow ++ (bV G na s107 ++ (bV G ka kp ++ (bA G aa wa ah ++ (bV G wa aw ++ (bT G ra ma rd ++ (bV G ma md ++ (bP G pa tp ++ (bH G sd hh ++ (bY G yd td th ++ (bK G td tr ++ []))))))))))) ++ (wM G ad s112 ++ [])) := I
        refine lv_icmp_eq (tgt := 1545) hx hb dL_law_561 (by decide) (fun c1 => ?_) (fun c1 => ?_)
        · replace h := if_t h c1
          obtain ⟨y114, ey114⟩ : ∃ z : Int32, z = v3 + (5 : Int32) := ⟨_, rfl⟩
          replace h := lt_e h ey114
          refine lv_iinc (v := y114) (lv' := [(3, .int y114), (0, .ref b), (1, .ref (oa 0)), (2, .ref (ad 0))]) hx hb dL_law_1545 hl (k := 3) rfl (by rw [ey114]; rfl) (by decide) rfl (fun ls hl => ?_)
          refine lv_goto (tgt := 18) hx hb dL_law_1548 (by decide) ?_
          exact ih _ _ _ _ _ _ _ _ _ _ _ _ _ h _ _ I ls (lv_sub hl [1, 2, 3, 0] rfl)
        · replace h := if_f h c1
          refine lv_iconst (v := 0) hx hb dL_law_564 (by decide) ?_
          exact absurd h (fun q => by cases q)
      replace h := if_f h q9
      by_cases q10 : y2 = (10 : Int32)
      · replace h := if_t h q10
        refine lv_tableIn (tgt := 566) (off := 534) hx hb dL_law_32 (by rw [q10]; decide) (by rw [q10]; decide) (by rw [q10]; rfl) (by decide) ?_
        refine lv_aload_n hx hb dL_law_566 rfl (lv_at hl 1 rfl) ?_
        refine lv_aload_n hx hb dL_law_567 rfl (lv_at hl 0 rfl) ?_
        refine lv_iload_n hx hb dL_law_568 rfl (lv_at hl 3 rfl) ?_
        refine lv_iconst (v := 1) hx hb dL_law_569 (by decide) ?_
        refine lv_iadd hx hb dL_law_570 ?_
        obtain ⟨g115, h⟩ := gd_some h
        refine va_sld hx hb hXs hbl hbA I.2.2.1 g115 dL_law_571 ?_
        refine lv_aload_n hx hb dL_law_572 rfl (lv_at hl 0 rfl) ?_
        refine lv_iload_n hx hb dL_law_573 rfl (lv_at hl 3 rfl) ?_
        refine lv_iconst (v := 2) hx hb dL_law_574 (by decide) ?_
        refine lv_iadd hx hb dL_law_575 ?_
        obtain ⟨g116, h⟩ := gd_some h
        refine va_sld hx hb hXs hbl hbA I.2.2.1 g116 dL_law_576 ?_
        refine lv_aload_n hx hb dL_law_577 rfl (lv_at hl 0 rfl) ?_
        refine lv_iload_n hx hb dL_law_578 rfl (lv_at hl 3 rfl) ?_
        refine lv_iconst (v := 3) hx hb dL_law_579 (by decide) ?_
        refine lv_iadd hx hb dL_law_580 ?_
        obtain ⟨g117, h⟩ := gd_some h
        refine va_sld hx hb hXs hbl hbA I.2.2.1 g117 dL_law_581 ?_
        obtain ⟨r118, s119, q120, h⟩ := bd2_some h
        refine call_i (X := []) (wc := (bO G oa na ka aa ra pa sd yd td ow ++ (bV G na nw ++ (bV G ka kp ++ (bA G aa wa ah ++ (bV G wa aw ++ (bT G ra ma rd ++ (bV G ma md ++ (bP G pa tp ++ (bH G sd hh ++ (bY G yd td th ++ (bK G td tr ++ [])))))))))))) (Y := wM G ad s ++ []) (rest := []) XX I hl.1 (c_O_worth l G OK oa na ka aa wa ra ma pa sd yd td ow nw kp ah aw rd md tp hh th tr (xs (v3 + (1 : Int32)).toNatClampNeg) (xs (v3 + (2 : Int32)).toNatClampNeg) (xs (v3 + (3 : Int32)).toNatClampNeg) r118 s119 q120) kV_L_61 (Rc.mk XX I (q0 := 0) (ci := 11) rfl rfl) rfl rfl (Nat.le_of_ble_eq_true rfl) ⟨rfl, rfl, Nat.le_of_ble_eq_true rfl, Nat.le_of_ble_eq_true rfl⟩ ⟨hc1, hs1⟩ dL_law_582 (fun H locs hz I => ?_)
        replace I : Iv G (fun q : Nat => s0.heap.size ≤ q) s0 H locs ((bO G oa na ka aa ra pa sd yd td ow ++ (bV G na s119 ++ (bV G ka kp ++ (bA G aa wa ah ++ (bV G wa aw ++ (bT G ra ma rd ++ (bV G ma md ++ (bP G pa tp ++ (bH G sd hh ++ (bY G yd td th ++ (bK G td tr ++ []))))))))))) ++ (wM G ad s ++ [])) := I
        refine lv_aload_n hx hb dL_law_585 rfl (lv_at hl 2 rfl) ?_
        refine lv_aload_n hx hb dL_law_586 rfl (lv_at hl 0 rfl) ?_
        refine lv_iload_n hx hb dL_law_587 rfl (lv_at hl 3 rfl) ?_
        refine lv_iconst (v := 1) hx hb dL_law_588 (by decide) ?_
        refine lv_iadd hx hb dL_law_589 ?_
        obtain ⟨g121, h⟩ := gd_some h
        refine va_sld hx hb hXs hbl hbA I.2.2.1 g121 dL_law_590 ?_
        refine lv_aload_n hx hb dL_law_591 rfl (lv_at hl 0 rfl) ?_
        refine lv_iload_n hx hb dL_law_592 rfl (lv_at hl 3 rfl) ?_
        refine lv_iconst (v := 2) hx hb dL_law_593 (by decide) ?_
        refine lv_iadd hx hb dL_law_594 ?_
        obtain ⟨g122, h⟩ := gd_some h
        refine va_sld hx hb hXs hbl hbA I.2.2.1 g122 dL_law_595 ?_
        refine lv_aload_n hx hb dL_law_596 rfl (lv_at hl 0 rfl) ?_
        refine lv_iload_n hx hb dL_law_597 rfl (lv_at hl 3 rfl) ?_
        refine lv_iconst (v := 3) hx hb dL_law_598 (by decide) ?_
        refine lv_iadd hx hb dL_law_599 ?_
        obtain ⟨g123, h⟩ := gd_some h
        refine va_sld hx hb hXs hbl hbA I.2.2.1 g123 dL_law_600 ?_
        obtain ⟨r124, s125, q126, h⟩ := bd2_some h
        refine call_i (X := (bO G oa na ka aa ra pa sd yd td ow ++ (bV G na s119 ++ (bV G ka kp ++ (bA G aa wa ah ++ (bV G wa aw ++ (bT G ra ma rd ++ (bV G ma md ++ (bP G pa tp ++ (bH G sd hh ++ (bY G yd td th ++ (bK G td tr ++ [])))))))))))) (wc := wM G ad s) (Y := []) (rest := [.int r118]) XX I hl.1 (c_M_worth l G OK ad s (xs (v3 + (1 : Int32)).toNatClampNeg) (xs (v3 + (2 : Int32)).toNatClampNeg) (xs (v3 + (3 : Int32)).toNatClampNeg) r124 s125 q126) kV_L_64 (Rc.mk XX I (q0 := 121) (ci := 12) rfl rfl) rfl rfl (Nat.le_of_ble_eq_true rfl) ⟨rfl, rfl, Nat.le_of_ble_eq_true rfl, Nat.le_of_ble_eq_true rfl⟩ ⟨hc1, hs1⟩ dL_law_601 (fun H locs hz I => ?_)
        replace I : Iv G (fun q : Nat => s0.heap.size ≤ q) s0 H locs ((bO G oa na ka aa ra pa sd yd td ow ++ (bV G na s119 ++ (bV G ka kp ++ (bA G aa wa ah ++ (bV G wa aw ++ (bT G ra ma rd ++ (bV G ma md ++ (bP G pa tp ++ (bH G sd hh ++ (bY G yd td th ++ (bK G td tr ++ []))))))))))) ++ (wM G ad s125 ++ [])) := I
        refine lv_icmp_eq (tgt := 1545) hx hb dL_law_604 (by decide) (fun c1 => ?_) (fun c1 => ?_)
        · replace h := if_t h c1
          obtain ⟨y127, ey127⟩ : ∃ z : Int32, z = v3 + (5 : Int32) := ⟨_, rfl⟩
          replace h := lt_e h ey127
          refine lv_iinc (v := y127) (lv' := [(3, .int y127), (0, .ref b), (1, .ref (oa 0)), (2, .ref (ad 0))]) hx hb dL_law_1545 hl (k := 3) rfl (by rw [ey127]; rfl) (by decide) rfl (fun ls hl => ?_)
          refine lv_goto (tgt := 18) hx hb dL_law_1548 (by decide) ?_
          exact ih _ _ _ _ _ _ _ _ _ _ _ _ _ h _ _ I ls (lv_sub hl [1, 2, 3, 0] rfl)
        · replace h := if_f h c1
          refine lv_iconst (v := 0) hx hb dL_law_607 (by decide) ?_
          exact absurd h (fun q => by cases q)
      replace h := if_f h q10
      by_cases q11 : y2 = (11 : Int32)
      · replace h := if_t h q11
        refine lv_tableIn (tgt := 609) (off := 577) hx hb dL_law_32 (by rw [q11]; decide) (by rw [q11]; decide) (by rw [q11]; rfl) (by decide) ?_
        refine lv_aload_n hx hb dL_law_609 rfl (lv_at hl 1 rfl) ?_
        refine lv_aload_n hx hb dL_law_610 rfl (lv_at hl 0 rfl) ?_
        refine lv_iload_n hx hb dL_law_611 rfl (lv_at hl 3 rfl) ?_
        refine lv_iconst (v := 1) hx hb dL_law_612 (by decide) ?_
        refine lv_iadd hx hb dL_law_613 ?_
        obtain ⟨g128, h⟩ := gd_some h
        refine va_sld hx hb hXs hbl hbA I.2.2.1 g128 dL_law_614 ?_
        refine lv_aload_n hx hb dL_law_615 rfl (lv_at hl 0 rfl) ?_
        refine lv_iload_n hx hb dL_law_616 rfl (lv_at hl 3 rfl) ?_
        refine lv_iconst (v := 2) hx hb dL_law_617 (by decide) ?_
        refine lv_iadd hx hb dL_law_618 ?_
        obtain ⟨g129, h⟩ := gd_some h
        refine va_sld hx hb hXs hbl hbA I.2.2.1 g129 dL_law_619 ?_
        obtain ⟨r130, q131, h⟩ := bd1_some h
        refine call_i (X := []) (wc := (bO G oa na ka aa ra pa sd yd td ow ++ (bV G na nw ++ (bV G ka kp ++ (bA G aa wa ah ++ (bV G wa aw ++ (bT G ra ma rd ++ (bV G ma md ++ (bP G pa tp ++ (bH G sd hh ++ (bY G yd td th ++ (bK G td tr ++ [])))))))))))) (Y := wM G ad s ++ []) (rest := []) XX I hl.1 (c_O_proposalOf l G OK oa na ka aa wa ra ma pa sd yd td ow nw kp ah aw rd md tp hh th tr (xs (v3 + (1 : Int32)).toNatClampNeg) (xs (v3 + (2 : Int32)).toNatClampNeg) r130 q131) kV_L_65 (Rc.mk XX I (q0 := 0) (ci := 11) rfl rfl) rfl rfl (Nat.le_of_ble_eq_true rfl) ⟨rfl, rfl, Nat.le_of_ble_eq_true rfl, Nat.le_of_ble_eq_true rfl⟩ ⟨hc1, hs1⟩ dL_law_620 (fun H locs hz I => ?_)
        replace I : Iv G (fun q : Nat => s0.heap.size ≤ q) s0 H locs ((bO G oa na ka aa ra pa sd yd td ow ++ (bV G na nw ++ (bV G ka kp ++ (bA G aa wa ah ++ (bV G wa aw ++ (bT G ra ma rd ++ (bV G ma md ++ (bP G pa tp ++ (bH G sd hh ++ (bY G yd td th ++ (bK G td tr ++ []))))))))))) ++ (wM G ad s ++ [])) := I
        refine lv_aload_n hx hb dL_law_623 rfl (lv_at hl 2 rfl) ?_
        refine lv_aload_n hx hb dL_law_624 rfl (lv_at hl 0 rfl) ?_
        refine lv_iload_n hx hb dL_law_625 rfl (lv_at hl 3 rfl) ?_
        refine lv_iconst (v := 1) hx hb dL_law_626 (by decide) ?_
        refine lv_iadd hx hb dL_law_627 ?_
        obtain ⟨g132, h⟩ := gd_some h
        refine va_sld hx hb hXs hbl hbA I.2.2.1 g132 dL_law_628 ?_
        refine lv_aload_n hx hb dL_law_629 rfl (lv_at hl 0 rfl) ?_
        refine lv_iload_n hx hb dL_law_630 rfl (lv_at hl 3 rfl) ?_
        refine lv_iconst (v := 2) hx hb dL_law_631 (by decide) ?_
        refine lv_iadd hx hb dL_law_632 ?_
        obtain ⟨g133, h⟩ := gd_some h
        refine va_sld hx hb hXs hbl hbA I.2.2.1 g133 dL_law_633 ?_
        obtain ⟨r134, q135, h⟩ := bd1_some h
        refine call_i (X := (bO G oa na ka aa ra pa sd yd td ow ++ (bV G na nw ++ (bV G ka kp ++ (bA G aa wa ah ++ (bV G wa aw ++ (bT G ra ma rd ++ (bV G ma md ++ (bP G pa tp ++ (bH G sd hh ++ (bY G yd td th ++ (bK G td tr ++ [])))))))))))) (wc := wM G ad s) (Y := []) (rest := [.int r130]) XX I hl.1 (c_M_proposalOf l G OK ad s (xs (v3 + (1 : Int32)).toNatClampNeg) (xs (v3 + (2 : Int32)).toNatClampNeg) r134 q135) kV_L_68 (Rc.mk XX I (q0 := 121) (ci := 12) rfl rfl) rfl rfl (Nat.le_of_ble_eq_true rfl) ⟨rfl, rfl, Nat.le_of_ble_eq_true rfl, Nat.le_of_ble_eq_true rfl⟩ ⟨hc1, hs1⟩ dL_law_634 (fun H locs hz I => ?_)
        replace I : Iv G (fun q : Nat => s0.heap.size ≤ q) s0 H locs ((bO G oa na ka aa ra pa sd yd td ow ++ (bV G na nw ++ (bV G ka kp ++ (bA G aa wa ah ++ (bV G wa aw ++ (bT G ra ma rd ++ (bV G ma md ++ (bP G pa tp ++ (bH G sd hh ++ (bY G yd td th ++ (bK G td tr ++ []))))))))))) ++ (wM G ad s ++ [])) := I
        refine lv_icmp_eq (tgt := 1545) hx hb dL_law_637 (by decide) (fun c1 => ?_) (fun c1 => ?_)
        · replace h := if_t h c1
          obtain ⟨y136, ey136⟩ : ∃ z : Int32, z = v3 + (5 : Int32) := ⟨_, rfl⟩
          replace h := lt_e h ey136
          refine lv_iinc (v := y136) (lv' := [(3, .int y136), (0, .ref b), (1, .ref (oa 0)), (2, .ref (ad 0))]) hx hb dL_law_1545 hl (k := 3) rfl (by rw [ey136]; rfl) (by decide) rfl (fun ls hl => ?_)
          refine lv_goto (tgt := 18) hx hb dL_law_1548 (by decide) ?_
          exact ih _ _ _ _ _ _ _ _ _ _ _ _ _ h _ _ I ls (lv_sub hl [1, 2, 3, 0] rfl)
        · replace h := if_f h c1
          refine lv_iconst (v := 0) hx hb dL_law_640 (by decide) ?_
          exact absurd h (fun q => by cases q)
      replace h := if_f h q11
      by_cases q12 : y2 = (12 : Int32)
      · replace h := if_t h q12
        refine lv_tableIn (tgt := 642) (off := 610) hx hb dL_law_32 (by rw [q12]; decide) (by rw [q12]; decide) (by rw [q12]; rfl) (by decide) ?_
        refine lv_aload_n hx hb dL_law_642 rfl (lv_at hl 1 rfl) ?_
        refine lv_aload_n hx hb dL_law_643 rfl (lv_at hl 0 rfl) ?_
        refine lv_iload_n hx hb dL_law_644 rfl (lv_at hl 3 rfl) ?_
        refine lv_iconst (v := 1) hx hb dL_law_645 (by decide) ?_
        refine lv_iadd hx hb dL_law_646 ?_
        obtain ⟨g137, h⟩ := gd_some h
        refine va_sld hx hb hXs hbl hbA I.2.2.1 g137 dL_law_647 ?_
        refine lv_aload_n hx hb dL_law_648 rfl (lv_at hl 0 rfl) ?_
        refine lv_iload_n hx hb dL_law_649 rfl (lv_at hl 3 rfl) ?_
        refine lv_iconst (v := 2) hx hb dL_law_650 (by decide) ?_
        refine lv_iadd hx hb dL_law_651 ?_
        obtain ⟨g138, h⟩ := gd_some h
        refine va_sld hx hb hXs hbl hbA I.2.2.1 g138 dL_law_652 ?_
        obtain ⟨r139, s140, q141, h⟩ := bd2_some h
        refine call_i (X := []) (wc := (bO G oa na ka aa ra pa sd yd td ow ++ (bV G na nw ++ (bV G ka kp ++ (bA G aa wa ah ++ (bV G wa aw ++ (bT G ra ma rd ++ (bV G ma md ++ (bP G pa tp ++ (bH G sd hh ++ (bY G yd td th ++ (bK G td tr ++ [])))))))))))) (Y := wM G ad s ++ []) (rest := []) XX I hl.1 (c_O_set l G OK oa na ka aa wa ra ma pa sd yd td ow nw kp ah aw rd md tp hh th tr (xs (v3 + (1 : Int32)).toNatClampNeg) (xs (v3 + (2 : Int32)).toNatClampNeg) r139 s140 q141) kV_L_69 (Rc.mk XX I (q0 := 0) (ci := 11) rfl rfl) rfl rfl (Nat.le_of_ble_eq_true rfl) ⟨rfl, rfl, Nat.le_of_ble_eq_true rfl, Nat.le_of_ble_eq_true rfl⟩ ⟨hc1, hs1⟩ dL_law_653 (fun H locs hz I => ?_)
        replace I : Iv G (fun q : Nat => s0.heap.size ≤ q) s0 H locs ((bO G oa na ka aa ra pa sd yd td ow ++ (bV G na s140 ++ (bV G ka kp ++ (bA G aa wa ah ++ (bV G wa aw ++ (bT G ra ma rd ++ (bV G ma md ++ (bP G pa tp ++ (bH G sd hh ++ (bY G yd td th ++ (bK G td tr ++ []))))))))))) ++ (wM G ad s ++ [])) := I
        refine lv_aload_n hx hb dL_law_656 rfl (lv_at hl 2 rfl) ?_
        refine lv_aload_n hx hb dL_law_657 rfl (lv_at hl 0 rfl) ?_
        refine lv_iload_n hx hb dL_law_658 rfl (lv_at hl 3 rfl) ?_
        refine lv_iconst (v := 1) hx hb dL_law_659 (by decide) ?_
        refine lv_iadd hx hb dL_law_660 ?_
        obtain ⟨g142, h⟩ := gd_some h
        refine va_sld hx hb hXs hbl hbA I.2.2.1 g142 dL_law_661 ?_
        refine lv_aload_n hx hb dL_law_662 rfl (lv_at hl 0 rfl) ?_
        refine lv_iload_n hx hb dL_law_663 rfl (lv_at hl 3 rfl) ?_
        refine lv_iconst (v := 2) hx hb dL_law_664 (by decide) ?_
        refine lv_iadd hx hb dL_law_665 ?_
        obtain ⟨g143, h⟩ := gd_some h
        refine va_sld hx hb hXs hbl hbA I.2.2.1 g143 dL_law_666 ?_
        obtain ⟨r144, s145, q146, h⟩ := bd2_some h
        refine call_i (X := (bO G oa na ka aa ra pa sd yd td ow ++ (bV G na s140 ++ (bV G ka kp ++ (bA G aa wa ah ++ (bV G wa aw ++ (bT G ra ma rd ++ (bV G ma md ++ (bP G pa tp ++ (bH G sd hh ++ (bY G yd td th ++ (bK G td tr ++ [])))))))))))) (wc := wM G ad s) (Y := []) (rest := [.int r139]) XX I hl.1 (c_M_set l G OK ad s (xs (v3 + (1 : Int32)).toNatClampNeg) (xs (v3 + (2 : Int32)).toNatClampNeg) r144 s145 q146) kV_L_72 (Rc.mk XX I (q0 := 121) (ci := 12) rfl rfl) rfl rfl (Nat.le_of_ble_eq_true rfl) ⟨rfl, rfl, Nat.le_of_ble_eq_true rfl, Nat.le_of_ble_eq_true rfl⟩ ⟨hc1, hs1⟩ dL_law_667 (fun H locs hz I => ?_)
        replace I : Iv G (fun q : Nat => s0.heap.size ≤ q) s0 H locs ((bO G oa na ka aa ra pa sd yd td ow ++ (bV G na s140 ++ (bV G ka kp ++ (bA G aa wa ah ++ (bV G wa aw ++ (bT G ra ma rd ++ (bV G ma md ++ (bP G pa tp ++ (bH G sd hh ++ (bY G yd td th ++ (bK G td tr ++ []))))))))))) ++ (wM G ad s145 ++ [])) := I
        refine lv_icmp_eq (tgt := 1545) hx hb dL_law_670 (by decide) (fun c1 => ?_) (fun c1 => ?_)
        · replace h := if_t h c1
          obtain ⟨y147, ey147⟩ : ∃ z : Int32, z = v3 + (5 : Int32) := ⟨_, rfl⟩
          replace h := lt_e h ey147
          refine lv_iinc (v := y147) (lv' := [(3, .int y147), (0, .ref b), (1, .ref (oa 0)), (2, .ref (ad 0))]) hx hb dL_law_1545 hl (k := 3) rfl (by rw [ey147]; rfl) (by decide) rfl (fun ls hl => ?_)
          refine lv_goto (tgt := 18) hx hb dL_law_1548 (by decide) ?_
          exact ih _ _ _ _ _ _ _ _ _ _ _ _ _ h _ _ I ls (lv_sub hl [1, 2, 3, 0] rfl)
        · replace h := if_f h c1
          refine lv_iconst (v := 0) hx hb dL_law_673 (by decide) ?_
          exact absurd h (fun q => by cases q)
      replace h := if_f h q12
      by_cases q13 : y2 = (13 : Int32)
      · replace h := if_t h q13
        refine lv_tableIn (tgt := 675) (off := 643) hx hb dL_law_32 (by rw [q13]; decide) (by rw [q13]; decide) (by rw [q13]; rfl) (by decide) ?_
        refine lv_aload_n hx hb dL_law_675 rfl (lv_at hl 1 rfl) ?_
        refine lv_aload_n hx hb dL_law_676 rfl (lv_at hl 0 rfl) ?_
        refine lv_iload_n hx hb dL_law_677 rfl (lv_at hl 3 rfl) ?_
        refine lv_iconst (v := 1) hx hb dL_law_678 (by decide) ?_
        refine lv_iadd hx hb dL_law_679 ?_
        obtain ⟨g148, h⟩ := gd_some h
        refine va_sld hx hb hXs hbl hbA I.2.2.1 g148 dL_law_680 ?_
        obtain ⟨r149, q150, h⟩ := bd1_some h
        refine call_i (X := []) (wc := (bO G oa na ka aa ra pa sd yd td ow ++ (bV G na nw ++ (bV G ka kp ++ (bA G aa wa ah ++ (bV G wa aw ++ (bT G ra ma rd ++ (bV G ma md ++ (bP G pa tp ++ (bH G sd hh ++ (bY G yd td th ++ (bK G td tr ++ [])))))))))))) (Y := wM G ad s ++ []) (rest := []) XX I hl.1 (c_O_law l G OK oa na ka aa wa ra ma pa sd yd td ow nw kp ah aw rd md tp hh th tr (xs (v3 + (1 : Int32)).toNatClampNeg) r149 q150) kV_L_73 (Rc.mk XX I (q0 := 0) (ci := 11) rfl rfl) rfl rfl (Nat.le_of_ble_eq_true rfl) ⟨rfl, rfl, Nat.le_of_ble_eq_true rfl, Nat.le_of_ble_eq_true rfl⟩ ⟨hc1, hs1⟩ dL_law_681 (fun H locs hz I => ?_)
        replace I : Iv G (fun q : Nat => s0.heap.size ≤ q) s0 H locs ((bO G oa na ka aa ra pa sd yd td ow ++ (bV G na nw ++ (bV G ka kp ++ (bA G aa wa ah ++ (bV G wa aw ++ (bT G ra ma rd ++ (bV G ma md ++ (bP G pa tp ++ (bH G sd hh ++ (bY G yd td th ++ (bK G td tr ++ []))))))))))) ++ (wM G ad s ++ [])) := I
        refine lv_aload_n hx hb dL_law_684 rfl (lv_at hl 2 rfl) ?_
        refine lv_aload_n hx hb dL_law_685 rfl (lv_at hl 0 rfl) ?_
        refine lv_iload_n hx hb dL_law_686 rfl (lv_at hl 3 rfl) ?_
        refine lv_iconst (v := 1) hx hb dL_law_687 (by decide) ?_
        refine lv_iadd hx hb dL_law_688 ?_
        obtain ⟨g151, h⟩ := gd_some h
        refine va_sld hx hb hXs hbl hbA I.2.2.1 g151 dL_law_689 ?_
        obtain ⟨r152, q153, h⟩ := bd1_some h
        refine call_i (X := (bO G oa na ka aa ra pa sd yd td ow ++ (bV G na nw ++ (bV G ka kp ++ (bA G aa wa ah ++ (bV G wa aw ++ (bT G ra ma rd ++ (bV G ma md ++ (bP G pa tp ++ (bH G sd hh ++ (bY G yd td th ++ (bK G td tr ++ [])))))))))))) (wc := wM G ad s) (Y := []) (rest := [.int r149]) XX I hl.1 (c_M_law l G OK ad s (xs (v3 + (1 : Int32)).toNatClampNeg) r152 q153) kV_L_76 (Rc.mk XX I (q0 := 121) (ci := 12) rfl rfl) rfl rfl (Nat.le_of_ble_eq_true rfl) ⟨rfl, rfl, Nat.le_of_ble_eq_true rfl, Nat.le_of_ble_eq_true rfl⟩ ⟨hc1, hs1⟩ dL_law_690 (fun H locs hz I => ?_)
        replace I : Iv G (fun q : Nat => s0.heap.size ≤ q) s0 H locs ((bO G oa na ka aa ra pa sd yd td ow ++ (bV G na nw ++ (bV G ka kp ++ (bA G aa wa ah ++ (bV G wa aw ++ (bT G ra ma rd ++ (bV G ma md ++ (bP G pa tp ++ (bH G sd hh ++ (bY G yd td th ++ (bK G td tr ++ []))))))))))) ++ (wM G ad s ++ [])) := I
        refine lv_icmp_eq (tgt := 1545) hx hb dL_law_693 (by decide) (fun c1 => ?_) (fun c1 => ?_)
        · replace h := if_t h c1
          obtain ⟨y154, ey154⟩ : ∃ z : Int32, z = v3 + (5 : Int32) := ⟨_, rfl⟩
          replace h := lt_e h ey154
          refine lv_iinc (v := y154) (lv' := [(3, .int y154), (0, .ref b), (1, .ref (oa 0)), (2, .ref (ad 0))]) hx hb dL_law_1545 hl (k := 3) rfl (by rw [ey154]; rfl) (by decide) rfl (fun ls hl => ?_)
          refine lv_goto (tgt := 18) hx hb dL_law_1548 (by decide) ?_
          exact ih _ _ _ _ _ _ _ _ _ _ _ _ _ h _ _ I ls (lv_sub hl [1, 2, 3, 0] rfl)
        · replace h := if_f h c1
          refine lv_iconst (v := 0) hx hb dL_law_696 (by decide) ?_
          exact absurd h (fun q => by cases q)
      replace h := if_f h q13
      by_cases q14 : y2 = (14 : Int32)
      · replace h := if_t h q14
        refine lv_tableIn (tgt := 698) (off := 666) hx hb dL_law_32 (by rw [q14]; decide) (by rw [q14]; decide) (by rw [q14]; rfl) (by decide) ?_
        refine lv_aload_n hx hb dL_law_698 rfl (lv_at hl 1 rfl) ?_
        refine lv_aload_n hx hb dL_law_699 rfl (lv_at hl 0 rfl) ?_
        refine lv_iload_n hx hb dL_law_700 rfl (lv_at hl 3 rfl) ?_
        refine lv_iconst (v := 1) hx hb dL_law_701 (by decide) ?_
        refine lv_iadd hx hb dL_law_702 ?_
        obtain ⟨g155, h⟩ := gd_some h
        refine va_sld hx hb hXs hbl hbA I.2.2.1 g155 dL_law_703 ?_
        obtain ⟨r156, q157, h⟩ := bd1_some h
        refine call_i (X := []) (wc := (bO G oa na ka aa ra pa sd yd td ow ++ (bV G na nw ++ (bV G ka kp ++ (bA G aa wa ah ++ (bV G wa aw ++ (bT G ra ma rd ++ (bV G ma md ++ (bP G pa tp ++ (bH G sd hh ++ (bY G yd td th ++ (bK G td tr ++ [])))))))))))) (Y := wM G ad s ++ []) (rest := []) XX I hl.1 (c_O_would l G OK oa na ka aa wa ra ma pa sd yd td fu ow nw kp ah aw rd md tp hh th tr (xs (v3 + (1 : Int32)).toNatClampNeg) r156 q157) kV_L_77 (Rc.mk XX I (q0 := 0) (ci := 11) rfl rfl) rfl rfl (Nat.le_of_ble_eq_true rfl) ⟨rfl, rfl, Nat.le_of_ble_eq_true rfl, Nat.le_of_ble_eq_true rfl⟩ ⟨hc1, hs1⟩ dL_law_704 (fun H locs hz I => ?_)
        replace I : Iv G (fun q : Nat => s0.heap.size ≤ q) s0 H locs ((bO G oa na ka aa ra pa sd yd td ow ++ (bV G na nw ++ (bV G ka kp ++ (bA G aa wa ah ++ (bV G wa aw ++ (bT G ra ma rd ++ (bV G ma md ++ (bP G pa tp ++ (bH G sd hh ++ (bY G yd td th ++ (bK G td tr ++ []))))))))))) ++ (wM G ad s ++ [])) := I
        refine lv_aload_n hx hb dL_law_707 rfl (lv_at hl 2 rfl) ?_
        refine lv_aload_n hx hb dL_law_708 rfl (lv_at hl 0 rfl) ?_
        refine lv_iload_n hx hb dL_law_709 rfl (lv_at hl 3 rfl) ?_
        refine lv_iconst (v := 1) hx hb dL_law_710 (by decide) ?_
        refine lv_iadd hx hb dL_law_711 ?_
        obtain ⟨g158, h⟩ := gd_some h
        refine va_sld hx hb hXs hbl hbA I.2.2.1 g158 dL_law_712 ?_
        obtain ⟨r159, q160, h⟩ := bd1_some h
        refine call_i (X := (bO G oa na ka aa ra pa sd yd td ow ++ (bV G na nw ++ (bV G ka kp ++ (bA G aa wa ah ++ (bV G wa aw ++ (bT G ra ma rd ++ (bV G ma md ++ (bP G pa tp ++ (bH G sd hh ++ (bY G yd td th ++ (bK G td tr ++ [])))))))))))) (wc := wM G ad s) (Y := []) (rest := [.int r156]) XX I hl.1 (c_M_would l G OK ad fu s (xs (v3 + (1 : Int32)).toNatClampNeg) r159 q160) kV_L_80 (Rc.mk XX I (q0 := 121) (ci := 12) rfl rfl) rfl rfl (Nat.le_of_ble_eq_true rfl) ⟨rfl, rfl, Nat.le_of_ble_eq_true rfl, Nat.le_of_ble_eq_true rfl⟩ ⟨hc1, hs1⟩ dL_law_713 (fun H locs hz I => ?_)
        replace I : Iv G (fun q : Nat => s0.heap.size ≤ q) s0 H locs ((bO G oa na ka aa ra pa sd yd td ow ++ (bV G na nw ++ (bV G ka kp ++ (bA G aa wa ah ++ (bV G wa aw ++ (bT G ra ma rd ++ (bV G ma md ++ (bP G pa tp ++ (bH G sd hh ++ (bY G yd td th ++ (bK G td tr ++ []))))))))))) ++ (wM G ad s ++ [])) := I
        refine lv_icmp_eq (tgt := 1545) hx hb dL_law_716 (by decide) (fun c1 => ?_) (fun c1 => ?_)
        · replace h := if_t h c1
          obtain ⟨y161, ey161⟩ : ∃ z : Int32, z = v3 + (5 : Int32) := ⟨_, rfl⟩
          replace h := lt_e h ey161
          refine lv_iinc (v := y161) (lv' := [(3, .int y161), (0, .ref b), (1, .ref (oa 0)), (2, .ref (ad 0))]) hx hb dL_law_1545 hl (k := 3) rfl (by rw [ey161]; rfl) (by decide) rfl (fun ls hl => ?_)
          refine lv_goto (tgt := 18) hx hb dL_law_1548 (by decide) ?_
          exact ih _ _ _ _ _ _ _ _ _ _ _ _ _ h _ _ I ls (lv_sub hl [1, 2, 3, 0] rfl)
        · replace h := if_f h c1
          refine lv_iconst (v := 0) hx hb dL_law_719 (by decide) ?_
          exact absurd h (fun q => by cases q)
      replace h := if_f h q14
      by_cases q15 : y2 = (15 : Int32)
      · replace h := if_t h q15
        refine lv_tableIn (tgt := 721) (off := 689) hx hb dL_law_32 (by rw [q15]; decide) (by rw [q15]; decide) (by rw [q15]; rfl) (by decide) ?_
        refine lv_aload_n hx hb dL_law_721 rfl (lv_at hl 1 rfl) ?_
        refine lv_aload_n hx hb dL_law_722 rfl (lv_at hl 0 rfl) ?_
        refine lv_iload_n hx hb dL_law_723 rfl (lv_at hl 3 rfl) ?_
        refine lv_iconst (v := 1) hx hb dL_law_724 (by decide) ?_
        refine lv_iadd hx hb dL_law_725 ?_
        obtain ⟨g162, h⟩ := gd_some h
        refine va_sld hx hb hXs hbl hbA I.2.2.1 g162 dL_law_726 ?_
        obtain ⟨r163, q164, h⟩ := bd1_some h
        refine call_i (X := []) (wc := (bO G oa na ka aa ra pa sd yd td ow ++ (bV G na nw ++ (bV G ka kp ++ (bA G aa wa ah ++ (bV G wa aw ++ (bT G ra ma rd ++ (bV G ma md ++ (bP G pa tp ++ (bH G sd hh ++ (bY G yd td th ++ (bK G td tr ++ [])))))))))))) (Y := wM G ad s ++ []) (rest := []) XX I hl.1 (c_O_says l G OK oa na ka aa wa ra ma pa sd yd td fu ow nw kp ah aw rd md tp hh th tr (xs (v3 + (1 : Int32)).toNatClampNeg) r163 q164) kV_L_81 (Rc.mk XX I (q0 := 0) (ci := 11) rfl rfl) rfl rfl (Nat.le_of_ble_eq_true rfl) ⟨rfl, rfl, Nat.le_of_ble_eq_true rfl, Nat.le_of_ble_eq_true rfl⟩ ⟨hc1, hs1⟩ dL_law_727 (fun H locs hz I => ?_)
        replace I : Iv G (fun q : Nat => s0.heap.size ≤ q) s0 H locs ((bO G oa na ka aa ra pa sd yd td ow ++ (bV G na nw ++ (bV G ka kp ++ (bA G aa wa ah ++ (bV G wa aw ++ (bT G ra ma rd ++ (bV G ma md ++ (bP G pa tp ++ (bH G sd hh ++ (bY G yd td th ++ (bK G td tr ++ []))))))))))) ++ (wM G ad s ++ [])) := I
        refine lv_aload_n hx hb dL_law_730 rfl (lv_at hl 2 rfl) ?_
        refine lv_aload_n hx hb dL_law_731 rfl (lv_at hl 0 rfl) ?_
        refine lv_iload_n hx hb dL_law_732 rfl (lv_at hl 3 rfl) ?_
        refine lv_iconst (v := 1) hx hb dL_law_733 (by decide) ?_
        refine lv_iadd hx hb dL_law_734 ?_
        obtain ⟨g165, h⟩ := gd_some h
        refine va_sld hx hb hXs hbl hbA I.2.2.1 g165 dL_law_735 ?_
        obtain ⟨r166, q167, h⟩ := bd1_some h
        refine call_i (X := (bO G oa na ka aa ra pa sd yd td ow ++ (bV G na nw ++ (bV G ka kp ++ (bA G aa wa ah ++ (bV G wa aw ++ (bT G ra ma rd ++ (bV G ma md ++ (bP G pa tp ++ (bH G sd hh ++ (bY G yd td th ++ (bK G td tr ++ [])))))))))))) (wc := wM G ad s) (Y := []) (rest := [.int r163]) XX I hl.1 (c_M_says l G OK ad fu s (xs (v3 + (1 : Int32)).toNatClampNeg) r166 q167) kV_L_84 (Rc.mk XX I (q0 := 121) (ci := 12) rfl rfl) rfl rfl (Nat.le_of_ble_eq_true rfl) ⟨rfl, rfl, Nat.le_of_ble_eq_true rfl, Nat.le_of_ble_eq_true rfl⟩ ⟨hc1, hs1⟩ dL_law_736 (fun H locs hz I => ?_)
        replace I : Iv G (fun q : Nat => s0.heap.size ≤ q) s0 H locs ((bO G oa na ka aa ra pa sd yd td ow ++ (bV G na nw ++ (bV G ka kp ++ (bA G aa wa ah ++ (bV G wa aw ++ (bT G ra ma rd ++ (bV G ma md ++ (bP G pa tp ++ (bH G sd hh ++ (bY G yd td th ++ (bK G td tr ++ []))))))))))) ++ (wM G ad s ++ [])) := I
        refine lv_icmp_eq (tgt := 1545) hx hb dL_law_739 (by decide) (fun c1 => ?_) (fun c1 => ?_)
        · replace h := if_t h c1
          obtain ⟨y168, ey168⟩ : ∃ z : Int32, z = v3 + (5 : Int32) := ⟨_, rfl⟩
          replace h := lt_e h ey168
          refine lv_iinc (v := y168) (lv' := [(3, .int y168), (0, .ref b), (1, .ref (oa 0)), (2, .ref (ad 0))]) hx hb dL_law_1545 hl (k := 3) rfl (by rw [ey168]; rfl) (by decide) rfl (fun ls hl => ?_)
          refine lv_goto (tgt := 18) hx hb dL_law_1548 (by decide) ?_
          exact ih _ _ _ _ _ _ _ _ _ _ _ _ _ h _ _ I ls (lv_sub hl [1, 2, 3, 0] rfl)
        · replace h := if_f h c1
          refine lv_iconst (v := 0) hx hb dL_law_742 (by decide) ?_
          exact absurd h (fun q => by cases q)
      replace h := if_f h q15
      by_cases q16 : y2 = (16 : Int32)
      · replace h := if_t h q16
        refine lv_tableIn (tgt := 744) (off := 712) hx hb dL_law_32 (by rw [q16]; decide) (by rw [q16]; decide) (by rw [q16]; rfl) (by decide) ?_
        refine lv_aload_n hx hb dL_law_744 rfl (lv_at hl 1 rfl) ?_
        refine lv_aload_n hx hb dL_law_745 rfl (lv_at hl 0 rfl) ?_
        refine lv_iload_n hx hb dL_law_746 rfl (lv_at hl 3 rfl) ?_
        refine lv_iconst (v := 1) hx hb dL_law_747 (by decide) ?_
        refine lv_iadd hx hb dL_law_748 ?_
        obtain ⟨g169, h⟩ := gd_some h
        refine va_sld hx hb hXs hbl hbA I.2.2.1 g169 dL_law_749 ?_
        obtain ⟨r170, s171, q172, h⟩ := bd2_some h
        refine call_i (X := []) (wc := (bO G oa na ka aa ra pa sd yd td ow ++ (bV G na nw ++ (bV G ka kp ++ (bA G aa wa ah ++ (bV G wa aw ++ (bT G ra ma rd ++ (bV G ma md ++ (bP G pa tp ++ (bH G sd hh ++ (bY G yd td th ++ (bK G td tr ++ [])))))))))))) (Y := wM G ad s ++ []) (rest := []) XX I hl.1 (c_O_comes l G OK oa na ka aa wa ra ma pa sd yd td fu ow nw kp ah aw rd md tp hh th tr (xs (v3 + (1 : Int32)).toNatClampNeg) r170 s171 q172) kV_L_85 (Rc.mk XX I (q0 := 0) (ci := 11) rfl rfl) rfl rfl (Nat.le_of_ble_eq_true rfl) ⟨rfl, rfl, Nat.le_of_ble_eq_true rfl, Nat.le_of_ble_eq_true rfl⟩ ⟨hc1, hs1⟩ dL_law_750 (fun H locs hz I => ?_)
        replace I : Iv G (fun q : Nat => s0.heap.size ≤ q) s0 H locs ((bO G oa na ka aa ra pa sd yd td ow ++ (bV G na s171 ++ (bV G ka kp ++ (bA G aa wa ah ++ (bV G wa aw ++ (bT G ra ma rd ++ (bV G ma md ++ (bP G pa tp ++ (bH G sd hh ++ (bY G yd td th ++ (bK G td tr ++ []))))))))))) ++ (wM G ad s ++ [])) := I
        refine lv_aload_n hx hb dL_law_753 rfl (lv_at hl 2 rfl) ?_
        refine lv_aload_n hx hb dL_law_754 rfl (lv_at hl 0 rfl) ?_
        refine lv_iload_n hx hb dL_law_755 rfl (lv_at hl 3 rfl) ?_
        refine lv_iconst (v := 1) hx hb dL_law_756 (by decide) ?_
        refine lv_iadd hx hb dL_law_757 ?_
        obtain ⟨g173, h⟩ := gd_some h
        refine va_sld hx hb hXs hbl hbA I.2.2.1 g173 dL_law_758 ?_
        obtain ⟨r174, s175, q176, h⟩ := bd2_some h
        refine call_i (X := (bO G oa na ka aa ra pa sd yd td ow ++ (bV G na s171 ++ (bV G ka kp ++ (bA G aa wa ah ++ (bV G wa aw ++ (bT G ra ma rd ++ (bV G ma md ++ (bP G pa tp ++ (bH G sd hh ++ (bY G yd td th ++ (bK G td tr ++ [])))))))))))) (wc := wM G ad s) (Y := []) (rest := [.int r170]) XX I hl.1 (c_M_comes l G OK ad fu s (xs (v3 + (1 : Int32)).toNatClampNeg) r174 s175 q176) kV_L_88 (Rc.mk XX I (q0 := 121) (ci := 12) rfl rfl) rfl rfl (Nat.le_of_ble_eq_true rfl) ⟨rfl, rfl, Nat.le_of_ble_eq_true rfl, Nat.le_of_ble_eq_true rfl⟩ ⟨hc1, hs1⟩ dL_law_759 (fun H locs hz I => ?_)
        replace I : Iv G (fun q : Nat => s0.heap.size ≤ q) s0 H locs ((bO G oa na ka aa ra pa sd yd td ow ++ (bV G na s171 ++ (bV G ka kp ++ (bA G aa wa ah ++ (bV G wa aw ++ (bT G ra ma rd ++ (bV G ma md ++ (bP G pa tp ++ (bH G sd hh ++ (bY G yd td th ++ (bK G td tr ++ []))))))))))) ++ (wM G ad s175 ++ [])) := I
        refine lv_icmp_eq (tgt := 1545) hx hb dL_law_762 (by decide) (fun c1 => ?_) (fun c1 => ?_)
        · replace h := if_t h c1
          obtain ⟨y177, ey177⟩ : ∃ z : Int32, z = v3 + (5 : Int32) := ⟨_, rfl⟩
          replace h := lt_e h ey177
          refine lv_iinc (v := y177) (lv' := [(3, .int y177), (0, .ref b), (1, .ref (oa 0)), (2, .ref (ad 0))]) hx hb dL_law_1545 hl (k := 3) rfl (by rw [ey177]; rfl) (by decide) rfl (fun ls hl => ?_)
          refine lv_goto (tgt := 18) hx hb dL_law_1548 (by decide) ?_
          exact ih _ _ _ _ _ _ _ _ _ _ _ _ _ h _ _ I ls (lv_sub hl [1, 2, 3, 0] rfl)
        · replace h := if_f h c1
          refine lv_iconst (v := 0) hx hb dL_law_765 (by decide) ?_
          exact absurd h (fun q => by cases q)
      replace h := if_f h q16
      by_cases q17 : y2 = (17 : Int32)
      · replace h := if_t h q17
        refine lv_tableIn (tgt := 767) (off := 735) hx hb dL_law_32 (by rw [q17]; decide) (by rw [q17]; decide) (by rw [q17]; rfl) (by decide) ?_
        refine lv_aload_n hx hb dL_law_767 rfl (lv_at hl 1 rfl) ?_
        obtain ⟨r178, s179, q180, h⟩ := bd2_some h
        refine call_i (X := []) (wc := (bO G oa na ka aa ra pa sd yd td ow ++ (bV G na nw ++ (bV G ka kp ++ (bA G aa wa ah ++ (bV G wa aw ++ (bT G ra ma rd ++ (bV G ma md ++ (bP G pa tp ++ (bH G sd hh ++ (bY G yd td th ++ (bK G td tr ++ [])))))))))))) (Y := wM G ad s ++ []) (rest := []) XX I hl.1 (c_O_lot l G OK oa na ka aa wa ra ma pa sd yd td fu ow nw kp ah aw rd md tp hh th tr r178 s179 q180) kV_L_89 (Rc.mk XX I (q0 := 0) (ci := 11) rfl rfl) rfl rfl (Nat.le_of_ble_eq_true rfl) ⟨rfl, rfl, Nat.le_of_ble_eq_true rfl, Nat.le_of_ble_eq_true rfl⟩ ⟨hc1, hs1⟩ dL_law_768 (fun H locs hz I => ?_)
        replace I : Iv G (fun q : Nat => s0.heap.size ≤ q) s0 H locs ((bO G oa na ka aa ra pa sd yd td ow ++ (bV G na s179 ++ (bV G ka kp ++ (bA G aa wa ah ++ (bV G wa aw ++ (bT G ra ma rd ++ (bV G ma md ++ (bP G pa tp ++ (bH G sd hh ++ (bY G yd td th ++ (bK G td tr ++ []))))))))))) ++ (wM G ad s ++ [])) := I
        refine lv_aload_n hx hb dL_law_771 rfl (lv_at hl 2 rfl) ?_
        obtain ⟨r181, s182, q183, h⟩ := bd2_some h
        refine call_i (X := (bO G oa na ka aa ra pa sd yd td ow ++ (bV G na s179 ++ (bV G ka kp ++ (bA G aa wa ah ++ (bV G wa aw ++ (bT G ra ma rd ++ (bV G ma md ++ (bP G pa tp ++ (bH G sd hh ++ (bY G yd td th ++ (bK G td tr ++ [])))))))))))) (wc := wM G ad s) (Y := []) (rest := [.int r178]) XX I hl.1 (c_M_lot l G OK ad fu s r181 s182 q183) kV_L_92 (Rc.mk XX I (q0 := 121) (ci := 12) rfl rfl) rfl rfl (Nat.le_of_ble_eq_true rfl) ⟨rfl, rfl, Nat.le_of_ble_eq_true rfl, Nat.le_of_ble_eq_true rfl⟩ ⟨hc1, hs1⟩ dL_law_772 (fun H locs hz I => ?_)
        replace I : Iv G (fun q : Nat => s0.heap.size ≤ q) s0 H locs ((bO G oa na ka aa ra pa sd yd td ow ++ (bV G na s179 ++ (bV G ka kp ++ (bA G aa wa ah ++ (bV G wa aw ++ (bT G ra ma rd ++ (bV G ma md ++ (bP G pa tp ++ (bH G sd hh ++ (bY G yd td th ++ (bK G td tr ++ []))))))))))) ++ (wM G ad s182 ++ [])) := I
        refine lv_icmp_eq (tgt := 1545) hx hb dL_law_775 (by decide) (fun c1 => ?_) (fun c1 => ?_)
        · replace h := if_t h c1
          obtain ⟨y184, ey184⟩ : ∃ z : Int32, z = v3 + (5 : Int32) := ⟨_, rfl⟩
          replace h := lt_e h ey184
          refine lv_iinc (v := y184) (lv' := [(3, .int y184), (0, .ref b), (1, .ref (oa 0)), (2, .ref (ad 0))]) hx hb dL_law_1545 hl (k := 3) rfl (by rw [ey184]; rfl) (by decide) rfl (fun ls hl => ?_)
          refine lv_goto (tgt := 18) hx hb dL_law_1548 (by decide) ?_
          exact ih _ _ _ _ _ _ _ _ _ _ _ _ _ h _ _ I ls (lv_sub hl [1, 2, 3, 0] rfl)
        · replace h := if_f h c1
          refine lv_iconst (v := 0) hx hb dL_law_778 (by decide) ?_
          exact absurd h (fun q => by cases q)
      replace h := if_f h q17
      by_cases q18 : y2 = (18 : Int32)
      · replace h := if_t h q18
        refine lv_tableIn (tgt := 780) (off := 748) hx hb dL_law_32 (by rw [q18]; decide) (by rw [q18]; decide) (by rw [q18]; rfl) (by decide) ?_
        refine lv_aload_n hx hb dL_law_780 rfl (lv_at hl 1 rfl) ?_
        refine lv_aload_n hx hb dL_law_781 rfl (lv_at hl 0 rfl) ?_
        refine lv_iload_n hx hb dL_law_782 rfl (lv_at hl 3 rfl) ?_
        refine lv_iconst (v := 1) hx hb dL_law_783 (by decide) ?_
        refine lv_iadd hx hb dL_law_784 ?_
        obtain ⟨g185, h⟩ := gd_some h
        refine va_sld hx hb hXs hbl hbA I.2.2.1 g185 dL_law_785 ?_
        obtain ⟨r186, q187, h⟩ := bd1_some h
        refine call_i (X := []) (wc := (bO G oa na ka aa ra pa sd yd td ow ++ (bV G na nw ++ (bV G ka kp ++ (bA G aa wa ah ++ (bV G wa aw ++ (bT G ra ma rd ++ (bV G ma md ++ (bP G pa tp ++ (bH G sd hh ++ (bY G yd td th ++ (bK G td tr ++ [])))))))))))) (Y := wM G ad s ++ []) (rest := []) XX I hl.1 (c_O_had l G OK oa na ka aa wa ra ma pa sd yd td ow nw kp ah aw rd md tp hh th tr (xs (v3 + (1 : Int32)).toNatClampNeg) r186 q187) kV_L_93 (Rc.mk XX I (q0 := 0) (ci := 11) rfl rfl) rfl rfl (Nat.le_of_ble_eq_true rfl) ⟨rfl, rfl, Nat.le_of_ble_eq_true rfl, Nat.le_of_ble_eq_true rfl⟩ ⟨hc1, hs1⟩ dL_law_786 (fun H locs hz I => ?_)
        replace I : Iv G (fun q : Nat => s0.heap.size ≤ q) s0 H locs ((bO G oa na ka aa ra pa sd yd td ow ++ (bV G na nw ++ (bV G ka kp ++ (bA G aa wa ah ++ (bV G wa aw ++ (bT G ra ma rd ++ (bV G ma md ++ (bP G pa tp ++ (bH G sd hh ++ (bY G yd td th ++ (bK G td tr ++ []))))))))))) ++ (wM G ad s ++ [])) := I
        refine lv_aload_n hx hb dL_law_789 rfl (lv_at hl 2 rfl) ?_
        refine lv_aload_n hx hb dL_law_790 rfl (lv_at hl 0 rfl) ?_
        refine lv_iload_n hx hb dL_law_791 rfl (lv_at hl 3 rfl) ?_
        refine lv_iconst (v := 1) hx hb dL_law_792 (by decide) ?_
        refine lv_iadd hx hb dL_law_793 ?_
        obtain ⟨g188, h⟩ := gd_some h
        refine va_sld hx hb hXs hbl hbA I.2.2.1 g188 dL_law_794 ?_
        obtain ⟨r189, q190, h⟩ := bd1_some h
        refine call_i (X := (bO G oa na ka aa ra pa sd yd td ow ++ (bV G na nw ++ (bV G ka kp ++ (bA G aa wa ah ++ (bV G wa aw ++ (bT G ra ma rd ++ (bV G ma md ++ (bP G pa tp ++ (bH G sd hh ++ (bY G yd td th ++ (bK G td tr ++ [])))))))))))) (wc := wM G ad s) (Y := []) (rest := [.int r186]) XX I hl.1 (c_M_had l G OK ad s (xs (v3 + (1 : Int32)).toNatClampNeg) r189 q190) kV_L_96 (Rc.mk XX I (q0 := 121) (ci := 12) rfl rfl) rfl rfl (Nat.le_of_ble_eq_true rfl) ⟨rfl, rfl, Nat.le_of_ble_eq_true rfl, Nat.le_of_ble_eq_true rfl⟩ ⟨hc1, hs1⟩ dL_law_795 (fun H locs hz I => ?_)
        replace I : Iv G (fun q : Nat => s0.heap.size ≤ q) s0 H locs ((bO G oa na ka aa ra pa sd yd td ow ++ (bV G na nw ++ (bV G ka kp ++ (bA G aa wa ah ++ (bV G wa aw ++ (bT G ra ma rd ++ (bV G ma md ++ (bP G pa tp ++ (bH G sd hh ++ (bY G yd td th ++ (bK G td tr ++ []))))))))))) ++ (wM G ad s ++ [])) := I
        refine lv_icmp_eq (tgt := 1545) hx hb dL_law_798 (by decide) (fun c1 => ?_) (fun c1 => ?_)
        · replace h := if_t h c1
          obtain ⟨y191, ey191⟩ : ∃ z : Int32, z = v3 + (5 : Int32) := ⟨_, rfl⟩
          replace h := lt_e h ey191
          refine lv_iinc (v := y191) (lv' := [(3, .int y191), (0, .ref b), (1, .ref (oa 0)), (2, .ref (ad 0))]) hx hb dL_law_1545 hl (k := 3) rfl (by rw [ey191]; rfl) (by decide) rfl (fun ls hl => ?_)
          refine lv_goto (tgt := 18) hx hb dL_law_1548 (by decide) ?_
          exact ih _ _ _ _ _ _ _ _ _ _ _ _ _ h _ _ I ls (lv_sub hl [1, 2, 3, 0] rfl)
        · replace h := if_f h c1
          refine lv_iconst (v := 0) hx hb dL_law_801 (by decide) ?_
          exact absurd h (fun q => by cases q)
      replace h := if_f h q18
      by_cases q19 : y2 = (19 : Int32)
      · replace h := if_t h q19
        refine lv_tableIn (tgt := 803) (off := 771) hx hb dL_law_32 (by rw [q19]; decide) (by rw [q19]; decide) (by rw [q19]; rfl) (by decide) ?_
        refine lv_aload_n hx hb dL_law_803 rfl (lv_at hl 1 rfl) ?_
        refine lv_aload_n hx hb dL_law_804 rfl (lv_at hl 0 rfl) ?_
        refine lv_iload_n hx hb dL_law_805 rfl (lv_at hl 3 rfl) ?_
        refine lv_iconst (v := 1) hx hb dL_law_806 (by decide) ?_
        refine lv_iadd hx hb dL_law_807 ?_
        obtain ⟨g192, h⟩ := gd_some h
        refine va_sld hx hb hXs hbl hbA I.2.2.1 g192 dL_law_808 ?_
        obtain ⟨q193, eq193⟩ : ∃ z, z = f_O_seed nw (xs (v3 + (1 : Int32)).toNatClampNeg) := ⟨_, rfl⟩
        replace h := lt_e h eq193
        refine call_i (X := []) (wc := (bO G oa na ka aa ra pa sd yd td ow ++ (bV G na nw ++ (bV G ka kp ++ (bA G aa wa ah ++ (bV G wa aw ++ (bT G ra ma rd ++ (bV G ma md ++ (bP G pa tp ++ (bH G sd hh ++ (bY G yd td th ++ (bK G td tr ++ [])))))))))))) (Y := wM G ad s ++ []) (rest := []) XX I hl.1 (c_O_seed l G OK oa na ka aa wa ra ma pa sd yd td ow nw kp ah aw rd md tp hh th tr (xs (v3 + (1 : Int32)).toNatClampNeg) q193.1 q193.2 eq193.symm) kV_L_97 (Rc.mk XX I (q0 := 0) (ci := 11) rfl rfl) rfl rfl (Nat.le_of_ble_eq_true rfl) ⟨rfl, rfl, Nat.le_of_ble_eq_true rfl, Nat.le_of_ble_eq_true rfl⟩ ⟨hc1, hs1⟩ dL_law_809 (fun H locs hz I => ?_)
        replace I : Iv G (fun q : Nat => s0.heap.size ≤ q) s0 H locs ((bO G oa na ka aa ra pa sd yd td ow ++ (bV G na q193.2 ++ (bV G ka kp ++ (bA G aa wa ah ++ (bV G wa aw ++ (bT G ra ma rd ++ (bV G ma md ++ (bP G pa tp ++ (bH G sd hh ++ (bY G yd td th ++ (bK G td tr ++ []))))))))))) ++ (wM G ad s ++ [])) := I
        refine lv_aload_n hx hb dL_law_812 rfl (lv_at hl 2 rfl) ?_
        refine lv_aload_n hx hb dL_law_813 rfl (lv_at hl 0 rfl) ?_
        refine lv_iload_n hx hb dL_law_814 rfl (lv_at hl 3 rfl) ?_
        refine lv_iconst (v := 1) hx hb dL_law_815 (by decide) ?_
        refine lv_iadd hx hb dL_law_816 ?_
        obtain ⟨g194, h⟩ := gd_some h
        refine va_sld hx hb hXs hbl hbA I.2.2.1 g194 dL_law_817 ?_
        obtain ⟨q195, eq195⟩ : ∃ z, z = f_M_seed s (xs (v3 + (1 : Int32)).toNatClampNeg) := ⟨_, rfl⟩
        replace h := lt_e h eq195
        refine call_i (X := (bO G oa na ka aa ra pa sd yd td ow ++ (bV G na q193.2 ++ (bV G ka kp ++ (bA G aa wa ah ++ (bV G wa aw ++ (bT G ra ma rd ++ (bV G ma md ++ (bP G pa tp ++ (bH G sd hh ++ (bY G yd td th ++ (bK G td tr ++ [])))))))))))) (wc := wM G ad s) (Y := []) (rest := [.int q193.1]) XX I hl.1 (c_M_seed l G OK ad s (xs (v3 + (1 : Int32)).toNatClampNeg) q195.1 q195.2 eq195.symm) kV_L_100 (Rc.mk XX I (q0 := 121) (ci := 12) rfl rfl) rfl rfl (Nat.le_of_ble_eq_true rfl) ⟨rfl, rfl, Nat.le_of_ble_eq_true rfl, Nat.le_of_ble_eq_true rfl⟩ ⟨hc1, hs1⟩ dL_law_818 (fun H locs hz I => ?_)
        replace I : Iv G (fun q : Nat => s0.heap.size ≤ q) s0 H locs ((bO G oa na ka aa ra pa sd yd td ow ++ (bV G na q193.2 ++ (bV G ka kp ++ (bA G aa wa ah ++ (bV G wa aw ++ (bT G ra ma rd ++ (bV G ma md ++ (bP G pa tp ++ (bH G sd hh ++ (bY G yd td th ++ (bK G td tr ++ []))))))))))) ++ (wM G ad q195.2 ++ [])) := I
        refine lv_icmp_eq (tgt := 1545) hx hb dL_law_821 (by decide) (fun c1 => ?_) (fun c1 => ?_)
        · replace h := if_t h c1
          obtain ⟨y196, ey196⟩ : ∃ z : Int32, z = v3 + (5 : Int32) := ⟨_, rfl⟩
          replace h := lt_e h ey196
          refine lv_iinc (v := y196) (lv' := [(3, .int y196), (0, .ref b), (1, .ref (oa 0)), (2, .ref (ad 0))]) hx hb dL_law_1545 hl (k := 3) rfl (by rw [ey196]; rfl) (by decide) rfl (fun ls hl => ?_)
          refine lv_goto (tgt := 18) hx hb dL_law_1548 (by decide) ?_
          exact ih _ _ _ _ _ _ _ _ _ _ _ _ _ h _ _ I ls (lv_sub hl [1, 2, 3, 0] rfl)
        · replace h := if_f h c1
          refine lv_iconst (v := 0) hx hb dL_law_824 (by decide) ?_
          exact absurd h (fun q => by cases q)
      replace h := if_f h q19
      by_cases q20 : y2 = (20 : Int32)
      · replace h := if_t h q20
        refine lv_tableIn (tgt := 826) (off := 794) hx hb dL_law_32 (by rw [q20]; decide) (by rw [q20]; decide) (by rw [q20]; rfl) (by decide) ?_
        refine lv_aload_n hx hb dL_law_826 rfl (lv_at hl 1 rfl) ?_
        refine lv_aload_n hx hb dL_law_827 rfl (lv_at hl 0 rfl) ?_
        refine lv_iload_n hx hb dL_law_828 rfl (lv_at hl 3 rfl) ?_
        refine lv_iconst (v := 1) hx hb dL_law_829 (by decide) ?_
        refine lv_iadd hx hb dL_law_830 ?_
        obtain ⟨g197, h⟩ := gd_some h
        refine va_sld hx hb hXs hbl hbA I.2.2.1 g197 dL_law_831 ?_
        refine lv_aload_n hx hb dL_law_832 rfl (lv_at hl 0 rfl) ?_
        refine lv_iload_n hx hb dL_law_833 rfl (lv_at hl 3 rfl) ?_
        refine lv_iconst (v := 2) hx hb dL_law_834 (by decide) ?_
        refine lv_iadd hx hb dL_law_835 ?_
        obtain ⟨g198, h⟩ := gd_some h
        refine va_sld hx hb hXs hbl hbA I.2.2.1 g198 dL_law_836 ?_
        refine lv_aload_n hx hb dL_law_837 rfl (lv_at hl 0 rfl) ?_
        refine lv_iload_n hx hb dL_law_838 rfl (lv_at hl 3 rfl) ?_
        refine lv_iconst (v := 3) hx hb dL_law_839 (by decide) ?_
        refine lv_iadd hx hb dL_law_840 ?_
        obtain ⟨g199, h⟩ := gd_some h
        refine va_sld hx hb hXs hbl hbA I.2.2.1 g199 dL_law_841 ?_
        obtain ⟨r200, s201, s202, q203, h⟩ := bd3_some h
        refine call_l (X := []) (wc := (bO G oa na ka aa ra pa sd yd td ow ++ (bV G na nw ++ (bV G ka kp ++ (bA G aa wa ah ++ (bV G wa aw ++ (bT G ra ma rd ++ (bV G ma md ++ (bP G pa tp ++ (bH G sd hh ++ (bY G yd td th ++ (bK G td tr ++ [])))))))))))) (Y := wM G ad s ++ []) (rest := []) XX I hl.1 (c_O_value l G OK oa na ka aa wa ra ma pa sd yd td fu ow nw kp ah aw rd md tp hh th tr (xs (v3 + (1 : Int32)).toNatClampNeg) (xs (v3 + (2 : Int32)).toNatClampNeg) (xs (v3 + (3 : Int32)).toNatClampNeg) r200 s201 s202 q203) kV_L_101 (Rc.mk XX I (q0 := 0) (ci := 11) rfl rfl) rfl rfl (Nat.le_of_ble_eq_true rfl) ⟨rfl, rfl, Nat.le_of_ble_eq_true rfl, Nat.le_of_ble_eq_true rfl⟩ ⟨hc1, hs1⟩ dL_law_842 (fun H locs  I => ?_)
        replace I : Iv G (fun q : Nat => s0.heap.size ≤ q) s0 H locs ((bO G oa na ka aa ra pa sd yd td ow ++ (bV G na nw ++ (bV G ka kp ++ (bA G aa wa s201 ++ (bV G wa s202 ++ (bT G ra ma rd ++ (bV G ma md ++ (bP G pa tp ++ (bH G sd hh ++ (bY G yd td th ++ (bK G td tr ++ []))))))))))) ++ (wM G ad s ++ [])) := I
        refine lv_aload_n hx hb dL_law_845 rfl (lv_at hl 2 rfl) ?_
        refine lv_aload_n hx hb dL_law_846 rfl (lv_at hl 0 rfl) ?_
        refine lv_iload_n hx hb dL_law_847 rfl (lv_at hl 3 rfl) ?_
        refine lv_iconst (v := 1) hx hb dL_law_848 (by decide) ?_
        refine lv_iadd hx hb dL_law_849 ?_
        obtain ⟨g204, h⟩ := gd_some h
        refine va_sld hx hb hXs hbl hbA I.2.2.1 g204 dL_law_850 ?_
        refine lv_aload_n hx hb dL_law_851 rfl (lv_at hl 0 rfl) ?_
        refine lv_iload_n hx hb dL_law_852 rfl (lv_at hl 3 rfl) ?_
        refine lv_iconst (v := 2) hx hb dL_law_853 (by decide) ?_
        refine lv_iadd hx hb dL_law_854 ?_
        obtain ⟨g205, h⟩ := gd_some h
        refine va_sld hx hb hXs hbl hbA I.2.2.1 g205 dL_law_855 ?_
        refine lv_aload_n hx hb dL_law_856 rfl (lv_at hl 0 rfl) ?_
        refine lv_iload_n hx hb dL_law_857 rfl (lv_at hl 3 rfl) ?_
        refine lv_iconst (v := 3) hx hb dL_law_858 (by decide) ?_
        refine lv_iadd hx hb dL_law_859 ?_
        obtain ⟨g206, h⟩ := gd_some h
        refine va_sld hx hb hXs hbl hbA I.2.2.1 g206 dL_law_860 ?_
        obtain ⟨r207, s208, q209, h⟩ := bd2_some h
        refine call_l (X := (bO G oa na ka aa ra pa sd yd td ow ++ (bV G na nw ++ (bV G ka kp ++ (bA G aa wa s201 ++ (bV G wa s202 ++ (bT G ra ma rd ++ (bV G ma md ++ (bP G pa tp ++ (bH G sd hh ++ (bY G yd td th ++ (bK G td tr ++ [])))))))))))) (wc := wM G ad s) (Y := []) (rest := [.long r200]) XX I hl.1 (c_M_value l G OK ad fu s (xs (v3 + (1 : Int32)).toNatClampNeg) (xs (v3 + (2 : Int32)).toNatClampNeg) (xs (v3 + (3 : Int32)).toNatClampNeg) r207 s208 q209) kV_L_105 (Rc.mk XX I (q0 := 121) (ci := 12) rfl rfl) rfl rfl (Nat.le_of_ble_eq_true rfl) ⟨rfl, rfl, Nat.le_of_ble_eq_true rfl, Nat.le_of_ble_eq_true rfl⟩ ⟨hc1, hs1⟩ dL_law_861 (fun H locs  I => ?_)
        replace I : Iv G (fun q : Nat => s0.heap.size ≤ q) s0 H locs ((bO G oa na ka aa ra pa sd yd td ow ++ (bV G na nw ++ (bV G ka kp ++ (bA G aa wa s201 ++ (bV G wa s202 ++ (bT G ra ma rd ++ (bV G ma md ++ (bP G pa tp ++ (bH G sd hh ++ (bY G yd td th ++ (bK G td tr ++ []))))))))))) ++ (wM G ad s208 ++ [])) := I
        refine W.lcmp hx hb dL_law_864 ?_
        refine lv_if_eq (tgt := 1545) hx hb dL_law_865 (by decide) (fun c1 => ?_) (fun c1 => ?_)
        · replace h := if_t h c1
          obtain ⟨y210, ey210⟩ : ∃ z : Int32, z = v3 + (5 : Int32) := ⟨_, rfl⟩
          replace h := lt_e h ey210
          refine lv_iinc (v := y210) (lv' := [(3, .int y210), (0, .ref b), (1, .ref (oa 0)), (2, .ref (ad 0))]) hx hb dL_law_1545 hl (k := 3) rfl (by rw [ey210]; rfl) (by decide) rfl (fun ls hl => ?_)
          refine lv_goto (tgt := 18) hx hb dL_law_1548 (by decide) ?_
          exact ih _ _ _ _ _ _ _ _ _ _ _ _ _ h _ _ I ls (lv_sub hl [1, 2, 3, 0] rfl)
        · replace h := if_f h c1
          refine lv_iconst (v := 0) hx hb dL_law_868 (by decide) ?_
          exact absurd h (fun q => by cases q)
      replace h := if_f h q20
      by_cases q21 : y2 = (21 : Int32)
      · replace h := if_t h q21
        refine lv_tableIn (tgt := 870) (off := 838) hx hb dL_law_32 (by rw [q21]; decide) (by rw [q21]; decide) (by rw [q21]; rfl) (by decide) ?_
        refine lv_aload_n hx hb dL_law_870 rfl (lv_at hl 1 rfl) ?_
        refine lv_aload_n hx hb dL_law_871 rfl (lv_at hl 0 rfl) ?_
        refine lv_iload_n hx hb dL_law_872 rfl (lv_at hl 3 rfl) ?_
        refine lv_iconst (v := 1) hx hb dL_law_873 (by decide) ?_
        refine lv_iadd hx hb dL_law_874 ?_
        obtain ⟨g211, h⟩ := gd_some h
        refine va_sld hx hb hXs hbl hbA I.2.2.1 g211 dL_law_875 ?_
        refine lv_aload_n hx hb dL_law_876 rfl (lv_at hl 0 rfl) ?_
        refine lv_iload_n hx hb dL_law_877 rfl (lv_at hl 3 rfl) ?_
        refine lv_iconst (v := 2) hx hb dL_law_878 (by decide) ?_
        refine lv_iadd hx hb dL_law_879 ?_
        obtain ⟨g212, h⟩ := gd_some h
        refine va_sld hx hb hXs hbl hbA I.2.2.1 g212 dL_law_880 ?_
        refine lv_aload_n hx hb dL_law_881 rfl (lv_at hl 0 rfl) ?_
        refine lv_iload_n hx hb dL_law_882 rfl (lv_at hl 3 rfl) ?_
        refine lv_iconst (v := 3) hx hb dL_law_883 (by decide) ?_
        refine lv_iadd hx hb dL_law_884 ?_
        obtain ⟨g213, h⟩ := gd_some h
        refine va_sld hx hb hXs hbl hbA I.2.2.1 g213 dL_law_885 ?_
        obtain ⟨r214, s215, s216, q217, h⟩ := bd3_some h
        refine call_l (X := []) (wc := (bO G oa na ka aa ra pa sd yd td ow ++ (bV G na nw ++ (bV G ka kp ++ (bA G aa wa ah ++ (bV G wa aw ++ (bT G ra ma rd ++ (bV G ma md ++ (bP G pa tp ++ (bH G sd hh ++ (bY G yd td th ++ (bK G td tr ++ [])))))))))))) (Y := wM G ad s ++ []) (rest := []) XX I hl.1 (c_O_best l G OK oa na ka aa wa ra ma pa sd yd td fu ow nw kp ah aw rd md tp hh th tr (xs (v3 + (1 : Int32)).toNatClampNeg) (xs (v3 + (2 : Int32)).toNatClampNeg) (xs (v3 + (3 : Int32)).toNatClampNeg) r214 s215 s216 q217) kV_L_106 (Rc.mk XX I (q0 := 0) (ci := 11) rfl rfl) rfl rfl (Nat.le_of_ble_eq_true rfl) ⟨rfl, rfl, Nat.le_of_ble_eq_true rfl, Nat.le_of_ble_eq_true rfl⟩ ⟨hc1, hs1⟩ dL_law_886 (fun H locs  I => ?_)
        replace I : Iv G (fun q : Nat => s0.heap.size ≤ q) s0 H locs ((bO G oa na ka aa ra pa sd yd td ow ++ (bV G na nw ++ (bV G ka kp ++ (bA G aa wa s215 ++ (bV G wa s216 ++ (bT G ra ma rd ++ (bV G ma md ++ (bP G pa tp ++ (bH G sd hh ++ (bY G yd td th ++ (bK G td tr ++ []))))))))))) ++ (wM G ad s ++ [])) := I
        refine lv_aload_n hx hb dL_law_889 rfl (lv_at hl 2 rfl) ?_
        refine lv_aload_n hx hb dL_law_890 rfl (lv_at hl 0 rfl) ?_
        refine lv_iload_n hx hb dL_law_891 rfl (lv_at hl 3 rfl) ?_
        refine lv_iconst (v := 1) hx hb dL_law_892 (by decide) ?_
        refine lv_iadd hx hb dL_law_893 ?_
        obtain ⟨g218, h⟩ := gd_some h
        refine va_sld hx hb hXs hbl hbA I.2.2.1 g218 dL_law_894 ?_
        refine lv_aload_n hx hb dL_law_895 rfl (lv_at hl 0 rfl) ?_
        refine lv_iload_n hx hb dL_law_896 rfl (lv_at hl 3 rfl) ?_
        refine lv_iconst (v := 2) hx hb dL_law_897 (by decide) ?_
        refine lv_iadd hx hb dL_law_898 ?_
        obtain ⟨g219, h⟩ := gd_some h
        refine va_sld hx hb hXs hbl hbA I.2.2.1 g219 dL_law_899 ?_
        refine lv_aload_n hx hb dL_law_900 rfl (lv_at hl 0 rfl) ?_
        refine lv_iload_n hx hb dL_law_901 rfl (lv_at hl 3 rfl) ?_
        refine lv_iconst (v := 3) hx hb dL_law_902 (by decide) ?_
        refine lv_iadd hx hb dL_law_903 ?_
        obtain ⟨g220, h⟩ := gd_some h
        refine va_sld hx hb hXs hbl hbA I.2.2.1 g220 dL_law_904 ?_
        obtain ⟨r221, s222, q223, h⟩ := bd2_some h
        refine call_l (X := (bO G oa na ka aa ra pa sd yd td ow ++ (bV G na nw ++ (bV G ka kp ++ (bA G aa wa s215 ++ (bV G wa s216 ++ (bT G ra ma rd ++ (bV G ma md ++ (bP G pa tp ++ (bH G sd hh ++ (bY G yd td th ++ (bK G td tr ++ [])))))))))))) (wc := wM G ad s) (Y := []) (rest := [.long r214]) XX I hl.1 (c_M_best l G OK ad fu s (xs (v3 + (1 : Int32)).toNatClampNeg) (xs (v3 + (2 : Int32)).toNatClampNeg) (xs (v3 + (3 : Int32)).toNatClampNeg) r221 s222 q223) kV_L_109 (Rc.mk XX I (q0 := 121) (ci := 12) rfl rfl) rfl rfl (Nat.le_of_ble_eq_true rfl) ⟨rfl, rfl, Nat.le_of_ble_eq_true rfl, Nat.le_of_ble_eq_true rfl⟩ ⟨hc1, hs1⟩ dL_law_905 (fun H locs  I => ?_)
        replace I : Iv G (fun q : Nat => s0.heap.size ≤ q) s0 H locs ((bO G oa na ka aa ra pa sd yd td ow ++ (bV G na nw ++ (bV G ka kp ++ (bA G aa wa s215 ++ (bV G wa s216 ++ (bT G ra ma rd ++ (bV G ma md ++ (bP G pa tp ++ (bH G sd hh ++ (bY G yd td th ++ (bK G td tr ++ []))))))))))) ++ (wM G ad s222 ++ [])) := I
        refine W.lcmp hx hb dL_law_908 ?_
        refine lv_if_eq (tgt := 1545) hx hb dL_law_909 (by decide) (fun c1 => ?_) (fun c1 => ?_)
        · replace h := if_t h c1
          obtain ⟨y224, ey224⟩ : ∃ z : Int32, z = v3 + (5 : Int32) := ⟨_, rfl⟩
          replace h := lt_e h ey224
          refine lv_iinc (v := y224) (lv' := [(3, .int y224), (0, .ref b), (1, .ref (oa 0)), (2, .ref (ad 0))]) hx hb dL_law_1545 hl (k := 3) rfl (by rw [ey224]; rfl) (by decide) rfl (fun ls hl => ?_)
          refine lv_goto (tgt := 18) hx hb dL_law_1548 (by decide) ?_
          exact ih _ _ _ _ _ _ _ _ _ _ _ _ _ h _ _ I ls (lv_sub hl [1, 2, 3, 0] rfl)
        · replace h := if_f h c1
          refine lv_iconst (v := 0) hx hb dL_law_912 (by decide) ?_
          exact absurd h (fun q => by cases q)
      replace h := if_f h q21
      by_cases q22 : y2 = (22 : Int32)
      · replace h := if_t h q22
        refine lv_tableIn (tgt := 914) (off := 882) hx hb dL_law_32 (by rw [q22]; decide) (by rw [q22]; decide) (by rw [q22]; rfl) (by decide) ?_
        refine lv_aload_n hx hb dL_law_914 rfl (lv_at hl 1 rfl) ?_
        refine lv_aload_n hx hb dL_law_915 rfl (lv_at hl 0 rfl) ?_
        refine lv_iload_n hx hb dL_law_916 rfl (lv_at hl 3 rfl) ?_
        refine lv_iconst (v := 1) hx hb dL_law_917 (by decide) ?_
        refine lv_iadd hx hb dL_law_918 ?_
        obtain ⟨g225, h⟩ := gd_some h
        refine va_sld hx hb hXs hbl hbA I.2.2.1 g225 dL_law_919 ?_
        refine lv_aload_n hx hb dL_law_920 rfl (lv_at hl 0 rfl) ?_
        refine lv_iload_n hx hb dL_law_921 rfl (lv_at hl 3 rfl) ?_
        refine lv_iconst (v := 2) hx hb dL_law_922 (by decide) ?_
        refine lv_iadd hx hb dL_law_923 ?_
        obtain ⟨g226, h⟩ := gd_some h
        refine va_sld hx hb hXs hbl hbA I.2.2.1 g226 dL_law_924 ?_
        refine lv_aload_n hx hb dL_law_925 rfl (lv_at hl 0 rfl) ?_
        refine lv_iload_n hx hb dL_law_926 rfl (lv_at hl 3 rfl) ?_
        refine lv_iconst (v := 3) hx hb dL_law_927 (by decide) ?_
        refine lv_iadd hx hb dL_law_928 ?_
        obtain ⟨g227, h⟩ := gd_some h
        refine va_sld hx hb hXs hbl hbA I.2.2.1 g227 dL_law_929 ?_
        obtain ⟨r228, s229, s230, q231, h⟩ := bd3_some h
        refine call_i (X := []) (wc := (bO G oa na ka aa ra pa sd yd td ow ++ (bV G na nw ++ (bV G ka kp ++ (bA G aa wa ah ++ (bV G wa aw ++ (bT G ra ma rd ++ (bV G ma md ++ (bP G pa tp ++ (bH G sd hh ++ (bY G yd td th ++ (bK G td tr ++ [])))))))))))) (Y := wM G ad s ++ []) (rest := []) XX I hl.1 (c_O_should l G OK oa na ka aa wa ra ma pa sd yd td fu ow nw kp ah aw rd md tp hh th tr (xs (v3 + (1 : Int32)).toNatClampNeg) (xs (v3 + (2 : Int32)).toNatClampNeg) (xs (v3 + (3 : Int32)).toNatClampNeg) r228 s229 s230 q231) kV_L_110 (Rc.mk XX I (q0 := 0) (ci := 11) rfl rfl) rfl rfl (Nat.le_of_ble_eq_true rfl) ⟨rfl, rfl, Nat.le_of_ble_eq_true rfl, Nat.le_of_ble_eq_true rfl⟩ ⟨hc1, hs1⟩ dL_law_930 (fun H locs hz I => ?_)
        replace I : Iv G (fun q : Nat => s0.heap.size ≤ q) s0 H locs ((bO G oa na ka aa ra pa sd yd td ow ++ (bV G na nw ++ (bV G ka kp ++ (bA G aa wa s229 ++ (bV G wa s230 ++ (bT G ra ma rd ++ (bV G ma md ++ (bP G pa tp ++ (bH G sd hh ++ (bY G yd td th ++ (bK G td tr ++ []))))))))))) ++ (wM G ad s ++ [])) := I
        refine lv_aload_n hx hb dL_law_933 rfl (lv_at hl 2 rfl) ?_
        refine lv_aload_n hx hb dL_law_934 rfl (lv_at hl 0 rfl) ?_
        refine lv_iload_n hx hb dL_law_935 rfl (lv_at hl 3 rfl) ?_
        refine lv_iconst (v := 1) hx hb dL_law_936 (by decide) ?_
        refine lv_iadd hx hb dL_law_937 ?_
        obtain ⟨g232, h⟩ := gd_some h
        refine va_sld hx hb hXs hbl hbA I.2.2.1 g232 dL_law_938 ?_
        refine lv_aload_n hx hb dL_law_939 rfl (lv_at hl 0 rfl) ?_
        refine lv_iload_n hx hb dL_law_940 rfl (lv_at hl 3 rfl) ?_
        refine lv_iconst (v := 2) hx hb dL_law_941 (by decide) ?_
        refine lv_iadd hx hb dL_law_942 ?_
        obtain ⟨g233, h⟩ := gd_some h
        refine va_sld hx hb hXs hbl hbA I.2.2.1 g233 dL_law_943 ?_
        refine lv_aload_n hx hb dL_law_944 rfl (lv_at hl 0 rfl) ?_
        refine lv_iload_n hx hb dL_law_945 rfl (lv_at hl 3 rfl) ?_
        refine lv_iconst (v := 3) hx hb dL_law_946 (by decide) ?_
        refine lv_iadd hx hb dL_law_947 ?_
        obtain ⟨g234, h⟩ := gd_some h
        refine va_sld hx hb hXs hbl hbA I.2.2.1 g234 dL_law_948 ?_
        obtain ⟨r235, s236, q237, h⟩ := bd2_some h
        refine call_i (X := (bO G oa na ka aa ra pa sd yd td ow ++ (bV G na nw ++ (bV G ka kp ++ (bA G aa wa s229 ++ (bV G wa s230 ++ (bT G ra ma rd ++ (bV G ma md ++ (bP G pa tp ++ (bH G sd hh ++ (bY G yd td th ++ (bK G td tr ++ [])))))))))))) (wc := wM G ad s) (Y := []) (rest := [.int r228]) XX I hl.1 (c_M_should l G OK ad fu s (xs (v3 + (1 : Int32)).toNatClampNeg) (xs (v3 + (2 : Int32)).toNatClampNeg) (xs (v3 + (3 : Int32)).toNatClampNeg) r235 s236 q237) kV_L_113 (Rc.mk XX I (q0 := 121) (ci := 12) rfl rfl) rfl rfl (Nat.le_of_ble_eq_true rfl) ⟨rfl, rfl, Nat.le_of_ble_eq_true rfl, Nat.le_of_ble_eq_true rfl⟩ ⟨hc1, hs1⟩ dL_law_949 (fun H locs hz I => ?_)
        replace I : Iv G (fun q : Nat => s0.heap.size ≤ q) s0 H locs ((bO G oa na ka aa ra pa sd yd td ow ++ (bV G na nw ++ (bV G ka kp ++ (bA G aa wa s229 ++ (bV G wa s230 ++ (bT G ra ma rd ++ (bV G ma md ++ (bP G pa tp ++ (bH G sd hh ++ (bY G yd td th ++ (bK G td tr ++ []))))))))))) ++ (wM G ad s236 ++ [])) := I
        refine lv_icmp_eq (tgt := 1545) hx hb dL_law_952 (by decide) (fun c1 => ?_) (fun c1 => ?_)
        · replace h := if_t h c1
          obtain ⟨y238, ey238⟩ : ∃ z : Int32, z = v3 + (5 : Int32) := ⟨_, rfl⟩
          replace h := lt_e h ey238
          refine lv_iinc (v := y238) (lv' := [(3, .int y238), (0, .ref b), (1, .ref (oa 0)), (2, .ref (ad 0))]) hx hb dL_law_1545 hl (k := 3) rfl (by rw [ey238]; rfl) (by decide) rfl (fun ls hl => ?_)
          refine lv_goto (tgt := 18) hx hb dL_law_1548 (by decide) ?_
          exact ih _ _ _ _ _ _ _ _ _ _ _ _ _ h _ _ I ls (lv_sub hl [1, 2, 3, 0] rfl)
        · replace h := if_f h c1
          refine lv_iconst (v := 0) hx hb dL_law_955 (by decide) ?_
          exact absurd h (fun q => by cases q)
      replace h := if_f h q22
      by_cases q23 : y2 = (23 : Int32)
      · replace h := if_t h q23
        refine lv_tableIn (tgt := 957) (off := 925) hx hb dL_law_32 (by rw [q23]; decide) (by rw [q23]; decide) (by rw [q23]; rfl) (by decide) ?_
        refine lv_aload_n hx hb dL_law_957 rfl (lv_at hl 1 rfl) ?_
        refine lv_aload_n hx hb dL_law_958 rfl (lv_at hl 0 rfl) ?_
        refine lv_iload_n hx hb dL_law_959 rfl (lv_at hl 3 rfl) ?_
        refine lv_iconst (v := 1) hx hb dL_law_960 (by decide) ?_
        refine lv_iadd hx hb dL_law_961 ?_
        obtain ⟨g239, h⟩ := gd_some h
        refine va_sld hx hb hXs hbl hbA I.2.2.1 g239 dL_law_962 ?_
        refine lv_aload_n hx hb dL_law_963 rfl (lv_at hl 0 rfl) ?_
        refine lv_iload_n hx hb dL_law_964 rfl (lv_at hl 3 rfl) ?_
        refine lv_iconst (v := 2) hx hb dL_law_965 (by decide) ?_
        refine lv_iadd hx hb dL_law_966 ?_
        obtain ⟨g240, h⟩ := gd_some h
        refine va_sld hx hb hXs hbl hbA I.2.2.1 g240 dL_law_967 ?_
        obtain ⟨r241, s242, s243, q244, h⟩ := bd3_some h
        refine call_i (X := []) (wc := (bO G oa na ka aa ra pa sd yd td ow ++ (bV G na nw ++ (bV G ka kp ++ (bA G aa wa ah ++ (bV G wa aw ++ (bT G ra ma rd ++ (bV G ma md ++ (bP G pa tp ++ (bH G sd hh ++ (bY G yd td th ++ (bK G td tr ++ [])))))))))))) (Y := wM G ad s ++ []) (rest := []) XX I hl.1 (c_O_barOf l G OK oa na ka aa wa ra ma pa sd yd td fu ow nw kp ah aw rd md tp hh th tr (xs (v3 + (1 : Int32)).toNatClampNeg) (xs (v3 + (2 : Int32)).toNatClampNeg) r241 s242 s243 q244) kV_L_114 (Rc.mk XX I (q0 := 0) (ci := 11) rfl rfl) rfl rfl (Nat.le_of_ble_eq_true rfl) ⟨rfl, rfl, Nat.le_of_ble_eq_true rfl, Nat.le_of_ble_eq_true rfl⟩ ⟨hc1, hs1⟩ dL_law_968 (fun H locs hz I => ?_)
        replace I : Iv G (fun q : Nat => s0.heap.size ≤ q) s0 H locs ((bO G oa na ka aa ra pa sd yd td ow ++ (bV G na nw ++ (bV G ka kp ++ (bA G aa wa s242 ++ (bV G wa s243 ++ (bT G ra ma rd ++ (bV G ma md ++ (bP G pa tp ++ (bH G sd hh ++ (bY G yd td th ++ (bK G td tr ++ []))))))))))) ++ (wM G ad s ++ [])) := I
        refine lv_aload_n hx hb dL_law_971 rfl (lv_at hl 2 rfl) ?_
        refine lv_aload_n hx hb dL_law_972 rfl (lv_at hl 0 rfl) ?_
        refine lv_iload_n hx hb dL_law_973 rfl (lv_at hl 3 rfl) ?_
        refine lv_iconst (v := 1) hx hb dL_law_974 (by decide) ?_
        refine lv_iadd hx hb dL_law_975 ?_
        obtain ⟨g245, h⟩ := gd_some h
        refine va_sld hx hb hXs hbl hbA I.2.2.1 g245 dL_law_976 ?_
        refine lv_aload_n hx hb dL_law_977 rfl (lv_at hl 0 rfl) ?_
        refine lv_iload_n hx hb dL_law_978 rfl (lv_at hl 3 rfl) ?_
        refine lv_iconst (v := 2) hx hb dL_law_979 (by decide) ?_
        refine lv_iadd hx hb dL_law_980 ?_
        obtain ⟨g246, h⟩ := gd_some h
        refine va_sld hx hb hXs hbl hbA I.2.2.1 g246 dL_law_981 ?_
        obtain ⟨r247, s248, q249, h⟩ := bd2_some h
        refine call_i (X := (bO G oa na ka aa ra pa sd yd td ow ++ (bV G na nw ++ (bV G ka kp ++ (bA G aa wa s242 ++ (bV G wa s243 ++ (bT G ra ma rd ++ (bV G ma md ++ (bP G pa tp ++ (bH G sd hh ++ (bY G yd td th ++ (bK G td tr ++ [])))))))))))) (wc := wM G ad s) (Y := []) (rest := [.int r241]) XX I hl.1 (c_M_barOf l G OK ad fu s (xs (v3 + (1 : Int32)).toNatClampNeg) (xs (v3 + (2 : Int32)).toNatClampNeg) r247 s248 q249) kV_L_117 (Rc.mk XX I (q0 := 121) (ci := 12) rfl rfl) rfl rfl (Nat.le_of_ble_eq_true rfl) ⟨rfl, rfl, Nat.le_of_ble_eq_true rfl, Nat.le_of_ble_eq_true rfl⟩ ⟨hc1, hs1⟩ dL_law_982 (fun H locs hz I => ?_)
        replace I : Iv G (fun q : Nat => s0.heap.size ≤ q) s0 H locs ((bO G oa na ka aa ra pa sd yd td ow ++ (bV G na nw ++ (bV G ka kp ++ (bA G aa wa s242 ++ (bV G wa s243 ++ (bT G ra ma rd ++ (bV G ma md ++ (bP G pa tp ++ (bH G sd hh ++ (bY G yd td th ++ (bK G td tr ++ []))))))))))) ++ (wM G ad s248 ++ [])) := I
        refine lv_icmp_eq (tgt := 1545) hx hb dL_law_985 (by decide) (fun c1 => ?_) (fun c1 => ?_)
        · replace h := if_t h c1
          obtain ⟨y250, ey250⟩ : ∃ z : Int32, z = v3 + (5 : Int32) := ⟨_, rfl⟩
          replace h := lt_e h ey250
          refine lv_iinc (v := y250) (lv' := [(3, .int y250), (0, .ref b), (1, .ref (oa 0)), (2, .ref (ad 0))]) hx hb dL_law_1545 hl (k := 3) rfl (by rw [ey250]; rfl) (by decide) rfl (fun ls hl => ?_)
          refine lv_goto (tgt := 18) hx hb dL_law_1548 (by decide) ?_
          exact ih _ _ _ _ _ _ _ _ _ _ _ _ _ h _ _ I ls (lv_sub hl [1, 2, 3, 0] rfl)
        · replace h := if_f h c1
          refine lv_iconst (v := 0) hx hb dL_law_988 (by decide) ?_
          exact absurd h (fun q => by cases q)
      replace h := if_f h q23
      by_cases q24 : y2 = (24 : Int32)
      · replace h := if_t h q24
        refine lv_tableIn (tgt := 990) (off := 958) hx hb dL_law_32 (by rw [q24]; decide) (by rw [q24]; decide) (by rw [q24]; rfl) (by decide) ?_
        refine lv_aload_n hx hb dL_law_990 rfl (lv_at hl 1 rfl) ?_
        refine lv_aload_n hx hb dL_law_991 rfl (lv_at hl 0 rfl) ?_
        refine lv_iload_n hx hb dL_law_992 rfl (lv_at hl 3 rfl) ?_
        refine lv_iconst (v := 1) hx hb dL_law_993 (by decide) ?_
        refine lv_iadd hx hb dL_law_994 ?_
        obtain ⟨g251, h⟩ := gd_some h
        refine va_sld hx hb hXs hbl hbA I.2.2.1 g251 dL_law_995 ?_
        refine lv_aload_n hx hb dL_law_996 rfl (lv_at hl 0 rfl) ?_
        refine lv_iload_n hx hb dL_law_997 rfl (lv_at hl 3 rfl) ?_
        refine lv_iconst (v := 2) hx hb dL_law_998 (by decide) ?_
        refine lv_iadd hx hb dL_law_999 ?_
        obtain ⟨g252, h⟩ := gd_some h
        refine va_sld hx hb hXs hbl hbA I.2.2.1 g252 dL_law_1000 ?_
        obtain ⟨r253, s254, s255, q256, h⟩ := bd3_some h
        refine call_i (X := []) (wc := (bO G oa na ka aa ra pa sd yd td ow ++ (bV G na nw ++ (bV G ka kp ++ (bA G aa wa ah ++ (bV G wa aw ++ (bT G ra ma rd ++ (bV G ma md ++ (bP G pa tp ++ (bH G sd hh ++ (bY G yd td th ++ (bK G td tr ++ [])))))))))))) (Y := wM G ad s ++ []) (rest := []) XX I hl.1 (c_O_lets l G OK oa na ka aa wa ra ma pa sd yd td fu ow nw kp ah aw rd md tp hh th tr (xs (v3 + (1 : Int32)).toNatClampNeg) (xs (v3 + (2 : Int32)).toNatClampNeg) r253 s254 s255 q256) kV_L_118 (Rc.mk XX I (q0 := 0) (ci := 11) rfl rfl) rfl rfl (Nat.le_of_ble_eq_true rfl) ⟨rfl, rfl, Nat.le_of_ble_eq_true rfl, Nat.le_of_ble_eq_true rfl⟩ ⟨hc1, hs1⟩ dL_law_1001 (fun H locs hz I => ?_)
        replace I : Iv G (fun q : Nat => s0.heap.size ≤ q) s0 H locs ((bO G oa na ka aa ra pa sd yd td ow ++ (bV G na nw ++ (bV G ka kp ++ (bA G aa wa s254 ++ (bV G wa s255 ++ (bT G ra ma rd ++ (bV G ma md ++ (bP G pa tp ++ (bH G sd hh ++ (bY G yd td th ++ (bK G td tr ++ []))))))))))) ++ (wM G ad s ++ [])) := I
        refine lv_aload_n hx hb dL_law_1004 rfl (lv_at hl 2 rfl) ?_
        refine lv_aload_n hx hb dL_law_1005 rfl (lv_at hl 0 rfl) ?_
        refine lv_iload_n hx hb dL_law_1006 rfl (lv_at hl 3 rfl) ?_
        refine lv_iconst (v := 1) hx hb dL_law_1007 (by decide) ?_
        refine lv_iadd hx hb dL_law_1008 ?_
        obtain ⟨g257, h⟩ := gd_some h
        refine va_sld hx hb hXs hbl hbA I.2.2.1 g257 dL_law_1009 ?_
        refine lv_aload_n hx hb dL_law_1010 rfl (lv_at hl 0 rfl) ?_
        refine lv_iload_n hx hb dL_law_1011 rfl (lv_at hl 3 rfl) ?_
        refine lv_iconst (v := 2) hx hb dL_law_1012 (by decide) ?_
        refine lv_iadd hx hb dL_law_1013 ?_
        obtain ⟨g258, h⟩ := gd_some h
        refine va_sld hx hb hXs hbl hbA I.2.2.1 g258 dL_law_1014 ?_
        obtain ⟨r259, s260, q261, h⟩ := bd2_some h
        refine call_i (X := (bO G oa na ka aa ra pa sd yd td ow ++ (bV G na nw ++ (bV G ka kp ++ (bA G aa wa s254 ++ (bV G wa s255 ++ (bT G ra ma rd ++ (bV G ma md ++ (bP G pa tp ++ (bH G sd hh ++ (bY G yd td th ++ (bK G td tr ++ [])))))))))))) (wc := wM G ad s) (Y := []) (rest := [.int r253]) XX I hl.1 (c_M_lets l G OK ad fu s (xs (v3 + (1 : Int32)).toNatClampNeg) (xs (v3 + (2 : Int32)).toNatClampNeg) r259 s260 q261) kV_L_121 (Rc.mk XX I (q0 := 121) (ci := 12) rfl rfl) rfl rfl (Nat.le_of_ble_eq_true rfl) ⟨rfl, rfl, Nat.le_of_ble_eq_true rfl, Nat.le_of_ble_eq_true rfl⟩ ⟨hc1, hs1⟩ dL_law_1015 (fun H locs hz I => ?_)
        replace I : Iv G (fun q : Nat => s0.heap.size ≤ q) s0 H locs ((bO G oa na ka aa ra pa sd yd td ow ++ (bV G na nw ++ (bV G ka kp ++ (bA G aa wa s254 ++ (bV G wa s255 ++ (bT G ra ma rd ++ (bV G ma md ++ (bP G pa tp ++ (bH G sd hh ++ (bY G yd td th ++ (bK G td tr ++ []))))))))))) ++ (wM G ad s260 ++ [])) := I
        refine lv_icmp_eq (tgt := 1545) hx hb dL_law_1018 (by decide) (fun c1 => ?_) (fun c1 => ?_)
        · replace h := if_t h c1
          obtain ⟨y262, ey262⟩ : ∃ z : Int32, z = v3 + (5 : Int32) := ⟨_, rfl⟩
          replace h := lt_e h ey262
          refine lv_iinc (v := y262) (lv' := [(3, .int y262), (0, .ref b), (1, .ref (oa 0)), (2, .ref (ad 0))]) hx hb dL_law_1545 hl (k := 3) rfl (by rw [ey262]; rfl) (by decide) rfl (fun ls hl => ?_)
          refine lv_goto (tgt := 18) hx hb dL_law_1548 (by decide) ?_
          exact ih _ _ _ _ _ _ _ _ _ _ _ _ _ h _ _ I ls (lv_sub hl [1, 2, 3, 0] rfl)
        · replace h := if_f h c1
          refine lv_iconst (v := 0) hx hb dL_law_1021 (by decide) ?_
          exact absurd h (fun q => by cases q)
      replace h := if_f h q24
      by_cases q25 : y2 = (25 : Int32)
      · replace h := if_t h q25
        refine lv_tableIn (tgt := 1023) (off := 991) hx hb dL_law_32 (by rw [q25]; decide) (by rw [q25]; decide) (by rw [q25]; rfl) (by decide) ?_
        refine lv_aload_n hx hb dL_law_1023 rfl (lv_at hl 1 rfl) ?_
        refine lv_aload_n hx hb dL_law_1024 rfl (lv_at hl 0 rfl) ?_
        refine lv_iload_n hx hb dL_law_1025 rfl (lv_at hl 3 rfl) ?_
        refine lv_iconst (v := 1) hx hb dL_law_1026 (by decide) ?_
        refine lv_iadd hx hb dL_law_1027 ?_
        obtain ⟨g263, h⟩ := gd_some h
        refine va_sld hx hb hXs hbl hbA I.2.2.1 g263 dL_law_1028 ?_
        obtain ⟨r264, s265, s266, q267, h⟩ := bd3_some h
        refine call_i (X := []) (wc := (bO G oa na ka aa ra pa sd yd td ow ++ (bV G na nw ++ (bV G ka kp ++ (bA G aa wa ah ++ (bV G wa aw ++ (bT G ra ma rd ++ (bV G ma md ++ (bP G pa tp ++ (bH G sd hh ++ (bY G yd td th ++ (bK G td tr ++ [])))))))))))) (Y := wM G ad s ++ []) (rest := []) XX I hl.1 (c_O_harm l G OK oa na ka aa wa ra ma pa sd yd td fu ow nw kp ah aw rd md tp hh th tr (xs (v3 + (1 : Int32)).toNatClampNeg) r264 s265 s266 q267) kV_L_122 (Rc.mk XX I (q0 := 0) (ci := 11) rfl rfl) rfl rfl (Nat.le_of_ble_eq_true rfl) ⟨rfl, rfl, Nat.le_of_ble_eq_true rfl, Nat.le_of_ble_eq_true rfl⟩ ⟨hc1, hs1⟩ dL_law_1029 (fun H locs hz I => ?_)
        replace I : Iv G (fun q : Nat => s0.heap.size ≤ q) s0 H locs ((bO G oa na ka aa ra pa sd yd td ow ++ (bV G na nw ++ (bV G ka kp ++ (bA G aa wa s265 ++ (bV G wa s266 ++ (bT G ra ma rd ++ (bV G ma md ++ (bP G pa tp ++ (bH G sd hh ++ (bY G yd td th ++ (bK G td tr ++ []))))))))))) ++ (wM G ad s ++ [])) := I
        refine lv_aload_n hx hb dL_law_1032 rfl (lv_at hl 2 rfl) ?_
        refine lv_aload_n hx hb dL_law_1033 rfl (lv_at hl 0 rfl) ?_
        refine lv_iload_n hx hb dL_law_1034 rfl (lv_at hl 3 rfl) ?_
        refine lv_iconst (v := 1) hx hb dL_law_1035 (by decide) ?_
        refine lv_iadd hx hb dL_law_1036 ?_
        obtain ⟨g268, h⟩ := gd_some h
        refine va_sld hx hb hXs hbl hbA I.2.2.1 g268 dL_law_1037 ?_
        obtain ⟨r269, s270, q271, h⟩ := bd2_some h
        refine call_i (X := (bO G oa na ka aa ra pa sd yd td ow ++ (bV G na nw ++ (bV G ka kp ++ (bA G aa wa s265 ++ (bV G wa s266 ++ (bT G ra ma rd ++ (bV G ma md ++ (bP G pa tp ++ (bH G sd hh ++ (bY G yd td th ++ (bK G td tr ++ [])))))))))))) (wc := wM G ad s) (Y := []) (rest := [.int r264]) XX I hl.1 (c_M_harm l G OK ad fu s (xs (v3 + (1 : Int32)).toNatClampNeg) r269 s270 q271) kV_L_125 (Rc.mk XX I (q0 := 121) (ci := 12) rfl rfl) rfl rfl (Nat.le_of_ble_eq_true rfl) ⟨rfl, rfl, Nat.le_of_ble_eq_true rfl, Nat.le_of_ble_eq_true rfl⟩ ⟨hc1, hs1⟩ dL_law_1038 (fun H locs hz I => ?_)
        replace I : Iv G (fun q : Nat => s0.heap.size ≤ q) s0 H locs ((bO G oa na ka aa ra pa sd yd td ow ++ (bV G na nw ++ (bV G ka kp ++ (bA G aa wa s265 ++ (bV G wa s266 ++ (bT G ra ma rd ++ (bV G ma md ++ (bP G pa tp ++ (bH G sd hh ++ (bY G yd td th ++ (bK G td tr ++ []))))))))))) ++ (wM G ad s270 ++ [])) := I
        refine lv_icmp_eq (tgt := 1545) hx hb dL_law_1041 (by decide) (fun c1 => ?_) (fun c1 => ?_)
        · replace h := if_t h c1
          obtain ⟨y272, ey272⟩ : ∃ z : Int32, z = v3 + (5 : Int32) := ⟨_, rfl⟩
          replace h := lt_e h ey272
          refine lv_iinc (v := y272) (lv' := [(3, .int y272), (0, .ref b), (1, .ref (oa 0)), (2, .ref (ad 0))]) hx hb dL_law_1545 hl (k := 3) rfl (by rw [ey272]; rfl) (by decide) rfl (fun ls hl => ?_)
          refine lv_goto (tgt := 18) hx hb dL_law_1548 (by decide) ?_
          exact ih _ _ _ _ _ _ _ _ _ _ _ _ _ h _ _ I ls (lv_sub hl [1, 2, 3, 0] rfl)
        · replace h := if_f h c1
          refine lv_iconst (v := 0) hx hb dL_law_1044 (by decide) ?_
          exact absurd h (fun q => by cases q)
      replace h := if_f h q25
      by_cases q26 : y2 = (26 : Int32)
      · replace h := if_t h q26
        refine lv_tableIn (tgt := 1046) (off := 1014) hx hb dL_law_32 (by rw [q26]; decide) (by rw [q26]; decide) (by rw [q26]; rfl) (by decide) ?_
        refine lv_aload_n hx hb dL_law_1046 rfl (lv_at hl 1 rfl) ?_
        refine lv_aload_n hx hb dL_law_1047 rfl (lv_at hl 0 rfl) ?_
        refine lv_iload_n hx hb dL_law_1048 rfl (lv_at hl 3 rfl) ?_
        refine lv_iconst (v := 1) hx hb dL_law_1049 (by decide) ?_
        refine lv_iadd hx hb dL_law_1050 ?_
        obtain ⟨g273, h⟩ := gd_some h
        refine va_sld hx hb hXs hbl hbA I.2.2.1 g273 dL_law_1051 ?_
        refine lv_aload_n hx hb dL_law_1052 rfl (lv_at hl 0 rfl) ?_
        refine lv_iload_n hx hb dL_law_1053 rfl (lv_at hl 3 rfl) ?_
        refine lv_iconst (v := 2) hx hb dL_law_1054 (by decide) ?_
        refine lv_iadd hx hb dL_law_1055 ?_
        obtain ⟨g274, h⟩ := gd_some h
        refine va_sld hx hb hXs hbl hbA I.2.2.1 g274 dL_law_1056 ?_
        obtain ⟨r275, s276, s277, q278, h⟩ := bd3_some h
        refine call_l (X := []) (wc := (bO G oa na ka aa ra pa sd yd td ow ++ (bV G na nw ++ (bV G ka kp ++ (bA G aa wa ah ++ (bV G wa aw ++ (bT G ra ma rd ++ (bV G ma md ++ (bP G pa tp ++ (bH G sd hh ++ (bY G yd td th ++ (bK G td tr ++ [])))))))))))) (Y := wM G ad s ++ []) (rest := []) XX I hl.1 (c_O_spoilt l G OK oa na ka aa wa ra ma pa sd yd td fu ow nw kp ah aw rd md tp hh th tr (xs (v3 + (1 : Int32)).toNatClampNeg) (xs (v3 + (2 : Int32)).toNatClampNeg) r275 s276 s277 q278) kV_L_126 (Rc.mk XX I (q0 := 0) (ci := 11) rfl rfl) rfl rfl (Nat.le_of_ble_eq_true rfl) ⟨rfl, rfl, Nat.le_of_ble_eq_true rfl, Nat.le_of_ble_eq_true rfl⟩ ⟨hc1, hs1⟩ dL_law_1057 (fun H locs  I => ?_)
        replace I : Iv G (fun q : Nat => s0.heap.size ≤ q) s0 H locs ((bO G oa na ka aa ra pa sd yd td ow ++ (bV G na nw ++ (bV G ka kp ++ (bA G aa wa s276 ++ (bV G wa s277 ++ (bT G ra ma rd ++ (bV G ma md ++ (bP G pa tp ++ (bH G sd hh ++ (bY G yd td th ++ (bK G td tr ++ []))))))))))) ++ (wM G ad s ++ [])) := I
        refine lv_aload_n hx hb dL_law_1060 rfl (lv_at hl 2 rfl) ?_
        refine lv_aload_n hx hb dL_law_1061 rfl (lv_at hl 0 rfl) ?_
        refine lv_iload_n hx hb dL_law_1062 rfl (lv_at hl 3 rfl) ?_
        refine lv_iconst (v := 1) hx hb dL_law_1063 (by decide) ?_
        refine lv_iadd hx hb dL_law_1064 ?_
        obtain ⟨g279, h⟩ := gd_some h
        refine va_sld hx hb hXs hbl hbA I.2.2.1 g279 dL_law_1065 ?_
        refine lv_aload_n hx hb dL_law_1066 rfl (lv_at hl 0 rfl) ?_
        refine lv_iload_n hx hb dL_law_1067 rfl (lv_at hl 3 rfl) ?_
        refine lv_iconst (v := 2) hx hb dL_law_1068 (by decide) ?_
        refine lv_iadd hx hb dL_law_1069 ?_
        obtain ⟨g280, h⟩ := gd_some h
        refine va_sld hx hb hXs hbl hbA I.2.2.1 g280 dL_law_1070 ?_
        obtain ⟨r281, s282, q283, h⟩ := bd2_some h
        refine call_l (X := (bO G oa na ka aa ra pa sd yd td ow ++ (bV G na nw ++ (bV G ka kp ++ (bA G aa wa s276 ++ (bV G wa s277 ++ (bT G ra ma rd ++ (bV G ma md ++ (bP G pa tp ++ (bH G sd hh ++ (bY G yd td th ++ (bK G td tr ++ [])))))))))))) (wc := wM G ad s) (Y := []) (rest := [.long r275]) XX I hl.1 (c_M_spoilt l G OK ad fu s (xs (v3 + (1 : Int32)).toNatClampNeg) (xs (v3 + (2 : Int32)).toNatClampNeg) r281 s282 q283) kV_L_130 (Rc.mk XX I (q0 := 121) (ci := 12) rfl rfl) rfl rfl (Nat.le_of_ble_eq_true rfl) ⟨rfl, rfl, Nat.le_of_ble_eq_true rfl, Nat.le_of_ble_eq_true rfl⟩ ⟨hc1, hs1⟩ dL_law_1071 (fun H locs  I => ?_)
        replace I : Iv G (fun q : Nat => s0.heap.size ≤ q) s0 H locs ((bO G oa na ka aa ra pa sd yd td ow ++ (bV G na nw ++ (bV G ka kp ++ (bA G aa wa s276 ++ (bV G wa s277 ++ (bT G ra ma rd ++ (bV G ma md ++ (bP G pa tp ++ (bH G sd hh ++ (bY G yd td th ++ (bK G td tr ++ []))))))))))) ++ (wM G ad s282 ++ [])) := I
        refine W.lcmp hx hb dL_law_1074 ?_
        refine lv_if_eq (tgt := 1545) hx hb dL_law_1075 (by decide) (fun c1 => ?_) (fun c1 => ?_)
        · replace h := if_t h c1
          obtain ⟨y284, ey284⟩ : ∃ z : Int32, z = v3 + (5 : Int32) := ⟨_, rfl⟩
          replace h := lt_e h ey284
          refine lv_iinc (v := y284) (lv' := [(3, .int y284), (0, .ref b), (1, .ref (oa 0)), (2, .ref (ad 0))]) hx hb dL_law_1545 hl (k := 3) rfl (by rw [ey284]; rfl) (by decide) rfl (fun ls hl => ?_)
          refine lv_goto (tgt := 18) hx hb dL_law_1548 (by decide) ?_
          exact ih _ _ _ _ _ _ _ _ _ _ _ _ _ h _ _ I ls (lv_sub hl [1, 2, 3, 0] rfl)
        · replace h := if_f h c1
          refine lv_iconst (v := 0) hx hb dL_law_1078 (by decide) ?_
          exact absurd h (fun q => by cases q)
      replace h := if_f h q26
      by_cases q27 : y2 = (27 : Int32)
      · replace h := if_t h q27
        refine lv_tableIn (tgt := 1080) (off := 1048) hx hb dL_law_32 (by rw [q27]; decide) (by rw [q27]; decide) (by rw [q27]; rfl) (by decide) ?_
        refine lv_aload_n hx hb dL_law_1080 rfl (lv_at hl 1 rfl) ?_
        refine lv_aload_n hx hb dL_law_1081 rfl (lv_at hl 0 rfl) ?_
        refine lv_iload_n hx hb dL_law_1082 rfl (lv_at hl 3 rfl) ?_
        refine lv_iconst (v := 1) hx hb dL_law_1083 (by decide) ?_
        refine lv_iadd hx hb dL_law_1084 ?_
        obtain ⟨g285, h⟩ := gd_some h
        refine va_sld hx hb hXs hbl hbA I.2.2.1 g285 dL_law_1085 ?_
        obtain ⟨r286, s287, q288, h⟩ := bd2_some h
        refine call_i (X := []) (wc := (bO G oa na ka aa ra pa sd yd td ow ++ (bV G na nw ++ (bV G ka kp ++ (bA G aa wa ah ++ (bV G wa aw ++ (bT G ra ma rd ++ (bV G ma md ++ (bP G pa tp ++ (bH G sd hh ++ (bY G yd td th ++ (bK G td tr ++ [])))))))))))) (Y := wM G ad s ++ []) (rest := []) XX I hl.1 (c_O_prove l G OK oa na ka aa wa ra ma pa sd yd td fu ow nw kp ah aw rd md tp hh th tr (xs (v3 + (1 : Int32)).toNatClampNeg) r286 s287 q288) kV_L_131 (Rc.mk XX I (q0 := 0) (ci := 11) rfl rfl) rfl rfl (Nat.le_of_ble_eq_true rfl) ⟨rfl, rfl, Nat.le_of_ble_eq_true rfl, Nat.le_of_ble_eq_true rfl⟩ ⟨hc1, hs1⟩ dL_law_1086 (fun H locs hz I => ?_)
        replace I : Iv G (fun q : Nat => s0.heap.size ≤ q) s0 H locs ((bO G oa na ka aa ra pa sd yd td s287 ++ (bV G na nw ++ (bV G ka kp ++ (bA G aa wa ah ++ (bV G wa aw ++ (bT G ra ma rd ++ (bV G ma md ++ (bP G pa tp ++ (bH G sd hh ++ (bY G yd td th ++ (bK G td tr ++ []))))))))))) ++ (wM G ad s ++ [])) := I
        refine lv_aload_n hx hb dL_law_1089 rfl (lv_at hl 2 rfl) ?_
        refine lv_aload_n hx hb dL_law_1090 rfl (lv_at hl 0 rfl) ?_
        refine lv_iload_n hx hb dL_law_1091 rfl (lv_at hl 3 rfl) ?_
        refine lv_iconst (v := 1) hx hb dL_law_1092 (by decide) ?_
        refine lv_iadd hx hb dL_law_1093 ?_
        obtain ⟨g289, h⟩ := gd_some h
        refine va_sld hx hb hXs hbl hbA I.2.2.1 g289 dL_law_1094 ?_
        obtain ⟨r290, s291, q292, h⟩ := bd2_some h
        refine call_i (X := (bO G oa na ka aa ra pa sd yd td s287 ++ (bV G na nw ++ (bV G ka kp ++ (bA G aa wa ah ++ (bV G wa aw ++ (bT G ra ma rd ++ (bV G ma md ++ (bP G pa tp ++ (bH G sd hh ++ (bY G yd td th ++ (bK G td tr ++ [])))))))))))) (wc := wM G ad s) (Y := []) (rest := [.int r286]) XX I hl.1 (c_M_prove l G OK ad fu s (xs (v3 + (1 : Int32)).toNatClampNeg) r290 s291 q292) kV_L_134 (Rc.mk XX I (q0 := 121) (ci := 12) rfl rfl) rfl rfl (Nat.le_of_ble_eq_true rfl) ⟨rfl, rfl, Nat.le_of_ble_eq_true rfl, Nat.le_of_ble_eq_true rfl⟩ ⟨hc1, hs1⟩ dL_law_1095 (fun H locs hz I => ?_)
        replace I : Iv G (fun q : Nat => s0.heap.size ≤ q) s0 H locs ((bO G oa na ka aa ra pa sd yd td s287 ++ (bV G na nw ++ (bV G ka kp ++ (bA G aa wa ah ++ (bV G wa aw ++ (bT G ra ma rd ++ (bV G ma md ++ (bP G pa tp ++ (bH G sd hh ++ (bY G yd td th ++ (bK G td tr ++ []))))))))))) ++ (wM G ad s291 ++ [])) := I
        refine lv_icmp_eq (tgt := 1545) hx hb dL_law_1098 (by decide) (fun c1 => ?_) (fun c1 => ?_)
        · replace h := if_t h c1
          obtain ⟨y293, ey293⟩ : ∃ z : Int32, z = v3 + (5 : Int32) := ⟨_, rfl⟩
          replace h := lt_e h ey293
          refine lv_iinc (v := y293) (lv' := [(3, .int y293), (0, .ref b), (1, .ref (oa 0)), (2, .ref (ad 0))]) hx hb dL_law_1545 hl (k := 3) rfl (by rw [ey293]; rfl) (by decide) rfl (fun ls hl => ?_)
          refine lv_goto (tgt := 18) hx hb dL_law_1548 (by decide) ?_
          exact ih _ _ _ _ _ _ _ _ _ _ _ _ _ h _ _ I ls (lv_sub hl [1, 2, 3, 0] rfl)
        · replace h := if_f h c1
          refine lv_iconst (v := 0) hx hb dL_law_1101 (by decide) ?_
          exact absurd h (fun q => by cases q)
      replace h := if_f h q27
      by_cases q28 : y2 = (28 : Int32)
      · replace h := if_t h q28
        refine lv_tableIn (tgt := 1103) (off := 1071) hx hb dL_law_32 (by rw [q28]; decide) (by rw [q28]; decide) (by rw [q28]; rfl) (by decide) ?_
        refine lv_aload_n hx hb dL_law_1103 rfl (lv_at hl 1 rfl) ?_
        refine lv_aload_n hx hb dL_law_1104 rfl (lv_at hl 0 rfl) ?_
        refine lv_iload_n hx hb dL_law_1105 rfl (lv_at hl 3 rfl) ?_
        refine lv_iconst (v := 1) hx hb dL_law_1106 (by decide) ?_
        refine lv_iadd hx hb dL_law_1107 ?_
        obtain ⟨g294, h⟩ := gd_some h
        refine va_sld hx hb hXs hbl hbA I.2.2.1 g294 dL_law_1108 ?_
        refine lv_aload_n hx hb dL_law_1109 rfl (lv_at hl 0 rfl) ?_
        refine lv_iload_n hx hb dL_law_1110 rfl (lv_at hl 3 rfl) ?_
        refine lv_iconst (v := 2) hx hb dL_law_1111 (by decide) ?_
        refine lv_iadd hx hb dL_law_1112 ?_
        obtain ⟨g295, h⟩ := gd_some h
        refine va_sld hx hb hXs hbl hbA I.2.2.1 g295 dL_law_1113 ?_
        obtain ⟨r296, q297, h⟩ := bd1_some h
        refine call_i (X := []) (wc := (bO G oa na ka aa ra pa sd yd td ow ++ (bV G na nw ++ (bV G ka kp ++ (bA G aa wa ah ++ (bV G wa aw ++ (bT G ra ma rd ++ (bV G ma md ++ (bP G pa tp ++ (bH G sd hh ++ (bY G yd td th ++ (bK G td tr ++ [])))))))))))) (Y := wM G ad s ++ []) (rest := []) XX I hl.1 (c_O_row l G OK oa na ka aa wa ra ma pa sd yd td ow nw kp ah aw rd md tp hh th tr (xs (v3 + (1 : Int32)).toNatClampNeg) (xs (v3 + (2 : Int32)).toNatClampNeg) r296 q297) kV_L_135 (Rc.mk XX I (q0 := 0) (ci := 11) rfl rfl) rfl rfl (Nat.le_of_ble_eq_true rfl) ⟨rfl, rfl, Nat.le_of_ble_eq_true rfl, Nat.le_of_ble_eq_true rfl⟩ ⟨hc1, hs1⟩ dL_law_1114 (fun H locs hz I => ?_)
        replace I : Iv G (fun q : Nat => s0.heap.size ≤ q) s0 H locs ((bO G oa na ka aa ra pa sd yd td ow ++ (bV G na nw ++ (bV G ka kp ++ (bA G aa wa ah ++ (bV G wa aw ++ (bT G ra ma rd ++ (bV G ma md ++ (bP G pa tp ++ (bH G sd hh ++ (bY G yd td th ++ (bK G td tr ++ []))))))))))) ++ (wM G ad s ++ [])) := I
        refine lv_aload_n hx hb dL_law_1117 rfl (lv_at hl 2 rfl) ?_
        refine lv_aload_n hx hb dL_law_1118 rfl (lv_at hl 0 rfl) ?_
        refine lv_iload_n hx hb dL_law_1119 rfl (lv_at hl 3 rfl) ?_
        refine lv_iconst (v := 1) hx hb dL_law_1120 (by decide) ?_
        refine lv_iadd hx hb dL_law_1121 ?_
        obtain ⟨g298, h⟩ := gd_some h
        refine va_sld hx hb hXs hbl hbA I.2.2.1 g298 dL_law_1122 ?_
        refine lv_aload_n hx hb dL_law_1123 rfl (lv_at hl 0 rfl) ?_
        refine lv_iload_n hx hb dL_law_1124 rfl (lv_at hl 3 rfl) ?_
        refine lv_iconst (v := 2) hx hb dL_law_1125 (by decide) ?_
        refine lv_iadd hx hb dL_law_1126 ?_
        obtain ⟨g299, h⟩ := gd_some h
        refine va_sld hx hb hXs hbl hbA I.2.2.1 g299 dL_law_1127 ?_
        obtain ⟨r300, q301, h⟩ := bd1_some h
        refine call_i (X := (bO G oa na ka aa ra pa sd yd td ow ++ (bV G na nw ++ (bV G ka kp ++ (bA G aa wa ah ++ (bV G wa aw ++ (bT G ra ma rd ++ (bV G ma md ++ (bP G pa tp ++ (bH G sd hh ++ (bY G yd td th ++ (bK G td tr ++ [])))))))))))) (wc := wM G ad s) (Y := []) (rest := [.int r296]) XX I hl.1 (c_M_row l G OK ad s (xs (v3 + (1 : Int32)).toNatClampNeg) (xs (v3 + (2 : Int32)).toNatClampNeg) r300 q301) kV_L_138 (Rc.mk XX I (q0 := 121) (ci := 12) rfl rfl) rfl rfl (Nat.le_of_ble_eq_true rfl) ⟨rfl, rfl, Nat.le_of_ble_eq_true rfl, Nat.le_of_ble_eq_true rfl⟩ ⟨hc1, hs1⟩ dL_law_1128 (fun H locs hz I => ?_)
        replace I : Iv G (fun q : Nat => s0.heap.size ≤ q) s0 H locs ((bO G oa na ka aa ra pa sd yd td ow ++ (bV G na nw ++ (bV G ka kp ++ (bA G aa wa ah ++ (bV G wa aw ++ (bT G ra ma rd ++ (bV G ma md ++ (bP G pa tp ++ (bH G sd hh ++ (bY G yd td th ++ (bK G td tr ++ []))))))))))) ++ (wM G ad s ++ [])) := I
        refine lv_icmp_eq (tgt := 1545) hx hb dL_law_1131 (by decide) (fun c1 => ?_) (fun c1 => ?_)
        · replace h := if_t h c1
          obtain ⟨y302, ey302⟩ : ∃ z : Int32, z = v3 + (5 : Int32) := ⟨_, rfl⟩
          replace h := lt_e h ey302
          refine lv_iinc (v := y302) (lv' := [(3, .int y302), (0, .ref b), (1, .ref (oa 0)), (2, .ref (ad 0))]) hx hb dL_law_1545 hl (k := 3) rfl (by rw [ey302]; rfl) (by decide) rfl (fun ls hl => ?_)
          refine lv_goto (tgt := 18) hx hb dL_law_1548 (by decide) ?_
          exact ih _ _ _ _ _ _ _ _ _ _ _ _ _ h _ _ I ls (lv_sub hl [1, 2, 3, 0] rfl)
        · replace h := if_f h c1
          refine lv_iconst (v := 0) hx hb dL_law_1134 (by decide) ?_
          exact absurd h (fun q => by cases q)
      replace h := if_f h q28
      by_cases q29 : y2 = (29 : Int32)
      · replace h := if_t h q29
        refine lv_tableIn (tgt := 1136) (off := 1104) hx hb dL_law_32 (by rw [q29]; decide) (by rw [q29]; decide) (by rw [q29]; rfl) (by decide) ?_
        refine lv_aload_n hx hb dL_law_1136 rfl (lv_at hl 1 rfl) ?_
        refine lv_aload_n hx hb dL_law_1137 rfl (lv_at hl 0 rfl) ?_
        refine lv_iload_n hx hb dL_law_1138 rfl (lv_at hl 3 rfl) ?_
        refine lv_iconst (v := 1) hx hb dL_law_1139 (by decide) ?_
        refine lv_iadd hx hb dL_law_1140 ?_
        obtain ⟨g303, h⟩ := gd_some h
        refine va_sld hx hb hXs hbl hbA I.2.2.1 g303 dL_law_1141 ?_
        refine lv_aload_n hx hb dL_law_1142 rfl (lv_at hl 0 rfl) ?_
        refine lv_iload_n hx hb dL_law_1143 rfl (lv_at hl 3 rfl) ?_
        refine lv_iconst (v := 2) hx hb dL_law_1144 (by decide) ?_
        refine lv_iadd hx hb dL_law_1145 ?_
        obtain ⟨g304, h⟩ := gd_some h
        refine va_sld hx hb hXs hbl hbA I.2.2.1 g304 dL_law_1146 ?_
        refine lv_aload_n hx hb dL_law_1147 rfl (lv_at hl 0 rfl) ?_
        refine lv_iload_n hx hb dL_law_1148 rfl (lv_at hl 3 rfl) ?_
        refine lv_iconst (v := 3) hx hb dL_law_1149 (by decide) ?_
        refine lv_iadd hx hb dL_law_1150 ?_
        obtain ⟨g305, h⟩ := gd_some h
        refine va_sld hx hb hXs hbl hbA I.2.2.1 g305 dL_law_1151 ?_
        obtain ⟨r306, s307, q308, h⟩ := bd2_some h
        refine call_i (X := []) (wc := (bO G oa na ka aa ra pa sd yd td ow ++ (bV G na nw ++ (bV G ka kp ++ (bA G aa wa ah ++ (bV G wa aw ++ (bT G ra ma rd ++ (bV G ma md ++ (bP G pa tp ++ (bH G sd hh ++ (bY G yd td th ++ (bK G td tr ++ [])))))))))))) (Y := wM G ad s ++ []) (rest := []) XX I hl.1 (c_O_alterRow l G OK oa na ka aa wa ra ma pa sd yd td ow nw kp ah aw rd md tp hh th tr (xs (v3 + (1 : Int32)).toNatClampNeg) (xs (v3 + (2 : Int32)).toNatClampNeg) (xs (v3 + (3 : Int32)).toNatClampNeg) r306 s307 q308) kV_L_139 (Rc.mk XX I (q0 := 0) (ci := 11) rfl rfl) rfl rfl (Nat.le_of_ble_eq_true rfl) ⟨rfl, rfl, Nat.le_of_ble_eq_true rfl, Nat.le_of_ble_eq_true rfl⟩ ⟨hc1, hs1⟩ dL_law_1152 (fun H locs hz I => ?_)
        replace I : Iv G (fun q : Nat => s0.heap.size ≤ q) s0 H locs ((bO G oa na ka aa ra pa sd yd td s307 ++ (bV G na nw ++ (bV G ka kp ++ (bA G aa wa ah ++ (bV G wa aw ++ (bT G ra ma rd ++ (bV G ma md ++ (bP G pa tp ++ (bH G sd hh ++ (bY G yd td th ++ (bK G td tr ++ []))))))))))) ++ (wM G ad s ++ [])) := I
        refine lv_aload_n hx hb dL_law_1155 rfl (lv_at hl 2 rfl) ?_
        refine lv_aload_n hx hb dL_law_1156 rfl (lv_at hl 0 rfl) ?_
        refine lv_iload_n hx hb dL_law_1157 rfl (lv_at hl 3 rfl) ?_
        refine lv_iconst (v := 1) hx hb dL_law_1158 (by decide) ?_
        refine lv_iadd hx hb dL_law_1159 ?_
        obtain ⟨g309, h⟩ := gd_some h
        refine va_sld hx hb hXs hbl hbA I.2.2.1 g309 dL_law_1160 ?_
        refine lv_aload_n hx hb dL_law_1161 rfl (lv_at hl 0 rfl) ?_
        refine lv_iload_n hx hb dL_law_1162 rfl (lv_at hl 3 rfl) ?_
        refine lv_iconst (v := 2) hx hb dL_law_1163 (by decide) ?_
        refine lv_iadd hx hb dL_law_1164 ?_
        obtain ⟨g310, h⟩ := gd_some h
        refine va_sld hx hb hXs hbl hbA I.2.2.1 g310 dL_law_1165 ?_
        refine lv_aload_n hx hb dL_law_1166 rfl (lv_at hl 0 rfl) ?_
        refine lv_iload_n hx hb dL_law_1167 rfl (lv_at hl 3 rfl) ?_
        refine lv_iconst (v := 3) hx hb dL_law_1168 (by decide) ?_
        refine lv_iadd hx hb dL_law_1169 ?_
        obtain ⟨g311, h⟩ := gd_some h
        refine va_sld hx hb hXs hbl hbA I.2.2.1 g311 dL_law_1170 ?_
        obtain ⟨r312, s313, q314, h⟩ := bd2_some h
        refine call_i (X := (bO G oa na ka aa ra pa sd yd td s307 ++ (bV G na nw ++ (bV G ka kp ++ (bA G aa wa ah ++ (bV G wa aw ++ (bT G ra ma rd ++ (bV G ma md ++ (bP G pa tp ++ (bH G sd hh ++ (bY G yd td th ++ (bK G td tr ++ [])))))))))))) (wc := wM G ad s) (Y := []) (rest := [.int r306]) XX I hl.1 (c_M_alterRow l G OK ad s (xs (v3 + (1 : Int32)).toNatClampNeg) (xs (v3 + (2 : Int32)).toNatClampNeg) (xs (v3 + (3 : Int32)).toNatClampNeg) r312 s313 q314) kV_L_142 (Rc.mk XX I (q0 := 121) (ci := 12) rfl rfl) rfl rfl (Nat.le_of_ble_eq_true rfl) ⟨rfl, rfl, Nat.le_of_ble_eq_true rfl, Nat.le_of_ble_eq_true rfl⟩ ⟨hc1, hs1⟩ dL_law_1171 (fun H locs hz I => ?_)
        replace I : Iv G (fun q : Nat => s0.heap.size ≤ q) s0 H locs ((bO G oa na ka aa ra pa sd yd td s307 ++ (bV G na nw ++ (bV G ka kp ++ (bA G aa wa ah ++ (bV G wa aw ++ (bT G ra ma rd ++ (bV G ma md ++ (bP G pa tp ++ (bH G sd hh ++ (bY G yd td th ++ (bK G td tr ++ []))))))))))) ++ (wM G ad s313 ++ [])) := I
        refine lv_icmp_eq (tgt := 1545) hx hb dL_law_1174 (by decide) (fun c1 => ?_) (fun c1 => ?_)
        · replace h := if_t h c1
          obtain ⟨y315, ey315⟩ : ∃ z : Int32, z = v3 + (5 : Int32) := ⟨_, rfl⟩
          replace h := lt_e h ey315
          refine lv_iinc (v := y315) (lv' := [(3, .int y315), (0, .ref b), (1, .ref (oa 0)), (2, .ref (ad 0))]) hx hb dL_law_1545 hl (k := 3) rfl (by rw [ey315]; rfl) (by decide) rfl (fun ls hl => ?_)
          refine lv_goto (tgt := 18) hx hb dL_law_1548 (by decide) ?_
          exact ih _ _ _ _ _ _ _ _ _ _ _ _ _ h _ _ I ls (lv_sub hl [1, 2, 3, 0] rfl)
        · replace h := if_f h c1
          refine lv_iconst (v := 0) hx hb dL_law_1177 (by decide) ?_
          exact absurd h (fun q => by cases q)
      replace h := if_f h q29
      by_cases q30 : y2 = (30 : Int32)
      · replace h := if_t h q30
        refine lv_tableIn (tgt := 1179) (off := 1147) hx hb dL_law_32 (by rw [q30]; decide) (by rw [q30]; decide) (by rw [q30]; rfl) (by decide) ?_
        refine lv_aload_n hx hb dL_law_1179 rfl (lv_at hl 1 rfl) ?_
        obtain ⟨r316, s317, q318, h⟩ := bd2_some h
        refine call_i (X := []) (wc := (bO G oa na ka aa ra pa sd yd td ow ++ (bV G na nw ++ (bV G ka kp ++ (bA G aa wa ah ++ (bV G wa aw ++ (bT G ra ma rd ++ (bV G ma md ++ (bP G pa tp ++ (bH G sd hh ++ (bY G yd td th ++ (bK G td tr ++ [])))))))))))) (Y := wM G ad s ++ []) (rest := []) XX I hl.1 (c_O_judge l G OK oa na ka aa wa ra ma pa sd yd td fu ow nw kp ah aw rd md tp hh th tr r316 s317 q318) kV_L_143 (Rc.mk XX I (q0 := 0) (ci := 11) rfl rfl) rfl rfl (Nat.le_of_ble_eq_true rfl) ⟨rfl, rfl, Nat.le_of_ble_eq_true rfl, Nat.le_of_ble_eq_true rfl⟩ ⟨hc1, hs1⟩ dL_law_1180 (fun H locs hz I => ?_)
        replace I : Iv G (fun q : Nat => s0.heap.size ≤ q) s0 H locs ((bO G oa na ka aa ra pa sd yd td s317 ++ (bV G na nw ++ (bV G ka kp ++ (bA G aa wa ah ++ (bV G wa aw ++ (bT G ra ma rd ++ (bV G ma md ++ (bP G pa tp ++ (bH G sd hh ++ (bY G yd td th ++ (bK G td tr ++ []))))))))))) ++ (wM G ad s ++ [])) := I
        refine lv_aload_n hx hb dL_law_1183 rfl (lv_at hl 2 rfl) ?_
        obtain ⟨r319, s320, q321, h⟩ := bd2_some h
        refine call_i (X := (bO G oa na ka aa ra pa sd yd td s317 ++ (bV G na nw ++ (bV G ka kp ++ (bA G aa wa ah ++ (bV G wa aw ++ (bT G ra ma rd ++ (bV G ma md ++ (bP G pa tp ++ (bH G sd hh ++ (bY G yd td th ++ (bK G td tr ++ [])))))))))))) (wc := wM G ad s) (Y := []) (rest := [.int r316]) XX I hl.1 (c_M_judge l G OK ad fu s r319 s320 q321) kV_L_146 (Rc.mk XX I (q0 := 121) (ci := 12) rfl rfl) rfl rfl (Nat.le_of_ble_eq_true rfl) ⟨rfl, rfl, Nat.le_of_ble_eq_true rfl, Nat.le_of_ble_eq_true rfl⟩ ⟨hc1, hs1⟩ dL_law_1184 (fun H locs hz I => ?_)
        replace I : Iv G (fun q : Nat => s0.heap.size ≤ q) s0 H locs ((bO G oa na ka aa ra pa sd yd td s317 ++ (bV G na nw ++ (bV G ka kp ++ (bA G aa wa ah ++ (bV G wa aw ++ (bT G ra ma rd ++ (bV G ma md ++ (bP G pa tp ++ (bH G sd hh ++ (bY G yd td th ++ (bK G td tr ++ []))))))))))) ++ (wM G ad s320 ++ [])) := I
        refine lv_icmp_eq (tgt := 1545) hx hb dL_law_1187 (by decide) (fun c1 => ?_) (fun c1 => ?_)
        · replace h := if_t h c1
          obtain ⟨y322, ey322⟩ : ∃ z : Int32, z = v3 + (5 : Int32) := ⟨_, rfl⟩
          replace h := lt_e h ey322
          refine lv_iinc (v := y322) (lv' := [(3, .int y322), (0, .ref b), (1, .ref (oa 0)), (2, .ref (ad 0))]) hx hb dL_law_1545 hl (k := 3) rfl (by rw [ey322]; rfl) (by decide) rfl (fun ls hl => ?_)
          refine lv_goto (tgt := 18) hx hb dL_law_1548 (by decide) ?_
          exact ih _ _ _ _ _ _ _ _ _ _ _ _ _ h _ _ I ls (lv_sub hl [1, 2, 3, 0] rfl)
        · replace h := if_f h c1
          refine lv_iconst (v := 0) hx hb dL_law_1190 (by decide) ?_
          exact absurd h (fun q => by cases q)
      replace h := if_f h q30
      by_cases q31 : y2 = (31 : Int32)
      · replace h := if_t h q31
        refine lv_tableIn (tgt := 1192) (off := 1160) hx hb dL_law_32 (by rw [q31]; decide) (by rw [q31]; decide) (by rw [q31]; rfl) (by decide) ?_
        refine lv_aload_n hx hb dL_law_1192 rfl (lv_at hl 1 rfl) ?_
        refine lv_aload_n hx hb dL_law_1193 rfl (lv_at hl 0 rfl) ?_
        refine lv_iload_n hx hb dL_law_1194 rfl (lv_at hl 3 rfl) ?_
        refine lv_iconst (v := 1) hx hb dL_law_1195 (by decide) ?_
        refine lv_iadd hx hb dL_law_1196 ?_
        obtain ⟨g323, h⟩ := gd_some h
        refine va_sld hx hb hXs hbl hbA I.2.2.1 g323 dL_law_1197 ?_
        refine lv_aload_n hx hb dL_law_1198 rfl (lv_at hl 0 rfl) ?_
        refine lv_iload_n hx hb dL_law_1199 rfl (lv_at hl 3 rfl) ?_
        refine lv_iconst (v := 2) hx hb dL_law_1200 (by decide) ?_
        refine lv_iadd hx hb dL_law_1201 ?_
        obtain ⟨g324, h⟩ := gd_some h
        refine va_sld hx hb hXs hbl hbA I.2.2.1 g324 dL_law_1202 ?_
        obtain ⟨r325, s326, q327, h⟩ := bd2_some h
        refine call_i (X := []) (wc := (bO G oa na ka aa ra pa sd yd td ow ++ (bV G na nw ++ (bV G ka kp ++ (bA G aa wa ah ++ (bV G wa aw ++ (bT G ra ma rd ++ (bV G ma md ++ (bP G pa tp ++ (bH G sd hh ++ (bY G yd td th ++ (bK G td tr ++ [])))))))))))) (Y := wM G ad s ++ []) (rest := []) XX I hl.1 (c_O_worths l G OK oa na ka aa wa ra ma pa sd yd td fu ow nw kp ah aw rd md tp hh th tr (xs (v3 + (1 : Int32)).toNatClampNeg) (xs (v3 + (2 : Int32)).toNatClampNeg) r325 s326 q327) kV_L_147 (Rc.mk XX I (q0 := 0) (ci := 11) rfl rfl) rfl rfl (Nat.le_of_ble_eq_true rfl) ⟨rfl, rfl, Nat.le_of_ble_eq_true rfl, Nat.le_of_ble_eq_true rfl⟩ ⟨hc1, hs1⟩ dL_law_1203 (fun H locs hz I => ?_)
        replace I : Iv G (fun q : Nat => s0.heap.size ≤ q) s0 H locs ((bO G oa na ka aa ra pa sd yd td ow ++ (bV G na s326 ++ (bV G ka kp ++ (bA G aa wa ah ++ (bV G wa aw ++ (bT G ra ma rd ++ (bV G ma md ++ (bP G pa tp ++ (bH G sd hh ++ (bY G yd td th ++ (bK G td tr ++ []))))))))))) ++ (wM G ad s ++ [])) := I
        refine lv_aload_n hx hb dL_law_1206 rfl (lv_at hl 2 rfl) ?_
        refine lv_aload_n hx hb dL_law_1207 rfl (lv_at hl 0 rfl) ?_
        refine lv_iload_n hx hb dL_law_1208 rfl (lv_at hl 3 rfl) ?_
        refine lv_iconst (v := 1) hx hb dL_law_1209 (by decide) ?_
        refine lv_iadd hx hb dL_law_1210 ?_
        obtain ⟨g328, h⟩ := gd_some h
        refine va_sld hx hb hXs hbl hbA I.2.2.1 g328 dL_law_1211 ?_
        refine lv_aload_n hx hb dL_law_1212 rfl (lv_at hl 0 rfl) ?_
        refine lv_iload_n hx hb dL_law_1213 rfl (lv_at hl 3 rfl) ?_
        refine lv_iconst (v := 2) hx hb dL_law_1214 (by decide) ?_
        refine lv_iadd hx hb dL_law_1215 ?_
        obtain ⟨g329, h⟩ := gd_some h
        refine va_sld hx hb hXs hbl hbA I.2.2.1 g329 dL_law_1216 ?_
        obtain ⟨r330, s331, q332, h⟩ := bd2_some h
        refine call_i (X := (bO G oa na ka aa ra pa sd yd td ow ++ (bV G na s326 ++ (bV G ka kp ++ (bA G aa wa ah ++ (bV G wa aw ++ (bT G ra ma rd ++ (bV G ma md ++ (bP G pa tp ++ (bH G sd hh ++ (bY G yd td th ++ (bK G td tr ++ [])))))))))))) (wc := wM G ad s) (Y := []) (rest := [.int r325]) XX I hl.1 (c_M_worths l G OK ad fu s (xs (v3 + (1 : Int32)).toNatClampNeg) (xs (v3 + (2 : Int32)).toNatClampNeg) r330 s331 q332) kV_L_150 (Rc.mk XX I (q0 := 121) (ci := 12) rfl rfl) rfl rfl (Nat.le_of_ble_eq_true rfl) ⟨rfl, rfl, Nat.le_of_ble_eq_true rfl, Nat.le_of_ble_eq_true rfl⟩ ⟨hc1, hs1⟩ dL_law_1217 (fun H locs hz I => ?_)
        replace I : Iv G (fun q : Nat => s0.heap.size ≤ q) s0 H locs ((bO G oa na ka aa ra pa sd yd td ow ++ (bV G na s326 ++ (bV G ka kp ++ (bA G aa wa ah ++ (bV G wa aw ++ (bT G ra ma rd ++ (bV G ma md ++ (bP G pa tp ++ (bH G sd hh ++ (bY G yd td th ++ (bK G td tr ++ []))))))))))) ++ (wM G ad s331 ++ [])) := I
        refine lv_icmp_eq (tgt := 1545) hx hb dL_law_1220 (by decide) (fun c1 => ?_) (fun c1 => ?_)
        · replace h := if_t h c1
          obtain ⟨y333, ey333⟩ : ∃ z : Int32, z = v3 + (5 : Int32) := ⟨_, rfl⟩
          replace h := lt_e h ey333
          refine lv_iinc (v := y333) (lv' := [(3, .int y333), (0, .ref b), (1, .ref (oa 0)), (2, .ref (ad 0))]) hx hb dL_law_1545 hl (k := 3) rfl (by rw [ey333]; rfl) (by decide) rfl (fun ls hl => ?_)
          refine lv_goto (tgt := 18) hx hb dL_law_1548 (by decide) ?_
          exact ih _ _ _ _ _ _ _ _ _ _ _ _ _ h _ _ I ls (lv_sub hl [1, 2, 3, 0] rfl)
        · replace h := if_f h c1
          refine lv_iconst (v := 0) hx hb dL_law_1223 (by decide) ?_
          exact absurd h (fun q => by cases q)
      replace h := if_f h q31
      by_cases q32 : y2 = (32 : Int32)
      · replace h := if_t h q32
        refine lv_tableIn (tgt := 1225) (off := 1193) hx hb dL_law_32 (by rw [q32]; decide) (by rw [q32]; decide) (by rw [q32]; rfl) (by decide) ?_
        refine lv_aload_n hx hb dL_law_1225 rfl (lv_at hl 1 rfl) ?_
        refine lv_aload_n hx hb dL_law_1226 rfl (lv_at hl 0 rfl) ?_
        refine lv_iload_n hx hb dL_law_1227 rfl (lv_at hl 3 rfl) ?_
        refine lv_iconst (v := 1) hx hb dL_law_1228 (by decide) ?_
        refine lv_iadd hx hb dL_law_1229 ?_
        obtain ⟨g334, h⟩ := gd_some h
        refine va_sld hx hb hXs hbl hbA I.2.2.1 g334 dL_law_1230 ?_
        refine lv_aload_n hx hb dL_law_1231 rfl (lv_at hl 0 rfl) ?_
        refine lv_iload_n hx hb dL_law_1232 rfl (lv_at hl 3 rfl) ?_
        refine lv_iconst (v := 2) hx hb dL_law_1233 (by decide) ?_
        refine lv_iadd hx hb dL_law_1234 ?_
        obtain ⟨g335, h⟩ := gd_some h
        refine va_sld hx hb hXs hbl hbA I.2.2.1 g335 dL_law_1235 ?_
        refine lv_aload_n hx hb dL_law_1236 rfl (lv_at hl 0 rfl) ?_
        refine lv_iload_n hx hb dL_law_1237 rfl (lv_at hl 3 rfl) ?_
        refine lv_iconst (v := 3) hx hb dL_law_1238 (by decide) ?_
        refine lv_iadd hx hb dL_law_1239 ?_
        obtain ⟨g336, h⟩ := gd_some h
        refine va_sld hx hb hXs hbl hbA I.2.2.1 g336 dL_law_1240 ?_
        obtain ⟨r337, s338, q339, h⟩ := bd2_some h
        refine call_i (X := []) (wc := (bO G oa na ka aa ra pa sd yd td ow ++ (bV G na nw ++ (bV G ka kp ++ (bA G aa wa ah ++ (bV G wa aw ++ (bT G ra ma rd ++ (bV G ma md ++ (bP G pa tp ++ (bH G sd hh ++ (bY G yd td th ++ (bK G td tr ++ [])))))))))))) (Y := wM G ad s ++ []) (rest := []) XX I hl.1 (c_O_sheet l G OK oa na ka aa wa ra ma pa sd yd td fu ow nw kp ah aw rd md tp hh th tr (xs (v3 + (1 : Int32)).toNatClampNeg) (xs (v3 + (2 : Int32)).toNatClampNeg) (xs (v3 + (3 : Int32)).toNatClampNeg) r337 s338 q339) kV_L_151 (Rc.mk XX I (q0 := 0) (ci := 11) rfl rfl) rfl rfl (Nat.le_of_ble_eq_true rfl) ⟨rfl, rfl, Nat.le_of_ble_eq_true rfl, Nat.le_of_ble_eq_true rfl⟩ ⟨hc1, hs1⟩ dL_law_1241 (fun H locs hz I => ?_)
        replace I : Iv G (fun q : Nat => s0.heap.size ≤ q) s0 H locs ((bO G oa na ka aa ra pa sd yd td ow ++ (bV G na nw ++ (bV G ka kp ++ (bA G aa wa ah ++ (bV G wa aw ++ (bT G ra ma rd ++ (bV G ma md ++ (bP G pa tp ++ (bH G sd s338 ++ (bY G yd td th ++ (bK G td tr ++ []))))))))))) ++ (wM G ad s ++ [])) := I
        refine lv_aload_n hx hb dL_law_1244 rfl (lv_at hl 2 rfl) ?_
        refine lv_aload_n hx hb dL_law_1245 rfl (lv_at hl 0 rfl) ?_
        refine lv_iload_n hx hb dL_law_1246 rfl (lv_at hl 3 rfl) ?_
        refine lv_iconst (v := 1) hx hb dL_law_1247 (by decide) ?_
        refine lv_iadd hx hb dL_law_1248 ?_
        obtain ⟨g340, h⟩ := gd_some h
        refine va_sld hx hb hXs hbl hbA I.2.2.1 g340 dL_law_1249 ?_
        refine lv_aload_n hx hb dL_law_1250 rfl (lv_at hl 0 rfl) ?_
        refine lv_iload_n hx hb dL_law_1251 rfl (lv_at hl 3 rfl) ?_
        refine lv_iconst (v := 2) hx hb dL_law_1252 (by decide) ?_
        refine lv_iadd hx hb dL_law_1253 ?_
        obtain ⟨g341, h⟩ := gd_some h
        refine va_sld hx hb hXs hbl hbA I.2.2.1 g341 dL_law_1254 ?_
        refine lv_aload_n hx hb dL_law_1255 rfl (lv_at hl 0 rfl) ?_
        refine lv_iload_n hx hb dL_law_1256 rfl (lv_at hl 3 rfl) ?_
        refine lv_iconst (v := 3) hx hb dL_law_1257 (by decide) ?_
        refine lv_iadd hx hb dL_law_1258 ?_
        obtain ⟨g342, h⟩ := gd_some h
        refine va_sld hx hb hXs hbl hbA I.2.2.1 g342 dL_law_1259 ?_
        obtain ⟨r343, s344, q345, h⟩ := bd2_some h
        refine call_i (X := (bO G oa na ka aa ra pa sd yd td ow ++ (bV G na nw ++ (bV G ka kp ++ (bA G aa wa ah ++ (bV G wa aw ++ (bT G ra ma rd ++ (bV G ma md ++ (bP G pa tp ++ (bH G sd s338 ++ (bY G yd td th ++ (bK G td tr ++ [])))))))))))) (wc := wM G ad s) (Y := []) (rest := [.int r337]) XX I hl.1 (c_M_sheet l G OK ad fu s (xs (v3 + (1 : Int32)).toNatClampNeg) (xs (v3 + (2 : Int32)).toNatClampNeg) (xs (v3 + (3 : Int32)).toNatClampNeg) r343 s344 q345) kV_L_154 (Rc.mk XX I (q0 := 121) (ci := 12) rfl rfl) rfl rfl (Nat.le_of_ble_eq_true rfl) ⟨rfl, rfl, Nat.le_of_ble_eq_true rfl, Nat.le_of_ble_eq_true rfl⟩ ⟨hc1, hs1⟩ dL_law_1260 (fun H locs hz I => ?_)
        replace I : Iv G (fun q : Nat => s0.heap.size ≤ q) s0 H locs ((bO G oa na ka aa ra pa sd yd td ow ++ (bV G na nw ++ (bV G ka kp ++ (bA G aa wa ah ++ (bV G wa aw ++ (bT G ra ma rd ++ (bV G ma md ++ (bP G pa tp ++ (bH G sd s338 ++ (bY G yd td th ++ (bK G td tr ++ []))))))))))) ++ (wM G ad s344 ++ [])) := I
        refine lv_icmp_eq (tgt := 1545) hx hb dL_law_1263 (by decide) (fun c1 => ?_) (fun c1 => ?_)
        · replace h := if_t h c1
          obtain ⟨y346, ey346⟩ : ∃ z : Int32, z = v3 + (5 : Int32) := ⟨_, rfl⟩
          replace h := lt_e h ey346
          refine lv_iinc (v := y346) (lv' := [(3, .int y346), (0, .ref b), (1, .ref (oa 0)), (2, .ref (ad 0))]) hx hb dL_law_1545 hl (k := 3) rfl (by rw [ey346]; rfl) (by decide) rfl (fun ls hl => ?_)
          refine lv_goto (tgt := 18) hx hb dL_law_1548 (by decide) ?_
          exact ih _ _ _ _ _ _ _ _ _ _ _ _ _ h _ _ I ls (lv_sub hl [1, 2, 3, 0] rfl)
        · replace h := if_f h c1
          refine lv_iconst (v := 0) hx hb dL_law_1266 (by decide) ?_
          exact absurd h (fun q => by cases q)
      replace h := if_f h q32
      by_cases q33 : y2 = (33 : Int32)
      · replace h := if_t h q33
        refine lv_tableIn (tgt := 1268) (off := 1236) hx hb dL_law_32 (by rw [q33]; decide) (by rw [q33]; decide) (by rw [q33]; rfl) (by decide) ?_
        refine lv_aload_n hx hb dL_law_1268 rfl (lv_at hl 1 rfl) ?_
        refine lv_aload_n hx hb dL_law_1269 rfl (lv_at hl 0 rfl) ?_
        refine lv_iload_n hx hb dL_law_1270 rfl (lv_at hl 3 rfl) ?_
        refine lv_iconst (v := 1) hx hb dL_law_1271 (by decide) ?_
        refine lv_iadd hx hb dL_law_1272 ?_
        obtain ⟨g347, h⟩ := gd_some h
        refine va_sld hx hb hXs hbl hbA I.2.2.1 g347 dL_law_1273 ?_
        refine lv_aload_n hx hb dL_law_1274 rfl (lv_at hl 0 rfl) ?_
        refine lv_iload_n hx hb dL_law_1275 rfl (lv_at hl 3 rfl) ?_
        refine lv_iconst (v := 2) hx hb dL_law_1276 (by decide) ?_
        refine lv_iadd hx hb dL_law_1277 ?_
        obtain ⟨g348, h⟩ := gd_some h
        refine va_sld hx hb hXs hbl hbA I.2.2.1 g348 dL_law_1278 ?_
        refine lv_aload_n hx hb dL_law_1279 rfl (lv_at hl 0 rfl) ?_
        refine lv_iload_n hx hb dL_law_1280 rfl (lv_at hl 3 rfl) ?_
        refine lv_iconst (v := 3) hx hb dL_law_1281 (by decide) ?_
        refine lv_iadd hx hb dL_law_1282 ?_
        obtain ⟨g349, h⟩ := gd_some h
        refine va_sld hx hb hXs hbl hbA I.2.2.1 g349 dL_law_1283 ?_
        obtain ⟨r350, s351, q352, h⟩ := bd2_some h
        refine call_i (X := []) (wc := (bO G oa na ka aa ra pa sd yd td ow ++ (bV G na nw ++ (bV G ka kp ++ (bA G aa wa ah ++ (bV G wa aw ++ (bT G ra ma rd ++ (bV G ma md ++ (bP G pa tp ++ (bH G sd hh ++ (bY G yd td th ++ (bK G td tr ++ [])))))))))))) (Y := wM G ad s ++ []) (rest := []) XX I hl.1 (c_O_put l G OK oa na ka aa wa ra ma pa sd yd td ow nw kp ah aw rd md tp hh th tr (xs (v3 + (1 : Int32)).toNatClampNeg) (xs (v3 + (2 : Int32)).toNatClampNeg) (xs (v3 + (3 : Int32)).toNatClampNeg) r350 s351 q352) kV_L_155 (Rc.mk XX I (q0 := 0) (ci := 11) rfl rfl) rfl rfl (Nat.le_of_ble_eq_true rfl) ⟨rfl, rfl, Nat.le_of_ble_eq_true rfl, Nat.le_of_ble_eq_true rfl⟩ ⟨hc1, hs1⟩ dL_law_1284 (fun H locs hz I => ?_)
        replace I : Iv G (fun q : Nat => s0.heap.size ≤ q) s0 H locs ((bO G oa na ka aa ra pa sd yd td ow ++ (bV G na nw ++ (bV G ka kp ++ (bA G aa wa ah ++ (bV G wa aw ++ (bT G ra ma rd ++ (bV G ma md ++ (bP G pa tp ++ (bH G sd s351 ++ (bY G yd td th ++ (bK G td tr ++ []))))))))))) ++ (wM G ad s ++ [])) := I
        refine lv_aload_n hx hb dL_law_1287 rfl (lv_at hl 2 rfl) ?_
        refine lv_aload_n hx hb dL_law_1288 rfl (lv_at hl 0 rfl) ?_
        refine lv_iload_n hx hb dL_law_1289 rfl (lv_at hl 3 rfl) ?_
        refine lv_iconst (v := 1) hx hb dL_law_1290 (by decide) ?_
        refine lv_iadd hx hb dL_law_1291 ?_
        obtain ⟨g353, h⟩ := gd_some h
        refine va_sld hx hb hXs hbl hbA I.2.2.1 g353 dL_law_1292 ?_
        refine lv_aload_n hx hb dL_law_1293 rfl (lv_at hl 0 rfl) ?_
        refine lv_iload_n hx hb dL_law_1294 rfl (lv_at hl 3 rfl) ?_
        refine lv_iconst (v := 2) hx hb dL_law_1295 (by decide) ?_
        refine lv_iadd hx hb dL_law_1296 ?_
        obtain ⟨g354, h⟩ := gd_some h
        refine va_sld hx hb hXs hbl hbA I.2.2.1 g354 dL_law_1297 ?_
        refine lv_aload_n hx hb dL_law_1298 rfl (lv_at hl 0 rfl) ?_
        refine lv_iload_n hx hb dL_law_1299 rfl (lv_at hl 3 rfl) ?_
        refine lv_iconst (v := 3) hx hb dL_law_1300 (by decide) ?_
        refine lv_iadd hx hb dL_law_1301 ?_
        obtain ⟨g355, h⟩ := gd_some h
        refine va_sld hx hb hXs hbl hbA I.2.2.1 g355 dL_law_1302 ?_
        obtain ⟨r356, s357, q358, h⟩ := bd2_some h
        refine call_i (X := (bO G oa na ka aa ra pa sd yd td ow ++ (bV G na nw ++ (bV G ka kp ++ (bA G aa wa ah ++ (bV G wa aw ++ (bT G ra ma rd ++ (bV G ma md ++ (bP G pa tp ++ (bH G sd s351 ++ (bY G yd td th ++ (bK G td tr ++ [])))))))))))) (wc := wM G ad s) (Y := []) (rest := [.int r350]) XX I hl.1 (c_M_put l G OK ad s (xs (v3 + (1 : Int32)).toNatClampNeg) (xs (v3 + (2 : Int32)).toNatClampNeg) (xs (v3 + (3 : Int32)).toNatClampNeg) r356 s357 q358) kV_L_158 (Rc.mk XX I (q0 := 121) (ci := 12) rfl rfl) rfl rfl (Nat.le_of_ble_eq_true rfl) ⟨rfl, rfl, Nat.le_of_ble_eq_true rfl, Nat.le_of_ble_eq_true rfl⟩ ⟨hc1, hs1⟩ dL_law_1303 (fun H locs hz I => ?_)
        replace I : Iv G (fun q : Nat => s0.heap.size ≤ q) s0 H locs ((bO G oa na ka aa ra pa sd yd td ow ++ (bV G na nw ++ (bV G ka kp ++ (bA G aa wa ah ++ (bV G wa aw ++ (bT G ra ma rd ++ (bV G ma md ++ (bP G pa tp ++ (bH G sd s351 ++ (bY G yd td th ++ (bK G td tr ++ []))))))))))) ++ (wM G ad s357 ++ [])) := I
        refine lv_icmp_eq (tgt := 1545) hx hb dL_law_1306 (by decide) (fun c1 => ?_) (fun c1 => ?_)
        · replace h := if_t h c1
          obtain ⟨y359, ey359⟩ : ∃ z : Int32, z = v3 + (5 : Int32) := ⟨_, rfl⟩
          replace h := lt_e h ey359
          refine lv_iinc (v := y359) (lv' := [(3, .int y359), (0, .ref b), (1, .ref (oa 0)), (2, .ref (ad 0))]) hx hb dL_law_1545 hl (k := 3) rfl (by rw [ey359]; rfl) (by decide) rfl (fun ls hl => ?_)
          refine lv_goto (tgt := 18) hx hb dL_law_1548 (by decide) ?_
          exact ih _ _ _ _ _ _ _ _ _ _ _ _ _ h _ _ I ls (lv_sub hl [1, 2, 3, 0] rfl)
        · replace h := if_f h c1
          refine lv_iconst (v := 0) hx hb dL_law_1309 (by decide) ?_
          exact absurd h (fun q => by cases q)
      replace h := if_f h q33
      by_cases q34 : y2 = (34 : Int32)
      · replace h := if_t h q34
        refine lv_tableIn (tgt := 1311) (off := 1279) hx hb dL_law_32 (by rw [q34]; decide) (by rw [q34]; decide) (by rw [q34]; rfl) (by decide) ?_
        refine lv_aload_n hx hb dL_law_1311 rfl (lv_at hl 1 rfl) ?_
        refine lv_aload_n hx hb dL_law_1312 rfl (lv_at hl 0 rfl) ?_
        refine lv_iload_n hx hb dL_law_1313 rfl (lv_at hl 3 rfl) ?_
        refine lv_iconst (v := 1) hx hb dL_law_1314 (by decide) ?_
        refine lv_iadd hx hb dL_law_1315 ?_
        obtain ⟨g360, h⟩ := gd_some h
        refine va_sld hx hb hXs hbl hbA I.2.2.1 g360 dL_law_1316 ?_
        refine lv_aload_n hx hb dL_law_1317 rfl (lv_at hl 0 rfl) ?_
        refine lv_iload_n hx hb dL_law_1318 rfl (lv_at hl 3 rfl) ?_
        refine lv_iconst (v := 2) hx hb dL_law_1319 (by decide) ?_
        refine lv_iadd hx hb dL_law_1320 ?_
        obtain ⟨g361, h⟩ := gd_some h
        refine va_sld hx hb hXs hbl hbA I.2.2.1 g361 dL_law_1321 ?_
        refine lv_aload_n hx hb dL_law_1322 rfl (lv_at hl 0 rfl) ?_
        refine lv_iload_n hx hb dL_law_1323 rfl (lv_at hl 3 rfl) ?_
        refine lv_iconst (v := 3) hx hb dL_law_1324 (by decide) ?_
        refine lv_iadd hx hb dL_law_1325 ?_
        obtain ⟨g362, h⟩ := gd_some h
        refine va_sld hx hb hXs hbl hbA I.2.2.1 g362 dL_law_1326 ?_
        obtain ⟨r363, q364, h⟩ := bd1_some h
        refine call_i (X := []) (wc := (bO G oa na ka aa ra pa sd yd td ow ++ (bV G na nw ++ (bV G ka kp ++ (bA G aa wa ah ++ (bV G wa aw ++ (bT G ra ma rd ++ (bV G ma md ++ (bP G pa tp ++ (bH G sd hh ++ (bY G yd td th ++ (bK G td tr ++ [])))))))))))) (Y := wM G ad s ++ []) (rest := []) XX I hl.1 (c_O_item l G OK oa na ka aa wa ra ma pa sd yd td ow nw kp ah aw rd md tp hh th tr (xs (v3 + (1 : Int32)).toNatClampNeg) (xs (v3 + (2 : Int32)).toNatClampNeg) (xs (v3 + (3 : Int32)).toNatClampNeg) r363 q364) kV_L_159 (Rc.mk XX I (q0 := 0) (ci := 11) rfl rfl) rfl rfl (Nat.le_of_ble_eq_true rfl) ⟨rfl, rfl, Nat.le_of_ble_eq_true rfl, Nat.le_of_ble_eq_true rfl⟩ ⟨hc1, hs1⟩ dL_law_1327 (fun H locs hz I => ?_)
        replace I : Iv G (fun q : Nat => s0.heap.size ≤ q) s0 H locs ((bO G oa na ka aa ra pa sd yd td ow ++ (bV G na nw ++ (bV G ka kp ++ (bA G aa wa ah ++ (bV G wa aw ++ (bT G ra ma rd ++ (bV G ma md ++ (bP G pa tp ++ (bH G sd hh ++ (bY G yd td th ++ (bK G td tr ++ []))))))))))) ++ (wM G ad s ++ [])) := I
        refine lv_aload_n hx hb dL_law_1330 rfl (lv_at hl 2 rfl) ?_
        refine lv_aload_n hx hb dL_law_1331 rfl (lv_at hl 0 rfl) ?_
        refine lv_iload_n hx hb dL_law_1332 rfl (lv_at hl 3 rfl) ?_
        refine lv_iconst (v := 1) hx hb dL_law_1333 (by decide) ?_
        refine lv_iadd hx hb dL_law_1334 ?_
        obtain ⟨g365, h⟩ := gd_some h
        refine va_sld hx hb hXs hbl hbA I.2.2.1 g365 dL_law_1335 ?_
        refine lv_aload_n hx hb dL_law_1336 rfl (lv_at hl 0 rfl) ?_
        refine lv_iload_n hx hb dL_law_1337 rfl (lv_at hl 3 rfl) ?_
        refine lv_iconst (v := 2) hx hb dL_law_1338 (by decide) ?_
        refine lv_iadd hx hb dL_law_1339 ?_
        obtain ⟨g366, h⟩ := gd_some h
        refine va_sld hx hb hXs hbl hbA I.2.2.1 g366 dL_law_1340 ?_
        refine lv_aload_n hx hb dL_law_1341 rfl (lv_at hl 0 rfl) ?_
        refine lv_iload_n hx hb dL_law_1342 rfl (lv_at hl 3 rfl) ?_
        refine lv_iconst (v := 3) hx hb dL_law_1343 (by decide) ?_
        refine lv_iadd hx hb dL_law_1344 ?_
        obtain ⟨g367, h⟩ := gd_some h
        refine va_sld hx hb hXs hbl hbA I.2.2.1 g367 dL_law_1345 ?_
        obtain ⟨r368, q369, h⟩ := bd1_some h
        refine call_i (X := (bO G oa na ka aa ra pa sd yd td ow ++ (bV G na nw ++ (bV G ka kp ++ (bA G aa wa ah ++ (bV G wa aw ++ (bT G ra ma rd ++ (bV G ma md ++ (bP G pa tp ++ (bH G sd hh ++ (bY G yd td th ++ (bK G td tr ++ [])))))))))))) (wc := wM G ad s) (Y := []) (rest := [.int r363]) XX I hl.1 (c_M_item l G OK ad s (xs (v3 + (1 : Int32)).toNatClampNeg) (xs (v3 + (2 : Int32)).toNatClampNeg) (xs (v3 + (3 : Int32)).toNatClampNeg) r368 q369) kV_L_162 (Rc.mk XX I (q0 := 121) (ci := 12) rfl rfl) rfl rfl (Nat.le_of_ble_eq_true rfl) ⟨rfl, rfl, Nat.le_of_ble_eq_true rfl, Nat.le_of_ble_eq_true rfl⟩ ⟨hc1, hs1⟩ dL_law_1346 (fun H locs hz I => ?_)
        replace I : Iv G (fun q : Nat => s0.heap.size ≤ q) s0 H locs ((bO G oa na ka aa ra pa sd yd td ow ++ (bV G na nw ++ (bV G ka kp ++ (bA G aa wa ah ++ (bV G wa aw ++ (bT G ra ma rd ++ (bV G ma md ++ (bP G pa tp ++ (bH G sd hh ++ (bY G yd td th ++ (bK G td tr ++ []))))))))))) ++ (wM G ad s ++ [])) := I
        refine lv_icmp_eq (tgt := 1545) hx hb dL_law_1349 (by decide) (fun c1 => ?_) (fun c1 => ?_)
        · replace h := if_t h c1
          obtain ⟨y370, ey370⟩ : ∃ z : Int32, z = v3 + (5 : Int32) := ⟨_, rfl⟩
          replace h := lt_e h ey370
          refine lv_iinc (v := y370) (lv' := [(3, .int y370), (0, .ref b), (1, .ref (oa 0)), (2, .ref (ad 0))]) hx hb dL_law_1545 hl (k := 3) rfl (by rw [ey370]; rfl) (by decide) rfl (fun ls hl => ?_)
          refine lv_goto (tgt := 18) hx hb dL_law_1548 (by decide) ?_
          exact ih _ _ _ _ _ _ _ _ _ _ _ _ _ h _ _ I ls (lv_sub hl [1, 2, 3, 0] rfl)
        · replace h := if_f h c1
          refine lv_iconst (v := 0) hx hb dL_law_1352 (by decide) ?_
          exact absurd h (fun q => by cases q)
      replace h := if_f h q34
      by_cases q35 : y2 = (35 : Int32)
      · replace h := if_t h q35
        refine lv_tableIn (tgt := 1354) (off := 1322) hx hb dL_law_32 (by rw [q35]; decide) (by rw [q35]; decide) (by rw [q35]; rfl) (by decide) ?_
        refine lv_aload_n hx hb dL_law_1354 rfl (lv_at hl 1 rfl) ?_
        refine lv_aload_n hx hb dL_law_1355 rfl (lv_at hl 0 rfl) ?_
        refine lv_iload_n hx hb dL_law_1356 rfl (lv_at hl 3 rfl) ?_
        refine lv_iconst (v := 1) hx hb dL_law_1357 (by decide) ?_
        refine lv_iadd hx hb dL_law_1358 ?_
        obtain ⟨g371, h⟩ := gd_some h
        refine va_sld hx hb hXs hbl hbA I.2.2.1 g371 dL_law_1359 ?_
        refine lv_aload_n hx hb dL_law_1360 rfl (lv_at hl 0 rfl) ?_
        refine lv_iload_n hx hb dL_law_1361 rfl (lv_at hl 3 rfl) ?_
        refine lv_iconst (v := 2) hx hb dL_law_1362 (by decide) ?_
        refine lv_iadd hx hb dL_law_1363 ?_
        obtain ⟨g372, h⟩ := gd_some h
        refine va_sld hx hb hXs hbl hbA I.2.2.1 g372 dL_law_1364 ?_
        refine lv_aload_n hx hb dL_law_1365 rfl (lv_at hl 0 rfl) ?_
        refine lv_iload_n hx hb dL_law_1366 rfl (lv_at hl 3 rfl) ?_
        refine lv_iconst (v := 3) hx hb dL_law_1367 (by decide) ?_
        refine lv_iadd hx hb dL_law_1368 ?_
        obtain ⟨g373, h⟩ := gd_some h
        refine va_sld hx hb hXs hbl hbA I.2.2.1 g373 dL_law_1369 ?_
        obtain ⟨r374, s375, q376, h⟩ := bd2_some h
        refine call_i (X := []) (wc := (bO G oa na ka aa ra pa sd yd td ow ++ (bV G na nw ++ (bV G ka kp ++ (bA G aa wa ah ++ (bV G wa aw ++ (bT G ra ma rd ++ (bV G ma md ++ (bP G pa tp ++ (bH G sd hh ++ (bY G yd td th ++ (bK G td tr ++ [])))))))))))) (Y := wM G ad s ++ []) (rest := []) XX I hl.1 (c_O_shelf l G OK oa na ka aa wa ra ma pa sd yd td ow nw kp ah aw rd md tp hh th tr (xs (v3 + (1 : Int32)).toNatClampNeg) (xs (v3 + (2 : Int32)).toNatClampNeg) (xs (v3 + (3 : Int32)).toNatClampNeg) r374 s375 q376) kV_L_163 (Rc.mk XX I (q0 := 0) (ci := 11) rfl rfl) rfl rfl (Nat.le_of_ble_eq_true rfl) ⟨rfl, rfl, Nat.le_of_ble_eq_true rfl, Nat.le_of_ble_eq_true rfl⟩ ⟨hc1, hs1⟩ dL_law_1370 (fun H locs hz I => ?_)
        replace I : Iv G (fun q : Nat => s0.heap.size ≤ q) s0 H locs ((bO G oa na ka aa ra pa sd yd td s375 ++ (bV G na nw ++ (bV G ka kp ++ (bA G aa wa ah ++ (bV G wa aw ++ (bT G ra ma rd ++ (bV G ma md ++ (bP G pa tp ++ (bH G sd hh ++ (bY G yd td th ++ (bK G td tr ++ []))))))))))) ++ (wM G ad s ++ [])) := I
        refine lv_aload_n hx hb dL_law_1373 rfl (lv_at hl 2 rfl) ?_
        refine lv_aload_n hx hb dL_law_1374 rfl (lv_at hl 0 rfl) ?_
        refine lv_iload_n hx hb dL_law_1375 rfl (lv_at hl 3 rfl) ?_
        refine lv_iconst (v := 1) hx hb dL_law_1376 (by decide) ?_
        refine lv_iadd hx hb dL_law_1377 ?_
        obtain ⟨g377, h⟩ := gd_some h
        refine va_sld hx hb hXs hbl hbA I.2.2.1 g377 dL_law_1378 ?_
        refine lv_aload_n hx hb dL_law_1379 rfl (lv_at hl 0 rfl) ?_
        refine lv_iload_n hx hb dL_law_1380 rfl (lv_at hl 3 rfl) ?_
        refine lv_iconst (v := 2) hx hb dL_law_1381 (by decide) ?_
        refine lv_iadd hx hb dL_law_1382 ?_
        obtain ⟨g378, h⟩ := gd_some h
        refine va_sld hx hb hXs hbl hbA I.2.2.1 g378 dL_law_1383 ?_
        refine lv_aload_n hx hb dL_law_1384 rfl (lv_at hl 0 rfl) ?_
        refine lv_iload_n hx hb dL_law_1385 rfl (lv_at hl 3 rfl) ?_
        refine lv_iconst (v := 3) hx hb dL_law_1386 (by decide) ?_
        refine lv_iadd hx hb dL_law_1387 ?_
        obtain ⟨g379, h⟩ := gd_some h
        refine va_sld hx hb hXs hbl hbA I.2.2.1 g379 dL_law_1388 ?_
        obtain ⟨r380, s381, q382, h⟩ := bd2_some h
        refine call_i (X := (bO G oa na ka aa ra pa sd yd td s375 ++ (bV G na nw ++ (bV G ka kp ++ (bA G aa wa ah ++ (bV G wa aw ++ (bT G ra ma rd ++ (bV G ma md ++ (bP G pa tp ++ (bH G sd hh ++ (bY G yd td th ++ (bK G td tr ++ [])))))))))))) (wc := wM G ad s) (Y := []) (rest := [.int r374]) XX I hl.1 (c_M_shelf l G OK ad s (xs (v3 + (1 : Int32)).toNatClampNeg) (xs (v3 + (2 : Int32)).toNatClampNeg) (xs (v3 + (3 : Int32)).toNatClampNeg) r380 s381 q382) kV_L_166 (Rc.mk XX I (q0 := 121) (ci := 12) rfl rfl) rfl rfl (Nat.le_of_ble_eq_true rfl) ⟨rfl, rfl, Nat.le_of_ble_eq_true rfl, Nat.le_of_ble_eq_true rfl⟩ ⟨hc1, hs1⟩ dL_law_1389 (fun H locs hz I => ?_)
        replace I : Iv G (fun q : Nat => s0.heap.size ≤ q) s0 H locs ((bO G oa na ka aa ra pa sd yd td s375 ++ (bV G na nw ++ (bV G ka kp ++ (bA G aa wa ah ++ (bV G wa aw ++ (bT G ra ma rd ++ (bV G ma md ++ (bP G pa tp ++ (bH G sd hh ++ (bY G yd td th ++ (bK G td tr ++ []))))))))))) ++ (wM G ad s381 ++ [])) := I
        refine lv_icmp_eq (tgt := 1545) hx hb dL_law_1392 (by decide) (fun c1 => ?_) (fun c1 => ?_)
        · replace h := if_t h c1
          obtain ⟨y383, ey383⟩ : ∃ z : Int32, z = v3 + (5 : Int32) := ⟨_, rfl⟩
          replace h := lt_e h ey383
          refine lv_iinc (v := y383) (lv' := [(3, .int y383), (0, .ref b), (1, .ref (oa 0)), (2, .ref (ad 0))]) hx hb dL_law_1545 hl (k := 3) rfl (by rw [ey383]; rfl) (by decide) rfl (fun ls hl => ?_)
          refine lv_goto (tgt := 18) hx hb dL_law_1548 (by decide) ?_
          exact ih _ _ _ _ _ _ _ _ _ _ _ _ _ h _ _ I ls (lv_sub hl [1, 2, 3, 0] rfl)
        · replace h := if_f h c1
          refine lv_iconst (v := 0) hx hb dL_law_1395 (by decide) ?_
          exact absurd h (fun q => by cases q)
      replace h := if_f h q35
      by_cases q36 : y2 = (36 : Int32)
      · replace h := if_t h q36
        refine lv_tableIn (tgt := 1397) (off := 1365) hx hb dL_law_32 (by rw [q36]; decide) (by rw [q36]; decide) (by rw [q36]; rfl) (by decide) ?_
        refine lv_aload_n hx hb dL_law_1397 rfl (lv_at hl 1 rfl) ?_
        refine lv_aload_n hx hb dL_law_1398 rfl (lv_at hl 0 rfl) ?_
        refine lv_iload_n hx hb dL_law_1399 rfl (lv_at hl 3 rfl) ?_
        refine lv_iconst (v := 1) hx hb dL_law_1400 (by decide) ?_
        refine lv_iadd hx hb dL_law_1401 ?_
        obtain ⟨g384, h⟩ := gd_some h
        refine va_sld hx hb hXs hbl hbA I.2.2.1 g384 dL_law_1402 ?_
        refine lv_aload_n hx hb dL_law_1403 rfl (lv_at hl 0 rfl) ?_
        refine lv_iload_n hx hb dL_law_1404 rfl (lv_at hl 3 rfl) ?_
        refine lv_iconst (v := 2) hx hb dL_law_1405 (by decide) ?_
        refine lv_iadd hx hb dL_law_1406 ?_
        obtain ⟨g385, h⟩ := gd_some h
        refine va_sld hx hb hXs hbl hbA I.2.2.1 g385 dL_law_1407 ?_
        obtain ⟨r386, s387, q388, h⟩ := bd2_some h
        refine call_i (X := []) (wc := (bO G oa na ka aa ra pa sd yd td ow ++ (bV G na nw ++ (bV G ka kp ++ (bA G aa wa ah ++ (bV G wa aw ++ (bT G ra ma rd ++ (bV G ma md ++ (bP G pa tp ++ (bH G sd hh ++ (bY G yd td th ++ (bK G td tr ++ [])))))))))))) (Y := wM G ad s ++ []) (rest := []) XX I hl.1 (c_O_taken l G OK hXI oa na ka aa wa ra ma pa sd yd td ow nw kp ah aw rd md tp hh th tr (xs (v3 + (1 : Int32)).toNatClampNeg) (xs (v3 + (2 : Int32)).toNatClampNeg) r386 s387 q388) kV_L_167 (Rc.mk XX I (q0 := 0) (ci := 11) rfl rfl) rfl rfl (Nat.le_of_ble_eq_true rfl) ⟨rfl, rfl, Nat.le_of_ble_eq_true rfl, Nat.le_of_ble_eq_true rfl⟩ ⟨hc1, hs1⟩ dL_law_1408 (fun H locs hz I => ?_)
        replace I : Iv G (fun q : Nat => s0.heap.size ≤ q) s0 H locs ((bO G oa na ka aa ra pa sd yd td ow ++ (bV G na nw ++ (bV G ka kp ++ (bA G aa wa ah ++ (bV G wa aw ++ (bT G ra ma rd ++ (bV G ma md ++ (bP G pa tp ++ (bH G sd hh ++ (bY G yd td s387 ++ (bK G td tr ++ []))))))))))) ++ (wM G ad s ++ [])) := I
        refine lv_aload_n hx hb dL_law_1411 rfl (lv_at hl 2 rfl) ?_
        refine lv_aload_n hx hb dL_law_1412 rfl (lv_at hl 0 rfl) ?_
        refine lv_iload_n hx hb dL_law_1413 rfl (lv_at hl 3 rfl) ?_
        refine lv_iconst (v := 1) hx hb dL_law_1414 (by decide) ?_
        refine lv_iadd hx hb dL_law_1415 ?_
        obtain ⟨g389, h⟩ := gd_some h
        refine va_sld hx hb hXs hbl hbA I.2.2.1 g389 dL_law_1416 ?_
        refine lv_aload_n hx hb dL_law_1417 rfl (lv_at hl 0 rfl) ?_
        refine lv_iload_n hx hb dL_law_1418 rfl (lv_at hl 3 rfl) ?_
        refine lv_iconst (v := 2) hx hb dL_law_1419 (by decide) ?_
        refine lv_iadd hx hb dL_law_1420 ?_
        obtain ⟨g390, h⟩ := gd_some h
        refine va_sld hx hb hXs hbl hbA I.2.2.1 g390 dL_law_1421 ?_
        obtain ⟨r391, q392, h⟩ := bd1_some h
        refine call_i (X := (bO G oa na ka aa ra pa sd yd td ow ++ (bV G na nw ++ (bV G ka kp ++ (bA G aa wa ah ++ (bV G wa aw ++ (bT G ra ma rd ++ (bV G ma md ++ (bP G pa tp ++ (bH G sd hh ++ (bY G yd td s387 ++ (bK G td tr ++ [])))))))))))) (wc := wM G ad s) (Y := []) (rest := [.int r386]) XX I hl.1 (c_M_taken l G OK ad s (xs (v3 + (1 : Int32)).toNatClampNeg) (xs (v3 + (2 : Int32)).toNatClampNeg) r391 q392) kV_L_170 (Rc.mk XX I (q0 := 121) (ci := 12) rfl rfl) rfl rfl (Nat.le_of_ble_eq_true rfl) ⟨rfl, rfl, Nat.le_of_ble_eq_true rfl, Nat.le_of_ble_eq_true rfl⟩ ⟨hc1, hs1⟩ dL_law_1422 (fun H locs hz I => ?_)
        replace I : Iv G (fun q : Nat => s0.heap.size ≤ q) s0 H locs ((bO G oa na ka aa ra pa sd yd td ow ++ (bV G na nw ++ (bV G ka kp ++ (bA G aa wa ah ++ (bV G wa aw ++ (bT G ra ma rd ++ (bV G ma md ++ (bP G pa tp ++ (bH G sd hh ++ (bY G yd td s387 ++ (bK G td tr ++ []))))))))))) ++ (wM G ad s ++ [])) := I
        refine lv_icmp_eq (tgt := 1545) hx hb dL_law_1425 (by decide) (fun c1 => ?_) (fun c1 => ?_)
        · replace h := if_t h c1
          obtain ⟨y393, ey393⟩ : ∃ z : Int32, z = v3 + (5 : Int32) := ⟨_, rfl⟩
          replace h := lt_e h ey393
          refine lv_iinc (v := y393) (lv' := [(3, .int y393), (0, .ref b), (1, .ref (oa 0)), (2, .ref (ad 0))]) hx hb dL_law_1545 hl (k := 3) rfl (by rw [ey393]; rfl) (by decide) rfl (fun ls hl => ?_)
          refine lv_goto (tgt := 18) hx hb dL_law_1548 (by decide) ?_
          exact ih _ _ _ _ _ _ _ _ _ _ _ _ _ h _ _ I ls (lv_sub hl [1, 2, 3, 0] rfl)
        · replace h := if_f h c1
          refine lv_iconst (v := 0) hx hb dL_law_1428 (by decide) ?_
          exact absurd h (fun q => by cases q)
      replace h := if_f h q36
      by_cases q37 : y2 = (37 : Int32)
      · replace h := if_t h q37
        refine lv_tableIn (tgt := 1430) (off := 1398) hx hb dL_law_32 (by rw [q37]; decide) (by rw [q37]; decide) (by rw [q37]; rfl) (by decide) ?_
        refine lv_aload_n hx hb dL_law_1430 rfl (lv_at hl 1 rfl) ?_
        refine lv_aload_n hx hb dL_law_1431 rfl (lv_at hl 0 rfl) ?_
        refine lv_iload_n hx hb dL_law_1432 rfl (lv_at hl 3 rfl) ?_
        refine lv_iconst (v := 1) hx hb dL_law_1433 (by decide) ?_
        refine lv_iadd hx hb dL_law_1434 ?_
        obtain ⟨g394, h⟩ := gd_some h
        refine va_sld hx hb hXs hbl hbA I.2.2.1 g394 dL_law_1435 ?_
        refine lv_aload_n hx hb dL_law_1436 rfl (lv_at hl 0 rfl) ?_
        refine lv_iload_n hx hb dL_law_1437 rfl (lv_at hl 3 rfl) ?_
        refine lv_iconst (v := 2) hx hb dL_law_1438 (by decide) ?_
        refine lv_iadd hx hb dL_law_1439 ?_
        obtain ⟨g395, h⟩ := gd_some h
        refine va_sld hx hb hXs hbl hbA I.2.2.1 g395 dL_law_1440 ?_
        refine lv_aload_n hx hb dL_law_1441 rfl (lv_at hl 0 rfl) ?_
        refine lv_iload_n hx hb dL_law_1442 rfl (lv_at hl 3 rfl) ?_
        refine lv_iconst (v := 3) hx hb dL_law_1443 (by decide) ?_
        refine lv_iadd hx hb dL_law_1444 ?_
        obtain ⟨g396, h⟩ := gd_some h
        refine va_sld hx hb hXs hbl hbA I.2.2.1 g396 dL_law_1445 ?_
        obtain ⟨r397, s398, s399, q400, h⟩ := bd3_some h
        refine call_i (X := []) (wc := (bO G oa na ka aa ra pa sd yd td ow ++ (bV G na nw ++ (bV G ka kp ++ (bA G aa wa ah ++ (bV G wa aw ++ (bT G ra ma rd ++ (bV G ma md ++ (bP G pa tp ++ (bH G sd hh ++ (bY G yd td th ++ (bK G td tr ++ [])))))))))))) (Y := wM G ad s ++ []) (rest := []) XX I hl.1 (c_O_act l G OK oa na ka aa wa ra ma pa sd yd td ow nw kp ah aw rd md tp hh th tr (xs (v3 + (1 : Int32)).toNatClampNeg) (xs (v3 + (2 : Int32)).toNatClampNeg) (xs (v3 + (3 : Int32)).toNatClampNeg) r397 s398 s399 q400) kV_L_171 (Rc.mk XX I (q0 := 0) (ci := 11) rfl rfl) rfl rfl (Nat.le_of_ble_eq_true rfl) ⟨rfl, rfl, Nat.le_of_ble_eq_true rfl, Nat.le_of_ble_eq_true rfl⟩ ⟨hc1, hs1⟩ dL_law_1446 (fun H locs hz I => ?_)
        replace I : Iv G (fun q : Nat => s0.heap.size ≤ q) s0 H locs ((bO G oa na ka aa ra pa sd yd td ow ++ (bV G na nw ++ (bV G ka kp ++ (bA G aa wa ah ++ (bV G wa aw ++ (bT G ra ma rd ++ (bV G ma md ++ (bP G pa tp ++ (bH G sd hh ++ (bY G yd td s398 ++ (bK G td s399 ++ []))))))))))) ++ (wM G ad s ++ [])) := I
        refine lv_aload_n hx hb dL_law_1449 rfl (lv_at hl 2 rfl) ?_
        refine lv_aload_n hx hb dL_law_1450 rfl (lv_at hl 0 rfl) ?_
        refine lv_iload_n hx hb dL_law_1451 rfl (lv_at hl 3 rfl) ?_
        refine lv_iconst (v := 1) hx hb dL_law_1452 (by decide) ?_
        refine lv_iadd hx hb dL_law_1453 ?_
        obtain ⟨g401, h⟩ := gd_some h
        refine va_sld hx hb hXs hbl hbA I.2.2.1 g401 dL_law_1454 ?_
        refine lv_aload_n hx hb dL_law_1455 rfl (lv_at hl 0 rfl) ?_
        refine lv_iload_n hx hb dL_law_1456 rfl (lv_at hl 3 rfl) ?_
        refine lv_iconst (v := 2) hx hb dL_law_1457 (by decide) ?_
        refine lv_iadd hx hb dL_law_1458 ?_
        obtain ⟨g402, h⟩ := gd_some h
        refine va_sld hx hb hXs hbl hbA I.2.2.1 g402 dL_law_1459 ?_
        refine lv_aload_n hx hb dL_law_1460 rfl (lv_at hl 0 rfl) ?_
        refine lv_iload_n hx hb dL_law_1461 rfl (lv_at hl 3 rfl) ?_
        refine lv_iconst (v := 3) hx hb dL_law_1462 (by decide) ?_
        refine lv_iadd hx hb dL_law_1463 ?_
        obtain ⟨g403, h⟩ := gd_some h
        refine va_sld hx hb hXs hbl hbA I.2.2.1 g403 dL_law_1464 ?_
        obtain ⟨r404, s405, q406, h⟩ := bd2_some h
        refine call_i (X := (bO G oa na ka aa ra pa sd yd td ow ++ (bV G na nw ++ (bV G ka kp ++ (bA G aa wa ah ++ (bV G wa aw ++ (bT G ra ma rd ++ (bV G ma md ++ (bP G pa tp ++ (bH G sd hh ++ (bY G yd td s398 ++ (bK G td s399 ++ [])))))))))))) (wc := wM G ad s) (Y := []) (rest := [.int r397]) XX I hl.1 (c_M_act l G OK ad s (xs (v3 + (1 : Int32)).toNatClampNeg) (xs (v3 + (2 : Int32)).toNatClampNeg) (xs (v3 + (3 : Int32)).toNatClampNeg) r404 s405 q406) kV_L_174 (Rc.mk XX I (q0 := 121) (ci := 12) rfl rfl) rfl rfl (Nat.le_of_ble_eq_true rfl) ⟨rfl, rfl, Nat.le_of_ble_eq_true rfl, Nat.le_of_ble_eq_true rfl⟩ ⟨hc1, hs1⟩ dL_law_1465 (fun H locs hz I => ?_)
        replace I : Iv G (fun q : Nat => s0.heap.size ≤ q) s0 H locs ((bO G oa na ka aa ra pa sd yd td ow ++ (bV G na nw ++ (bV G ka kp ++ (bA G aa wa ah ++ (bV G wa aw ++ (bT G ra ma rd ++ (bV G ma md ++ (bP G pa tp ++ (bH G sd hh ++ (bY G yd td s398 ++ (bK G td s399 ++ []))))))))))) ++ (wM G ad s405 ++ [])) := I
        refine lv_icmp_eq (tgt := 1545) hx hb dL_law_1468 (by decide) (fun c1 => ?_) (fun c1 => ?_)
        · replace h := if_t h c1
          obtain ⟨y407, ey407⟩ : ∃ z : Int32, z = v3 + (5 : Int32) := ⟨_, rfl⟩
          replace h := lt_e h ey407
          refine lv_iinc (v := y407) (lv' := [(3, .int y407), (0, .ref b), (1, .ref (oa 0)), (2, .ref (ad 0))]) hx hb dL_law_1545 hl (k := 3) rfl (by rw [ey407]; rfl) (by decide) rfl (fun ls hl => ?_)
          refine lv_goto (tgt := 18) hx hb dL_law_1548 (by decide) ?_
          exact ih _ _ _ _ _ _ _ _ _ _ _ _ _ h _ _ I ls (lv_sub hl [1, 2, 3, 0] rfl)
        · replace h := if_f h c1
          refine lv_iconst (v := 0) hx hb dL_law_1471 (by decide) ?_
          exact absurd h (fun q => by cases q)
      replace h := if_f h q37
      by_cases q38 : y2 = (38 : Int32)
      · replace h := if_t h q38
        refine lv_tableIn (tgt := 1473) (off := 1441) hx hb dL_law_32 (by rw [q38]; decide) (by rw [q38]; decide) (by rw [q38]; rfl) (by decide) ?_
        refine lv_aload_n hx hb dL_law_1473 rfl (lv_at hl 1 rfl) ?_
        refine lv_aload_n hx hb dL_law_1474 rfl (lv_at hl 0 rfl) ?_
        refine lv_iload_n hx hb dL_law_1475 rfl (lv_at hl 3 rfl) ?_
        refine lv_iconst (v := 1) hx hb dL_law_1476 (by decide) ?_
        refine lv_iadd hx hb dL_law_1477 ?_
        obtain ⟨g408, h⟩ := gd_some h
        refine va_sld hx hb hXs hbl hbA I.2.2.1 g408 dL_law_1478 ?_
        obtain ⟨r409, q410, h⟩ := bd1_some h
        refine call_i (X := []) (wc := (bO G oa na ka aa ra pa sd yd td ow ++ (bV G na nw ++ (bV G ka kp ++ (bA G aa wa ah ++ (bV G wa aw ++ (bT G ra ma rd ++ (bV G ma md ++ (bP G pa tp ++ (bH G sd hh ++ (bY G yd td th ++ (bK G td tr ++ [])))))))))))) (Y := wM G ad s ++ []) (rest := []) XX I hl.1 (c_O_trace l G OK oa na ka aa wa ra ma pa sd yd td ow nw kp ah aw rd md tp hh th tr (xs (v3 + (1 : Int32)).toNatClampNeg) r409 q410) kV_L_175 (Rc.mk XX I (q0 := 0) (ci := 11) rfl rfl) rfl rfl (Nat.le_of_ble_eq_true rfl) ⟨rfl, rfl, Nat.le_of_ble_eq_true rfl, Nat.le_of_ble_eq_true rfl⟩ ⟨hc1, hs1⟩ dL_law_1479 (fun H locs hz I => ?_)
        replace I : Iv G (fun q : Nat => s0.heap.size ≤ q) s0 H locs ((bO G oa na ka aa ra pa sd yd td ow ++ (bV G na nw ++ (bV G ka kp ++ (bA G aa wa ah ++ (bV G wa aw ++ (bT G ra ma rd ++ (bV G ma md ++ (bP G pa tp ++ (bH G sd hh ++ (bY G yd td th ++ (bK G td tr ++ []))))))))))) ++ (wM G ad s ++ [])) := I
        refine lv_aload_n hx hb dL_law_1482 rfl (lv_at hl 2 rfl) ?_
        refine lv_aload_n hx hb dL_law_1483 rfl (lv_at hl 0 rfl) ?_
        refine lv_iload_n hx hb dL_law_1484 rfl (lv_at hl 3 rfl) ?_
        refine lv_iconst (v := 1) hx hb dL_law_1485 (by decide) ?_
        refine lv_iadd hx hb dL_law_1486 ?_
        obtain ⟨g411, h⟩ := gd_some h
        refine va_sld hx hb hXs hbl hbA I.2.2.1 g411 dL_law_1487 ?_
        obtain ⟨r412, q413, h⟩ := bd1_some h
        refine call_i (X := (bO G oa na ka aa ra pa sd yd td ow ++ (bV G na nw ++ (bV G ka kp ++ (bA G aa wa ah ++ (bV G wa aw ++ (bT G ra ma rd ++ (bV G ma md ++ (bP G pa tp ++ (bH G sd hh ++ (bY G yd td th ++ (bK G td tr ++ [])))))))))))) (wc := wM G ad s) (Y := []) (rest := [.int r409]) XX I hl.1 (c_M_trace l G OK ad s (xs (v3 + (1 : Int32)).toNatClampNeg) r412 q413) kV_L_178 (Rc.mk XX I (q0 := 121) (ci := 12) rfl rfl) rfl rfl (Nat.le_of_ble_eq_true rfl) ⟨rfl, rfl, Nat.le_of_ble_eq_true rfl, Nat.le_of_ble_eq_true rfl⟩ ⟨hc1, hs1⟩ dL_law_1488 (fun H locs hz I => ?_)
        replace I : Iv G (fun q : Nat => s0.heap.size ≤ q) s0 H locs ((bO G oa na ka aa ra pa sd yd td ow ++ (bV G na nw ++ (bV G ka kp ++ (bA G aa wa ah ++ (bV G wa aw ++ (bT G ra ma rd ++ (bV G ma md ++ (bP G pa tp ++ (bH G sd hh ++ (bY G yd td th ++ (bK G td tr ++ []))))))))))) ++ (wM G ad s ++ [])) := I
        refine lv_icmp_eq (tgt := 1545) hx hb dL_law_1491 (by decide) (fun c1 => ?_) (fun c1 => ?_)
        · replace h := if_t h c1
          obtain ⟨y414, ey414⟩ : ∃ z : Int32, z = v3 + (5 : Int32) := ⟨_, rfl⟩
          replace h := lt_e h ey414
          refine lv_iinc (v := y414) (lv' := [(3, .int y414), (0, .ref b), (1, .ref (oa 0)), (2, .ref (ad 0))]) hx hb dL_law_1545 hl (k := 3) rfl (by rw [ey414]; rfl) (by decide) rfl (fun ls hl => ?_)
          refine lv_goto (tgt := 18) hx hb dL_law_1548 (by decide) ?_
          exact ih _ _ _ _ _ _ _ _ _ _ _ _ _ h _ _ I ls (lv_sub hl [1, 2, 3, 0] rfl)
        · replace h := if_f h c1
          refine lv_iconst (v := 0) hx hb dL_law_1494 (by decide) ?_
          exact absurd h (fun q => by cases q)
      replace h := if_f h q38
      by_cases q39 : y2 = (39 : Int32)
      · replace h := if_t h q39
        refine lv_tableIn (tgt := 1496) (off := 1464) hx hb dL_law_32 (by rw [q39]; decide) (by rw [q39]; decide) (by rw [q39]; rfl) (by decide) ?_
        refine lv_aload_n hx hb dL_law_1496 rfl (lv_at hl 1 rfl) ?_
        refine lv_aload_n hx hb dL_law_1497 rfl (lv_at hl 0 rfl) ?_
        refine lv_iload_n hx hb dL_law_1498 rfl (lv_at hl 3 rfl) ?_
        refine lv_iconst (v := 1) hx hb dL_law_1499 (by decide) ?_
        refine lv_iadd hx hb dL_law_1500 ?_
        obtain ⟨g415, h⟩ := gd_some h
        refine va_sld hx hb hXs hbl hbA I.2.2.1 g415 dL_law_1501 ?_
        obtain ⟨r416, q417, h⟩ := bd1_some h
        refine call_i (X := []) (wc := (bO G oa na ka aa ra pa sd yd td ow ++ (bV G na nw ++ (bV G ka kp ++ (bA G aa wa ah ++ (bV G wa aw ++ (bT G ra ma rd ++ (bV G ma md ++ (bP G pa tp ++ (bH G sd hh ++ (bY G yd td th ++ (bK G td tr ++ [])))))))))))) (Y := wM G ad s ++ []) (rest := []) XX I hl.1 (c_O_many l G OK oa na ka aa wa ra ma pa sd yd td fu ow nw kp ah aw rd md tp hh th tr (xs (v3 + (1 : Int32)).toNatClampNeg) r416 q417) kV_L_179 (Rc.mk XX I (q0 := 0) (ci := 11) rfl rfl) rfl rfl (Nat.le_of_ble_eq_true rfl) ⟨rfl, rfl, Nat.le_of_ble_eq_true rfl, Nat.le_of_ble_eq_true rfl⟩ ⟨hc1, hs1⟩ dL_law_1502 (fun H locs hz I => ?_)
        replace I : Iv G (fun q : Nat => s0.heap.size ≤ q) s0 H locs ((bO G oa na ka aa ra pa sd yd td ow ++ (bV G na nw ++ (bV G ka kp ++ (bA G aa wa ah ++ (bV G wa aw ++ (bT G ra ma rd ++ (bV G ma md ++ (bP G pa tp ++ (bH G sd hh ++ (bY G yd td th ++ (bK G td tr ++ []))))))))))) ++ (wM G ad s ++ [])) := I
        refine lv_aload_n hx hb dL_law_1505 rfl (lv_at hl 2 rfl) ?_
        refine lv_aload_n hx hb dL_law_1506 rfl (lv_at hl 0 rfl) ?_
        refine lv_iload_n hx hb dL_law_1507 rfl (lv_at hl 3 rfl) ?_
        refine lv_iconst (v := 1) hx hb dL_law_1508 (by decide) ?_
        refine lv_iadd hx hb dL_law_1509 ?_
        obtain ⟨g418, h⟩ := gd_some h
        refine va_sld hx hb hXs hbl hbA I.2.2.1 g418 dL_law_1510 ?_
        obtain ⟨r419, q420, h⟩ := bd1_some h
        refine call_i (X := (bO G oa na ka aa ra pa sd yd td ow ++ (bV G na nw ++ (bV G ka kp ++ (bA G aa wa ah ++ (bV G wa aw ++ (bT G ra ma rd ++ (bV G ma md ++ (bP G pa tp ++ (bH G sd hh ++ (bY G yd td th ++ (bK G td tr ++ [])))))))))))) (wc := wM G ad s) (Y := []) (rest := [.int r416]) XX I hl.1 (c_M_many l G OK ad fu s (xs (v3 + (1 : Int32)).toNatClampNeg) r419 q420) kV_L_182 (Rc.mk XX I (q0 := 121) (ci := 12) rfl rfl) rfl rfl (Nat.le_of_ble_eq_true rfl) ⟨rfl, rfl, Nat.le_of_ble_eq_true rfl, Nat.le_of_ble_eq_true rfl⟩ ⟨hc1, hs1⟩ dL_law_1511 (fun H locs hz I => ?_)
        replace I : Iv G (fun q : Nat => s0.heap.size ≤ q) s0 H locs ((bO G oa na ka aa ra pa sd yd td ow ++ (bV G na nw ++ (bV G ka kp ++ (bA G aa wa ah ++ (bV G wa aw ++ (bT G ra ma rd ++ (bV G ma md ++ (bP G pa tp ++ (bH G sd hh ++ (bY G yd td th ++ (bK G td tr ++ []))))))))))) ++ (wM G ad s ++ [])) := I
        refine lv_icmp_eq (tgt := 1545) hx hb dL_law_1514 (by decide) (fun c1 => ?_) (fun c1 => ?_)
        · replace h := if_t h c1
          obtain ⟨y421, ey421⟩ : ∃ z : Int32, z = v3 + (5 : Int32) := ⟨_, rfl⟩
          replace h := lt_e h ey421
          refine lv_iinc (v := y421) (lv' := [(3, .int y421), (0, .ref b), (1, .ref (oa 0)), (2, .ref (ad 0))]) hx hb dL_law_1545 hl (k := 3) rfl (by rw [ey421]; rfl) (by decide) rfl (fun ls hl => ?_)
          refine lv_goto (tgt := 18) hx hb dL_law_1548 (by decide) ?_
          exact ih _ _ _ _ _ _ _ _ _ _ _ _ _ h _ _ I ls (lv_sub hl [1, 2, 3, 0] rfl)
        · replace h := if_f h c1
          refine lv_iconst (v := 0) hx hb dL_law_1517 (by decide) ?_
          exact absurd h (fun q => by cases q)
      replace h := if_f h q39
      by_cases q40 : y2 = (40 : Int32)
      · replace h := if_t h q40
        refine lv_tableIn (tgt := 1519) (off := 1487) hx hb dL_law_32 (by rw [q40]; decide) (by rw [q40]; decide) (by rw [q40]; rfl) (by decide) ?_
        refine lv_aload_n hx hb dL_law_1519 rfl (lv_at hl 1 rfl) ?_
        obtain ⟨r422, s423, s424, q425, h⟩ := bd3_some h
        refine call_i (X := []) (wc := (bO G oa na ka aa ra pa sd yd td ow ++ (bV G na nw ++ (bV G ka kp ++ (bA G aa wa ah ++ (bV G wa aw ++ (bT G ra ma rd ++ (bV G ma md ++ (bP G pa tp ++ (bH G sd hh ++ (bY G yd td th ++ (bK G td tr ++ [])))))))))))) (Y := wM G ad s ++ []) (rest := []) XX I hl.1 (c_O_keep l G OK oa na ka aa wa ra ma pa sd yd td fu ow nw kp ah aw rd md tp hh th tr r422 s423 s424 q425) kV_L_183 (Rc.mk XX I (q0 := 0) (ci := 11) rfl rfl) rfl rfl (Nat.le_of_ble_eq_true rfl) ⟨rfl, rfl, Nat.le_of_ble_eq_true rfl, Nat.le_of_ble_eq_true rfl⟩ ⟨hc1, hs1⟩ dL_law_1520 (fun H locs hz I => ?_)
        replace I : Iv G (fun q : Nat => s0.heap.size ≤ q) s0 H locs ((bO G oa na ka aa ra pa sd yd td s423 ++ (bV G na nw ++ (bV G ka s424 ++ (bA G aa wa ah ++ (bV G wa aw ++ (bT G ra ma rd ++ (bV G ma md ++ (bP G pa tp ++ (bH G sd hh ++ (bY G yd td th ++ (bK G td tr ++ []))))))))))) ++ (wM G ad s ++ [])) := I
        refine lv_aload_n hx hb dL_law_1523 rfl (lv_at hl 2 rfl) ?_
        obtain ⟨r426, s427, q428, h⟩ := bd2_some h
        refine call_i (X := (bO G oa na ka aa ra pa sd yd td s423 ++ (bV G na nw ++ (bV G ka s424 ++ (bA G aa wa ah ++ (bV G wa aw ++ (bT G ra ma rd ++ (bV G ma md ++ (bP G pa tp ++ (bH G sd hh ++ (bY G yd td th ++ (bK G td tr ++ [])))))))))))) (wc := wM G ad s) (Y := []) (rest := [.int r422]) XX I hl.1 (c_M_keep l G OK ad fu s r426 s427 q428) kV_L_186 (Rc.mk XX I (q0 := 121) (ci := 12) rfl rfl) rfl rfl (Nat.le_of_ble_eq_true rfl) ⟨rfl, rfl, Nat.le_of_ble_eq_true rfl, Nat.le_of_ble_eq_true rfl⟩ ⟨hc1, hs1⟩ dL_law_1524 (fun H locs hz I => ?_)
        replace I : Iv G (fun q : Nat => s0.heap.size ≤ q) s0 H locs ((bO G oa na ka aa ra pa sd yd td s423 ++ (bV G na nw ++ (bV G ka s424 ++ (bA G aa wa ah ++ (bV G wa aw ++ (bT G ra ma rd ++ (bV G ma md ++ (bP G pa tp ++ (bH G sd hh ++ (bY G yd td th ++ (bK G td tr ++ []))))))))))) ++ (wM G ad s427 ++ [])) := I
        refine lv_icmp_eq (tgt := 1545) hx hb dL_law_1527 (by decide) (fun c1 => ?_) (fun c1 => ?_)
        · replace h := if_t h c1
          obtain ⟨y429, ey429⟩ : ∃ z : Int32, z = v3 + (5 : Int32) := ⟨_, rfl⟩
          replace h := lt_e h ey429
          refine lv_iinc (v := y429) (lv' := [(3, .int y429), (0, .ref b), (1, .ref (oa 0)), (2, .ref (ad 0))]) hx hb dL_law_1545 hl (k := 3) rfl (by rw [ey429]; rfl) (by decide) rfl (fun ls hl => ?_)
          refine lv_goto (tgt := 18) hx hb dL_law_1548 (by decide) ?_
          exact ih _ _ _ _ _ _ _ _ _ _ _ _ _ h _ _ I ls (lv_sub hl [1, 2, 3, 0] rfl)
        · replace h := if_f h c1
          refine lv_iconst (v := 0) hx hb dL_law_1530 (by decide) ?_
          exact absurd h (fun q => by cases q)
      replace h := if_f h q40
      by_cases q41 : y2 = (41 : Int32)
      · replace h := if_t h q41
        refine lv_tableIn (tgt := 1532) (off := 1500) hx hb dL_law_32 (by rw [q41]; decide) (by rw [q41]; decide) (by rw [q41]; rfl) (by decide) ?_
        refine lv_aload_n hx hb dL_law_1532 rfl (lv_at hl 1 rfl) ?_
        obtain ⟨r430, s431, q432, h⟩ := bd2_some h
        refine call_i (X := []) (wc := (bO G oa na ka aa ra pa sd yd td ow ++ (bV G na nw ++ (bV G ka kp ++ (bA G aa wa ah ++ (bV G wa aw ++ (bT G ra ma rd ++ (bV G ma md ++ (bP G pa tp ++ (bH G sd hh ++ (bY G yd td th ++ (bK G td tr ++ [])))))))))))) (Y := wM G ad s ++ []) (rest := []) XX I hl.1 (c_O_again l G OK oa na ka aa wa ra ma pa sd yd td fu ow nw kp ah aw rd md tp hh th tr r430 s431 q432) kV_L_187 (Rc.mk XX I (q0 := 0) (ci := 11) rfl rfl) rfl rfl (Nat.le_of_ble_eq_true rfl) ⟨rfl, rfl, Nat.le_of_ble_eq_true rfl, Nat.le_of_ble_eq_true rfl⟩ ⟨hc1, hs1⟩ dL_law_1533 (fun H locs hz I => ?_)
        replace I : Iv G (fun q : Nat => s0.heap.size ≤ q) s0 H locs ((bO G oa na ka aa ra pa sd yd td ow ++ (bV G na s431 ++ (bV G ka kp ++ (bA G aa wa ah ++ (bV G wa aw ++ (bT G ra ma rd ++ (bV G ma md ++ (bP G pa tp ++ (bH G sd hh ++ (bY G yd td th ++ (bK G td tr ++ []))))))))))) ++ (wM G ad s ++ [])) := I
        refine lv_aload_n hx hb dL_law_1536 rfl (lv_at hl 2 rfl) ?_
        obtain ⟨r433, s434, q435, h⟩ := bd2_some h
        refine call_i (X := (bO G oa na ka aa ra pa sd yd td ow ++ (bV G na s431 ++ (bV G ka kp ++ (bA G aa wa ah ++ (bV G wa aw ++ (bT G ra ma rd ++ (bV G ma md ++ (bP G pa tp ++ (bH G sd hh ++ (bY G yd td th ++ (bK G td tr ++ [])))))))))))) (wc := wM G ad s) (Y := []) (rest := [.int r430]) XX I hl.1 (c_M_again l G OK ad fu s r433 s434 q435) kV_L_190 (Rc.mk XX I (q0 := 121) (ci := 12) rfl rfl) rfl rfl (Nat.le_of_ble_eq_true rfl) ⟨rfl, rfl, Nat.le_of_ble_eq_true rfl, Nat.le_of_ble_eq_true rfl⟩ ⟨hc1, hs1⟩ dL_law_1537 (fun H locs hz I => ?_)
        replace I : Iv G (fun q : Nat => s0.heap.size ≤ q) s0 H locs ((bO G oa na ka aa ra pa sd yd td ow ++ (bV G na s431 ++ (bV G ka kp ++ (bA G aa wa ah ++ (bV G wa aw ++ (bT G ra ma rd ++ (bV G ma md ++ (bP G pa tp ++ (bH G sd hh ++ (bY G yd td th ++ (bK G td tr ++ []))))))))))) ++ (wM G ad s434 ++ [])) := I
        refine lv_icmp_eq (tgt := 1545) hx hb dL_law_1540 (by decide) (fun c1 => ?_) (fun c1 => ?_)
        · replace h := if_t h c1
          obtain ⟨y436, ey436⟩ : ∃ z : Int32, z = v3 + (5 : Int32) := ⟨_, rfl⟩
          replace h := lt_e h ey436
          refine lv_iinc (v := y436) (lv' := [(3, .int y436), (0, .ref b), (1, .ref (oa 0)), (2, .ref (ad 0))]) hx hb dL_law_1545 hl (k := 3) rfl (by rw [ey436]; rfl) (by decide) rfl (fun ls hl => ?_)
          refine lv_goto (tgt := 18) hx hb dL_law_1548 (by decide) ?_
          exact ih _ _ _ _ _ _ _ _ _ _ _ _ _ h _ _ I ls (lv_sub hl [1, 2, 3, 0] rfl)
        · replace h := if_f h c1
          refine lv_iconst (v := 0) hx hb dL_law_1543 (by decide) ?_
          exact absurd h (fun q => by cases q)
      replace h := if_f h q41
      refine lv_tableOut (tgt := 1545) hx hb dL_law_32 (tab_out (lo := 0) (hi := 41) (fun k k1 k2 => by rcases (show k = 0 ∨ k = 1 ∨ k = 2 ∨ k = 3 ∨ k = 4 ∨ k = 5 ∨ k = 6 ∨ k = 7 ∨ k = 8 ∨ k = 9 ∨ k = 10 ∨ k = 11 ∨ k = 12 ∨ k = 13 ∨ k = 14 ∨ k = 15 ∨ k = 16 ∨ k = 17 ∨ k = 18 ∨ k = 19 ∨ k = 20 ∨ k = 21 ∨ k = 22 ∨ k = 23 ∨ k = 24 ∨ k = 25 ∨ k = 26 ∨ k = 27 ∨ k = 28 ∨ k = 29 ∨ k = 30 ∨ k = 31 ∨ k = 32 ∨ k = 33 ∨ k = 34 ∨ k = 35 ∨ k = 36 ∨ k = 37 ∨ k = 38 ∨ k = 39 ∨ k = 40 ∨ k = 41 by omega) with rfl | rfl | rfl | rfl | rfl | rfl | rfl | rfl | rfl | rfl | rfl | rfl | rfl | rfl | rfl | rfl | rfl | rfl | rfl | rfl | rfl | rfl | rfl | rfl | rfl | rfl | rfl | rfl | rfl | rfl | rfl | rfl | rfl | rfl | rfl | rfl | rfl | rfl | rfl | rfl | rfl | rfl <;> assumption)) (by decide) ?_
      obtain ⟨y437, ey437⟩ : ∃ z : Int32, z = v3 + (5 : Int32) := ⟨_, rfl⟩
      replace h := lt_e h ey437
      refine lv_iinc (v := y437) (lv' := [(3, .int y437), (0, .ref b), (1, .ref (oa 0)), (2, .ref (ad 0))]) hx hb dL_law_1545 hl (k := 3) rfl (by rw [ey437]; rfl) (by decide) rfl (fun ls hl => ?_)
      refine lv_goto (tgt := 18) hx hb dL_law_1548 (by decide) ?_
      exact ih _ _ _ _ _ _ _ _ _ _ _ _ _ h _ _ I ls (lv_sub hl [1, 2, 3, 0] rfl)
