/-! CHECKS, by the kernel: the tables are the code, its links are words of lw_tbl -/
def zat (p : Nat) (w : Cond) : Bool := decide (lw_tbl[p]? = some w) && goodWord w
def zatN (p : Nat) (w : Cond) : Bool := decide (lw_tbl[p]? = some w)
def zTf (t k : Nat) : String × String × String × Bool := (zgd (vwCl.map fun q => q.2.1) (zci t) (fun _ => ("", "", "", false))) k
def zTn (t : Nat) : String := zgd (vwCl.map fun q => q.1) (zci t) ""
def zTN (t : Nat) : Nat := zgd (vwCl.map fun q => q.2.2) (zci t) 0
def zlk (own : String) (e : zE) (p : Nat) : Bool := match e.2.2.1 with
  | .getfield i => decide (e.2.2.2.2.1 < zTN e.2.2.2.1) && (zat p (.fieldLink own i (zTn e.2.2.2.1) (zTf e.2.2.2.1 e.2.2.2.2.1).2.1 (zTf e.2.2.2.1 e.2.2.2.2.1).2.2.1) || zatN p (.fieldLinkNest own i (zTn e.2.2.2.1) (zTf e.2.2.2.1 e.2.2.2.2.1).2.1 (zTf e.2.2.2.1 e.2.2.2.2.1).2.2.1 "MusicWalls"))
  | .putfield i => decide (e.2.2.2.2.1 < zTN e.2.2.2.1) && !(zTf e.2.2.2.1 e.2.2.2.2.1).2.2.2 && (zat p (.fieldLink own i (zTn e.2.2.2.1) (zTf e.2.2.2.1 e.2.2.2.2.1).2.1 (zTf e.2.2.2.1 e.2.2.2.2.1).2.2.1) || zatN p (.fieldLinkNest own i (zTn e.2.2.2.1) (zTf e.2.2.2.1 e.2.2.2.2.1).2.1 (zTf e.2.2.2.1 e.2.2.2.2.1).2.2.1 "MusicWalls"))
  | .invokevirtual i => zat p (.methodLink own i (zy e.2.2.2.1)) && decide (e.2.2.2.1 < zYL.length) && decide ((zy e.2.2.2.1).cls = zTn e.2.2.2.2.2.toNat) && decide ((parseMethodDescriptor (zy e.2.2.2.1).desc).map (fun d => d.parameters.length + 1) = some e.2.2.2.2.1)
  | .invokestatic i => if e.2.2.2.1 = 0 then zat p (.methodLink own i arraycopyName) else zat p (.methodLink own i (zy e.2.2.2.1)) && decide (e.2.2.2.1 < zYL.length) && decide ((parseMethodDescriptor (zy e.2.2.2.1).desc).map (fun d => d.parameters.length) = some e.2.2.2.2.1)
  | .ldc i => zat p (.constant own i (Int32.ofInt e.2.2.2.2.2))
  | .ldc_w i => zat p (.constant own i (Int32.ofInt e.2.2.2.2.2))
  | .ldc2_w i => zat p (.constantLong own i (Int64.ofInt e.2.2.2.2.2))
  | _ => true
def zco : List zE → Bool
  | [] => true
  | [_] => true
  | e :: f :: r => decide (e.1 + e.2.1 = f.1) && zco (f :: r)
/-- a constant of the table fits its kind; jumps are where they say -/
def zok (e : zE) : Bool := match e.2.2.1 with
  | .ldc _ => decide (-2147483648 ≤ e.2.2.2.2.2 ∧ e.2.2.2.2.2 ≤ 2147483647)
  | .ldc_w _ => decide (-2147483648 ≤ e.2.2.2.2.2 ∧ e.2.2.2.2.2 ≤ 2147483647)
  | .ldc2_w _ => decide (-9223372036854775808 ≤ e.2.2.2.2.2 ∧ e.2.2.2.2.2 ≤ 9223372036854775807)
  | .iconst n => decide (-1 ≤ n ∧ n ≤ 5)
  | .bipush n => decide (-128 ≤ n ∧ n ≤ 127)
  | .sipush n => decide (-32768 ≤ n ∧ n ≤ 32767)
  | .iinc _ n => decide (-32768 ≤ n ∧ n ≤ 32767)
  | .if_icmp _ o => decide (0 ≤ (e.1 : Int) + o)
  | .ifCond _ o => decide (0 ≤ (e.1 : Int) + o)
  | .goto o => decide (0 ≤ (e.1 : Int) + o)
  | .ifnonnull o => decide (0 ≤ (e.1 : Int) + o)
  | .tableswitch d lo hi os => decide (0 ≤ (e.1 : Int) + d) && os.toList.all (fun o => decide (0 ≤ (e.1 : Int) + o)) && decide (lo + os.toList.length = hi + 1)
  | .lookupswitch d ps => decide (0 ≤ (e.1 : Int) + d) && ps.toList.all (fun o => decide (0 ≤ (e.1 : Int) + o.2)) && (ps.toList.zip (ps.toList.drop 1)).all (fun (a, next) => decide (a.1 < next.1)) && ps.toList.all (fun o => decide (-2147483648 ≤ o.1 ∧ o.1 ≤ 2147483647))
  | _ => true
def zch (own : String) (b : ByteArray) (c : List zE) (ps : List Nat) : Bool := (c.zip ps).all (fun q => decide (decode b q.1.1 = .ok (q.1.2.2.1, q.1.2.1)) && zok q.1 && zlk own q.1 q.2) && zco c && decide (c.length = ps.length) && (match c with | e :: _ => decide (e.1 = 0) | [] => false)
theorem zk_J6_bitCount_0f7a4 : zch (zy 1).cls (zby 1) (zcode 1) [0, 0, 0, 0, 561, 0, 0, 0, 0, 562, 0, 0, 0, 0, 562, 0, 0, 0, 0, 0, 0, 0, 0, 563, 0, 0, 0, 0, 0, 0, 0, 0, 0, 0, 0, 0, 0, 0, 0, 0, 0, 0] = true := by decide +kernel
theorem zk_J9_abs_0f7a4 : zch (zy 2).cls (zby 2) (zcode 2) [0, 0, 0, 0, 0, 0, 0] = true := by decide +kernel
theorem zk_J9_max_7cf53 : zch (zy 3).cls (zby 3) (zcode 3) [0, 0, 0, 0, 0, 0, 0] = true := by decide +kernel
theorem zk_J9_min_7cf53 : zch (zy 4).cls (zby 4) (zcode 4) [0, 0, 0, 0, 0, 0, 0] = true := by decide +kernel
theorem zk_J7_fill_53178 : zch (zy 5).cls (zby 5) (zcode 5) [0, 0, 0, 0, 0, 0, 0, 0, 0, 0, 0, 0, 0, 0, 0] = true := by decide +kernel
theorem zk_X0_alike : zch (zy 6).cls (zby 6) (zcode 6) [0, 0, 0, 191, 0, 818, 0, 0, 0, 0, 0, 0, 0, 0, 0, 819, 0, 0, 0, 0, 0, 820, 0, 0, 0, 0, 0, 0] = true := by decide +kernel
theorem zk_X0_bestShift : zch (zy 7).cls (zby 7) (zcode 7) [0, 0, 0, 0, 0, 191, 0, 818, 0, 0, 0, 0, 0, 0, 0, 0, 0, 0, 828, 0, 0, 0, 0, 0, 0, 0, 0, 0, 0, 0, 0] = true := by decide +kernel
theorem zk_X0_barsToTurn : zch (zy 8).cls (zby 8) (zcode 8) [0, 0, 0, 191, 0, 818, 0, 0, 0, 0, 0, 0, 0, 0, 0, 0, 0, 820, 0, 0, 0, 0, 819, 0, 0, 0, 0, 0, 0, 836, 0, 0, 191, 0, 0, 837, 0, 0, 191, 0, 0, 838, 0, 0, 0, 0, 0, 0, 0, 0, 0, 0, 0, 0, 0, 0, 0, 0] = true := by decide +kernel
theorem zk_X1_clear : zch (zy 9).cls (zby 9) (zcode 9) [0, 0, 102, 0, 0, 105, 0, 0, 110, 0, 0, 118, 0, 0, 122, 0, 0, 126, 0, 128, 0, 374, 0, 129, 0, 374, 0, 130, 0, 374, 0] = true := by decide +kernel
theorem zk_X1_become : zch (zy 10).cls (zby 10) (zcode 10) [0, 0, 102, 102, 0, 0, 105, 105, 0, 0, 110, 110, 0, 0, 118, 118, 0, 0, 122, 122, 0, 0, 126, 126, 0, 128, 0, 128, 474, 0, 129, 0, 129, 474, 0, 130, 0, 130, 474, 0, 131, 0, 131, 474, 0, 132, 0, 132, 474, 0] = true := by decide +kernel
theorem zk_X1_hasRoom : zch (zy 11).cls (zby 11) (zcode 11) [0, 0, 0, 0, 110, 0, 0, 0, 0, 0] = true := by decide +kernel
theorem zk_X1_hasBar : zch (zy 12).cls (zby 12) (zcode 12) [0, 0, 620, 0, 0, 0, 0, 0, 0, 621, 0, 0, 0, 0, 0] = true := by decide +kernel
theorem zk_X1_hasPerson : zch (zy 13).cls (zby 13) (zcode 13) [0, 0, 0, 0, 118, 0, 0, 0, 0, 0] = true := by decide +kernel
theorem zk_X1_hasWall : zch (zy 14).cls (zby 14) (zcode 14) [0, 0, 0, 0, 122, 0, 0, 0, 0, 0] = true := by decide +kernel
theorem zk_X1_hasUnder : zch (zy 15).cls (zby 15) (zcode 15) [0, 126, 0, 436, 0] = true := by decide +kernel
theorem zk_X1_barsOf : zch (zy 16).cls (zby 16) (zcode 16) [0, 128, 0, 443, 0] = true := by decide +kernel
theorem zk_X1_paperOf : zch (zy 17).cls (zby 17) (zcode 17) [0, 129, 0, 0, 0, 0, 0, 443, 0] = true := by decide +kernel
theorem zk_X1_underOf : zch (zy 18).cls (zby 18) (zcode 18) [0, 130, 0, 0, 0, 0, 0, 443, 0] = true := by decide +kernel
theorem zk_X1_personPart : zch (zy 19).cls (zby 19) (zcode 19) [0, 131, 0, 0, 0, 0, 0, 443, 0] = true := by decide +kernel
theorem zk_X1_wallPart : zch (zy 20).cls (zby 20) (zcode 20) [0, 132, 0, 0, 0, 0, 0, 443, 0] = true := by decide +kernel
theorem zk_X1_putPaper : zch (zy 21).cls (zby 21) (zcode 21) [0, 129, 0, 0, 0, 0, 0, 0, 419, 0] = true := by decide +kernel
theorem zk_X1_putUnder : zch (zy 22).cls (zby 22) (zcode 22) [0, 130, 0, 0, 0, 0, 0, 0, 419, 0] = true := by decide +kernel
theorem zk_X1_putPerson : zch (zy 23).cls (zby 23) (zcode 23) [0, 131, 0, 118, 0, 0, 0, 0, 0, 419, 0] = true := by decide +kernel
theorem zk_X1_putWall : zch (zy 24).cls (zby 24) (zcode 24) [0, 132, 0, 122, 0, 0, 0, 0, 0, 419, 0] = true := by decide +kernel
theorem zk_X1_addRoom : zch (zy 25).cls (zby 25) (zcode 25) [0, 128, 0, 110, 0, 419, 0, 0, 110, 0, 0, 110, 0] = true := by decide +kernel
theorem zk_X2_forget : zch (zy 26).cls (zby 26) (zcode 26) [0, 0, 253, 0] = true := by decide +kernel
theorem zk_X2_has : zch (zy 27).cls (zby 27) (zcode 27) [0, 253, 0, 1014, 0] = true := by decide +kernel
theorem zk_X2_store : zch (zy 28).cls (zby 28) (zcode 28) [0, 0, 0, 0, 251, 0, 0, 0, 251, 0, 0, 0, 0, 0, 251, 0, 0, 0, 1004, 0, 252, 0, 0, 1005, 0, 0, 253, 0, 0, 0, 0, 253, 0] = true := by decide +kernel
theorem zk_X2_restore : zch (zy 29).cls (zby 29) (zcode 29) [0, 0, 0, 0, 251, 0, 0, 0, 251, 0, 0, 0, 0, 0, 0, 251, 0, 0, 1004, 0] = true := by decide +kernel
theorem zk_X2_chanceOf : zch (zy 30).cls (zby 30) (zcode 30) [0, 252, 0, 1023, 0] = true := by decide +kernel
theorem zk_X3_begin : zch (zy 31).cls (zby 31) (zcode 31) [0, 0, 193, 0, 0, 196, 0, 0, 198, 0, 200, 0, 485, 0, 0, 0, 0, 187, 119, 0, 0, 0, 0, 187, 0, 0, 486, 0, 187, 0, 0, 486, 490, 0, 0, 0, 187, 0, 0, 486, 495, 0, 0, 0] = true := by decide +kernel
theorem zk_X3_become : zch (zy 32).cls (zby 32) (zcode 32) [0, 0, 193, 193, 0, 0, 196, 196, 0, 0, 198, 198, 0, 200, 0, 200, 693, 0, 201, 0, 201, 693, 0, 202, 0, 202, 693, 0, 203, 0, 203, 693, 0, 204, 0, 204, 693, 0] = true := by decide +kernel
theorem zk_X3_liftedIn : zch (zy 33).cls (zby 33) (zcode 33) [0, 200, 0, 540, 0] = true := by decide +kernel
theorem zk_X3_liftedInAll : zch (zy 34).cls (zby 34) (zcode 34) [0, 0, 0, 0, 0, 0, 187, 113, 0, 0, 0, 0, 554, 558, 0, 0, 0, 0, 0, 0] = true := by decide +kernel
theorem zk_X3_isLifted : zch (zy 35).cls (zby 35) (zcode 35) [0, 200, 0, 540, 0, 541, 0] = true := by decide +kernel
theorem zk_X3_turn : zch (zy 36).cls (zby 36) (zcode 36) [0, 200, 0, 0, 0, 554, 0, 0, 0, 0, 494, 0] = true := by decide +kernel
theorem zk_X3_reads : zch (zy 37).cls (zby 37) (zcode 37) [0, 0, 0, 536, 0, 0, 187, 0, 0, 542, 0, 0, 187, 0, 0, 546, 0] = true := by decide +kernel
theorem zk_X3_readsRound : zch (zy 38).cls (zby 38) (zcode 38) [0, 0, 0, 0, 187, 0, 606, 607, 610, 0] = true := by decide +kernel
theorem zk_X3_roomOf : zch (zy 39).cls (zby 39) (zcode 39) [0, 201, 0, 540, 0] = true := by decide +kernel
theorem zk_X3_placeOf : zch (zy 40).cls (zby 40) (zcode 40) [0, 202, 0, 540, 0] = true := by decide +kernel
theorem zk_X3_paceOf : zch (zy 41).cls (zby 41) (zcode 41) [0, 203, 0, 540, 0] = true := by decide +kernel
theorem zk_X3_readBy : zch (zy 42).cls (zby 42) (zcode 42) [0, 0, 0, 649, 0, 0, 650, 610, 0] = true := by decide +kernel
theorem zk_X3_isAt : zch (zy 43).cls (zby 43) (zcode 43) [0, 201, 0, 540, 0, 0, 0, 202, 0, 540, 0, 0, 0, 0, 0, 0] = true := by decide +kernel
theorem zk_X3_setPlace : zch (zy 44).cls (zby 44) (zcode 44) [0, 201, 0, 0, 494, 0, 202, 0, 0, 494, 0] = true := by decide +kernel
theorem zk_X3_setPace : zch (zy 45).cls (zby 45) (zcode 45) [0, 203, 0, 0, 494, 0] = true := by decide +kernel
theorem zk_X3_addMeeting : zch (zy 46).cls (zby 46) (zcode 46) [0, 726, 0, 196, 0, 0, 527, 196, 0, 204, 0, 198, 0, 607, 0, 0, 0, 0, 0, 0, 0, 0, 0, 494, 0, 0, 198, 0, 0, 198, 0] = true := by decide +kernel
theorem zk_X3_loggedNow : zch (zy 47).cls (zby 47) (zcode 47) [0, 0, 198, 527, 0] = true := by decide +kernel
theorem zk_X3_meeting : zch (zy 48).cls (zby 48) (zcode 48) [0, 204, 0, 198, 0, 0, 0, 0, 0, 607, 540, 0, 0, 0, 0, 0, 0, 0, 0, 0, 0, 0, 0, 0, 0, 0, 0, 0, 0, 0, 0] = true := by decide +kernel
theorem zk_X4_reckon : zch (zy 49).cls (zby 49) (zcode 49) [0, 0, 189, 109, 306, 0, 0, 0, 0, 306, 0, 0, 189, 0, 859, 0, 0, 0, 0, 0, 306, 0, 0, 0, 0, 0, 0, 0, 0, 0, 860, 0, 0, 304, 0, 0, 0, 0, 0, 0, 0, 0, 861, 0, 0, 0, 304, 0, 0, 0, 0, 861, 0, 0, 0, 0, 0, 0, 0, 306, 0, 0, 0, 0, 0, 0, 0, 0, 305, 0, 0, 0, 0, 0, 0, 0, 0, 862, 861, 0, 0, 0, 0, 0] = true := by decide +kernel
theorem zk_X4_fewestBars : zch (zy 50).cls (zby 50) (zcode 50) [0, 305, 0, 0, 306, 0, 0, 0, 0, 0, 0, 0, 875, 0] = true := by decide +kernel
theorem zk_X4_leastNumber : zch (zy 51).cls (zby 51) (zcode 51) [0, 0, 0, 0, 306, 0, 0, 0, 0, 0, 0, 0, 0, 0, 0, 306, 0, 0, 0, 0, 866, 0, 0, 0, 0, 0, 0, 0, 0, 0, 0, 0, 0, 0, 0, 0, 0, 0, 0, 0, 0, 0, 0, 0] = true := by decide +kernel
theorem zk_X4_barsBehind : zch (zy 52).cls (zby 52) (zcode 52) [0, 0, 0, 0, 0, 0, 0, 0, 0, 0, 866, 871, 0] = true := by decide +kernel
theorem zk_X4_firstBest : zch (zy 53).cls (zby 53) (zcode 53) [0, 0, 0, 0, 0, 0, 0, 0, 306, 0, 0, 0, 870, 0, 0, 0, 0, 0, 0, 871, 0, 0, 0, 0, 0, 0, 0, 0, 0, 0, 0, 0] = true := by decide +kernel
theorem zk_X4_barsWith : zch (zy 54).cls (zby 54) (zcode 54) [0, 304, 0, 0, 0, 0, 0, 875, 0, 305, 0, 0, 0, 0, 0, 0, 0, 0, 0, 0, 0, 875, 0, 0] = true := by decide +kernel
theorem zk_X5_anHour : zch (zy 55).cls (zby 55) (zcode 55) [0, 188, 0, 0, 0, 0, 0, 117, 0, 0, 0, 698, 0, 0, 0, 199, 0, 0, 0, 0, 0, 123, 0, 0, 0, 708, 0, 0, 0, 0, 194, 0, 0, 194, 0, 106, 0, 0, 194, 0, 106, 0, 0, 0, 0, 194, 0, 106, 0, 0, 0, 727, 0, 199, 0, 0, 0] = true := by decide +kernel
theorem zk_X5_areAtOneWall : zch (zy 56).cls (zby 56) (zcode 56) [0, 0, 0, 0, 188, 123, 0, 0, 0, 0, 711, 0, 0, 0, 0, 719, 0, 0, 0, 0, 0, 0, 711, 0, 0, 0, 0, 719, 0, 0, 0, 0, 0, 0, 0] = true := by decide +kernel
theorem zk_X5_goOn : zch (zy 57).cls (zby 57) (zcode 57) [0, 0, 701, 0, 0, 0, 702, 0, 0, 188, 0, 703, 0, 0, 0, 704, 0, 0, 0, 0, 0, 0, 0, 0, 0, 0, 705, 0, 0, 0, 0, 706, 0, 0, 0, 0, 0, 0, 0, 0, 707, 0] = true := by decide +kernel
theorem zk_X5_meetThrough : zch (zy 58).cls (zby 58) (zcode 58) [0, 188, 117, 0, 0, 0, 0, 0, 0, 0, 0, 0, 711, 0, 0, 0, 0, 0, 0, 0, 0, 0, 0, 719, 0, 0, 0, 0, 0, 722, 0, 0, 0, 0, 0] = true := by decide +kernel
theorem zk_X5_isAtA : zch (zy 59).cls (zby 59) (zcode 59) [0, 0, 0, 188, 0, 0, 714, 0, 188, 0, 0, 714, 715, 0] = true := by decide +kernel
theorem zk_X5_isAtB : zch (zy 60).cls (zby 60) (zcode 60) [0, 0, 0, 188, 0, 0, 714, 0, 188, 0, 0, 714, 715, 0] = true := by decide +kernel
theorem zk_X5_dampLifts : zch (zy 61).cls (zby 61) (zcode 61) [0, 188, 114, 0, 0, 0, 0, 0, 0, 0, 0, 0, 0, 0, 0, 188, 0, 703, 705, 0, 0, 0, 0, 730, 0, 0, 0, 0, 731, 0] = true := by decide +kernel
theorem zk_X6_size : zch (zy 62).cls (zby 62) (zcode 62) [0, 234, 0] = true := by decide +kernel
theorem zk_X6_forget : zch (zy 63).cls (zby 63) (zcode 63) [0, 0, 234, 0] = true := by decide +kernel
theorem zk_X6_add : zch (zy 64).cls (zby 64) (zcode 64) [0, 0, 235, 685, 0, 0, 0, 0, 0, 0, 689, 0, 0, 235, 0, 0, 0, 0, 235, 0, 0, 0, 234, 0, 0, 694, 234, 0] = true := by decide +kernel
theorem zk_X6_takeBack : zch (zy 65).cls (zby 65) (zcode 65) [0, 235, 0, 0, 0, 0, 0, 0, 0, 0, 0, 685, 0, 0, 0, 0, 0, 0, 689, 0, 0, 235, 0, 0, 234, 0, 0, 234, 0] = true := by decide +kernel
theorem zk_X6_kept : zch (zy 66).cls (zby 66) (zcode 66) [0, 0, 0, 0, 233, 0, 0, 0, 233, 0, 0, 0, 0, 0] = true := by decide +kernel
theorem zk_X7_letters : zch (zy 67).cls (zby 67) (zcode 67) [0, 159, 0] = true := by decide +kernel
theorem zk_X7_place : zch (zy 68).cls (zby 68) (zcode 68) [0, 163, 0] = true := by decide +kernel
theorem zk_X7_draft : zch (zy 69).cls (zby 69) (zcode 69) [0, 157, 0] = true := by decide +kernel
theorem zk_X7_add : zch (zy 70).cls (zby 70) (zcode 70) [0, 159, 0, 0, 0, 0, 0, 158, 0, 159, 0, 354, 0, 0, 159, 0, 0, 159, 0, 0] = true := by decide +kernel
theorem zk_X7_read : zch (zy 71).cls (zby 71) (zcode 71) [0, 157, 370, 0, 0, 160, 0, 0, 162, 0, 0, 163, 0, 377, 0, 0, 0, 0, 0, 0, 162, 0, 0, 160, 0, 159, 0, 0, 385, 0, 377, 0, 0, 0, 0, 159, 0, 162, 0] = true := by decide +kernel
theorem zk_X7_readClause : zch (zy 72).cls (zby 72) (zcode 72) [0, 381, 0, 0, 157, 104, 0, 0, 0, 0, 0, 0, 0, 160, 389, 0, 0, 0, 0, 393, 0, 0, 411, 0, 0, 428, 0, 0, 450, 0, 0, 458, 0, 0, 0, 0, 160, 389, 0] = true := by decide +kernel
theorem zk_X7_readDamp : zch (zy 73).cls (zby 73) (zcode 73) [0, 157, 104, 0, 0, 0, 0, 160, 389, 0, 0, 160, 0, 0, 160, 0, 157, 0, 104, 0, 157, 0, 0, 397, 108, 0, 0, 407, 0] = true := by decide +kernel
theorem zk_X7_readRoom : zch (zy 74).cls (zby 74) (zcode 74) [0, 157, 116, 0, 0, 0, 0, 0, 160, 389, 0, 0, 160, 0, 0, 160, 0, 0, 0, 157, 0, 157, 116, 0, 0, 0, 397, 415, 0, 0, 0, 0, 0, 0, 420, 0, 0, 0, 407, 0, 157, 0, 424, 0] = true := by decide +kernel
theorem zk_X7_readUnder : zch (zy 75).cls (zby 75) (zcode 75) [0, 0, 160, 0, 0, 160, 0, 0, 157, 116, 0, 0, 397, 0, 0, 157, 0, 432, 0, 0, 0, 0, 161, 389, 0, 157, 0, 439, 0, 0, 0, 0, 0, 0, 0, 0, 0, 0, 407, 0, 157, 0, 0, 0, 0, 397, 446, 0, 0, 0, 0, 407, 0, 157, 0, 127, 0, 0, 0, 0, 127, 0] = true := by decide +kernel
theorem zk_X7_readPerson : zch (zy 76).cls (zby 76) (zcode 76) [0, 157, 121, 0, 0, 0, 0, 0, 160, 389, 0, 0, 160, 0, 0, 160, 0, 0, 157, 116, 0, 0, 397, 0, 0, 157, 0, 0, 454, 0, 157, 0, 0, 0, 157, 0, 439, 0, 0, 397, 454, 0, 157, 0, 0, 0, 397, 454, 0, 0, 407, 0, 157, 0, 121, 0, 0, 121, 0] = true := by decide +kernel
theorem zk_X7_readWall : zch (zy 77).cls (zby 77) (zcode 77) [0, 157, 125, 0, 0, 0, 0, 0, 160, 389, 0, 0, 160, 0, 0, 160, 0, 0, 157, 116, 0, 0, 397, 0, 0, 157, 0, 0, 462, 0, 157, 0, 0, 0, 157, 0, 439, 0, 0, 397, 462, 0, 0, 157, 116, 0, 0, 397, 0, 0, 0, 0, 0, 0, 0, 161, 389, 0, 157, 0, 0, 462, 0, 157, 0, 0, 0, 157, 0, 439, 0, 0, 397, 462, 0, 0, 407, 0, 157, 0, 125, 0, 0, 125, 0] = true := by decide +kernel
theorem zk_X7_readNumber : zch (zy 78).cls (zby 78) (zcode 78) [0, 377, 0, 0, 160, 161, 0, 0, 0, 160, 0, 159, 0, 0, 381, 401, 0, 0, 0, 0, 0, 0, 381, 0, 0, 0, 404, 0, 0, 0, 160, 0, 0, 160, 0, 0, 160, 0, 161, 0, 0, 0, 0, 161, 389, 0, 0, 160, 0, 161, 0, 0, 0, 0, 0, 0, 0, 0, 0, 161, 389, 0, 0] = true := by decide +kernel
theorem zk_X7_expect : zch (zy 79).cls (zby 79) (zcode 79) [0, 377, 0, 381, 0, 0, 0, 0, 160, 0, 0, 160, 0, 0, 0, 0, 160, 389, 0] = true := by decide +kernel
theorem zk_X7_accept : zch (zy 80).cls (zby 80) (zcode 80) [0, 377, 0, 381, 0, 0, 0, 0, 0, 0, 160, 0, 0, 160, 0, 0] = true := by decide +kernel
theorem zk_X7_skipBlanks : zch (zy 81).cls (zby 81) (zcode 81) [0, 160, 0, 159, 0, 0, 381, 0, 0, 0, 0, 160, 0, 0, 160, 0, 0] = true := by decide +kernel
theorem zk_X7_letter : zch (zy 82).cls (zby 82) (zcode 82) [0, 160, 0, 0, 160, 0, 159, 0, 0, 160, 0, 158, 0, 0, 0, 158, 0, 160, 0, 0, 0, 0] = true := by decide +kernel
theorem zk_X7_isFigure : zch (zy 83).cls (zby 83) (zcode 83) [0, 0, 0, 0, 0, 0, 0, 0, 0, 0] = true := by decide +kernel
theorem zk_X7_fail : zch (zy 84).cls (zby 84) (zcode 84) [0, 162, 0, 0, 0, 0, 162, 0, 0, 163, 0] = true := by decide +kernel
theorem zk_X8_keyOf : zch (zy 85).cls (zby 85) (zcode 85) [0, 0, 0, 190, 0, 531, 0, 0, 0, 0, 0, 0, 0, 0, 0, 0, 532, 0, 0, 0, 0, 0, 0, 0, 0] = true := by decide +kernel
theorem zk_X8_repeatOf : zch (zy 86).cls (zby 86) (zcode 86) [0, 190, 0, 531, 0, 0, 0, 0, 0, 0, 0, 0, 0, 599, 0, 0, 0, 0, 0, 0, 0] = true := by decide +kernel
theorem zk_X8_repeatsBy : zch (zy 87).cls (zby 87) (zcode 87) [0, 190, 0, 531, 0, 0, 0, 0, 0, 0, 0, 0, 0, 532, 0, 0, 0, 0, 0, 602, 0, 0, 0, 0, 0, 0, 0] = true := by decide +kernel
theorem zk_X8_openRooms : zch (zy 88).cls (zby 88) (zcode 88) [0, 0, 0, 0, 0, 0, 190, 112, 0, 0, 0, 0, 190, 0, 531, 0, 0, 532, 0, 0, 0, 532, 0, 0, 0, 0, 0, 0, 0, 0, 0, 0, 0] = true := by decide +kernel
theorem zk_X8_mostRead : zch (zy 89).cls (zby 89) (zcode 89) [0, 0, 0, 0, 0, 0, 0, 0, 0, 0, 0, 567, 0, 0, 0, 0, 0, 0, 0, 0, 0, 0, 0, 0] = true := by decide +kernel
theorem zk_X8_howManyRead : zch (zy 90).cls (zby 90) (zcode 90) [0, 0, 0, 0, 0, 0, 190, 112, 0, 0, 190, 0, 531, 0, 0, 0, 0, 0, 0, 0, 0, 0, 532, 0, 0, 0, 0, 0, 0, 0, 0, 0] = true := by decide +kernel
theorem zk_X8_firstThatReads : zch (zy 91).cls (zby 91) (zcode 91) [0, 190, 0, 531, 0, 0, 0, 0, 0, 0, 0, 0, 0, 532, 0, 0, 0, 0, 0, 0, 0, 0] = true := by decide +kernel
theorem zk_X8_sharedEnd : zch (zy 92).cls (zby 92) (zcode 92) [0, 190, 0, 531, 0, 0, 0, 190, 0, 531, 847, 0, 0, 0, 0, 0, 0, 0, 848, 0, 0, 0, 0, 0, 0, 0] = true := by decide +kernel
theorem zk_X8_endsAsBegins : zch (zy 93).cls (zby 93) (zcode 93) [0, 190, 0, 531, 0, 0, 0, 0, 0, 0, 0, 0, 0, 0, 0, 0, 0, 532, 0, 0, 0, 532, 0, 0, 0, 0, 0, 0, 0] = true := by decide +kernel
theorem zk_X8_nearestRoom : zch (zy 94).cls (zby 94) (zcode 94) [0, 0, 891, 0, 0, 0, 0, 0, 0, 0, 0, 0, 190, 112, 0, 0, 0, 0, 891, 892, 0, 0, 0, 0, 0, 0, 0, 0, 0, 0, 0, 0, 0, 0, 0] = true := by decide +kernel
theorem zk_X8_between : zch (zy 95).cls (zby 95) (zcode 95) [0, 0, 0, 895, 0, 0, 0, 0, 0, 847, 0] = true := by decide +kernel
theorem zk_X8_stepsBetween : zch (zy 96).cls (zby 96) (zcode 96) [0, 0, 0, 0, 0, 0, 0, 0, 0, 0, 0, 905, 0, 0, 0, 0, 0, 906, 0, 0, 0, 0, 0] = true := by decide +kernel
theorem zk_X8_oneStepOn : zch (zy 97).cls (zby 97) (zcode 97) [0, 0, 0, 0, 0, 0, 190, 112, 0, 0, 0, 905, 0, 0, 0, 0, 891, 0, 0, 0, 0, 0, 190, 112, 0, 0, 0, 0, 891, 892, 0, 0, 0, 0, 0, 0, 0, 0, 0, 0, 0, 0, 0, 0] = true := by decide +kernel
theorem zk_X9_at : zch (zy 98).cls (zby 98) (zcode 98) [0, 0, 0, 0, 0, 0, 0, 0, 0, 0, 0, 0] = true := by decide +kernel
theorem zk_X9_put : zch (zy 99).cls (zby 99) (zcode 99) [0, 0, 0, 0, 0, 0, 0, 0, 0, 0, 0] = true := by decide +kernel
theorem zk_X9_copy : zch (zy 100).cls (zby 100) (zcode 100) [0, 0, 0, 0, 0, 0, 0, 0, 477, 478, 0] = true := by decide +kernel
theorem zk_X9_leftOver : zch (zy 101).cls (zby 101) (zcode 101) [0, 0, 0, 0, 0, 0, 0, 0] = true := by decide +kernel
theorem zk_X9_isIn : zch (zy 102).cls (zby 102) (zcode 102) [0, 0, 0, 0, 0, 0, 0, 0, 0, 0, 0, 0, 0, 0, 0, 0] = true := by decide +kernel
theorem zk_X10_seen : zch (zy 103).cls (zby 103) (zcode 103) [0, 274, 0] = true := by decide +kernel
theorem zk_X10_entries : zch (zy 104).cls (zby 104) (zcode 104) [0, 275, 0] = true := by decide +kernel
theorem zk_X10_forget : zch (zy 105).cls (zby 105) (zcode 105) [0, 0, 274, 0, 0, 275, 0] = true := by decide +kernel
theorem zk_X10_addSeen : zch (zy 106).cls (zby 106) (zcode 106) [0, 274, 0, 0, 0, 0, 0, 267, 0, 274, 0, 927, 0, 268, 0, 274, 0, 927, 0, 0, 274, 0, 0, 274, 0, 0] = true := by decide +kernel
theorem zk_X10_addEntry : zch (zy 107).cls (zby 107) (zcode 107) [0, 275, 0, 0, 0, 0, 0, 269, 0, 275, 0, 927, 0, 270, 0, 275, 0, 927, 0, 271, 0, 275, 0, 927, 0, 0, 275, 0, 0, 275, 0, 0] = true := by decide +kernel
theorem zk_X10_firstWrong : zch (zy 108).cls (zby 108) (zcode 108) [0, 0, 0, 0, 275, 0, 0, 0, 269, 0, 941, 0, 270, 0, 941, 987, 0, 0, 0, 271, 0, 941, 0, 0, 0, 0, 0, 0, 0] = true := by decide +kernel
theorem zk_X10_findPlaces : zch (zy 109).cls (zby 109) (zcode 109) [0, 0, 276, 0, 0, 0, 0, 192, 115, 0, 0, 192, 0, 936, 0, 0, 0, 0, 0, 0, 0, 0, 0, 0, 937, 0, 0, 0, 272, 0, 276, 0, 0, 0, 0, 0, 927, 0, 0, 276, 0, 0, 276, 0, 0, 0, 0, 0] = true := by decide +kernel
theorem zk_X10_found : zch (zy 110).cls (zby 110) (zcode 110) [0, 276, 0] = true := by decide +kernel
theorem zk_X10_firstFound : zch (zy 111).cls (zby 111) (zcode 111) [0, 276, 0, 0, 0, 0, 272, 0, 941, 0] = true := by decide +kernel
theorem zk_X10_roomsFound : zch (zy 112).cls (zby 112) (zcode 112) [0, 0, 0, 0, 0, 0, 276, 0, 0, 0, 0, 272, 0, 941, 0, 0, 0, 0, 0, 0, 0, 0, 0] = true := by decide +kernel
theorem zk_X10_bestLook : zch (zy 113).cls (zby 113) (zcode 113) [0, 0, 0, 276, 0, 0, 0, 0, 0, 0, 0, 0, 0, 963, 0, 0, 0, 0, 0, 0, 0, 0, 0, 0, 0, 0] = true := by decide +kernel
theorem zk_X10_fits : zch (zy 114).cls (zby 114) (zcode 114) [0, 0, 0, 0, 274, 0, 0, 0, 0, 0, 267, 0, 941, 0, 942, 0, 268, 0, 941, 0, 0, 0, 0, 0, 0, 0] = true := by decide +kernel
theorem zk_X10_greatestPart : zch (zy 115).cls (zby 115) (zcode 115) [0, 273, 0, 967, 0, 0, 0, 0, 0, 0, 276, 0, 0, 272, 0, 941, 0, 0, 0, 0, 0, 0, 0, 0, 0, 0, 942, 0, 0, 273, 0, 941, 0, 0, 0, 0, 273, 0, 0, 927, 0, 0, 968, 0, 0, 0, 0, 0] = true := by decide +kernel
theorem zk_X11_feed : zch (zy 116).cls (zby 116) (zcode 116) [0, 0, 346, 0, 349, 0, 0, 314, 0, 350, 0, 0, 314, 357, 0, 361, 0] = true := by decide +kernel
theorem zk_X11_house : zch (zy 117).cls (zby 117) (zcode 117) [0, 314, 366, 0, 0, 0, 0, 0, 0, 0, 0, 315, 0, 314, 466, 470, 0, 316, 481, 0, 318, 499, 0, 319, 503, 0, 320, 507, 0, 315, 111, 0] = true := by decide +kernel
theorem zk_X11_fault : zch (zy 118).cls (zby 118) (zcode 118) [0, 314, 515, 0] = true := by decide +kernel
theorem zk_X11_told : zch (zy 119).cls (zby 119) (zcode 119) [0, 0, 0, 315, 103, 0, 0, 315, 107, 0, 0, 0, 0, 315, 111, 0, 0, 315, 120, 0, 0, 315, 124, 0, 0, 314, 357, 0, 0, 316, 195, 0, 0, 316, 197, 0, 0, 316, 523, 0, 0, 316, 528, 0, 0, 316, 550, 0, 0, 316, 564, 0, 0, 320, 570, 0, 0, 320, 574, 0, 0, 318, 578, 0, 349, 0] = true := by decide +kernel
theorem zk_X11_room : zch (zy 120).cls (zby 120) (zcode 120) [0, 315, 0, 586, 0, 590, 0, 0, 0, 0, 315, 0, 591, 0, 0, 316, 0, 592, 0, 0, 316, 0, 593, 0, 0, 316, 0, 596, 0, 0, 315, 0, 611, 0, 0, 0, 0, 0, 349, 0] = true := by decide +kernel
theorem zk_X11_bar : zch (zy 121).cls (zby 121) (zcode 121) [0, 315, 0, 0, 616, 0, 590, 0, 0, 0, 0, 315, 0, 0, 622, 0, 0, 315, 0, 0, 623, 0, 0, 316, 0, 0, 624, 0, 349, 0] = true := by decide +kernel
theorem zk_X11_person : zch (zy 122).cls (zby 122) (zcode 122) [0, 315, 0, 629, 0, 590, 0, 0, 0, 0, 316, 0, 633, 0, 0, 316, 0, 637, 0, 0, 316, 0, 641, 0, 0, 316, 0, 645, 0, 349, 0] = true := by decide +kernel
theorem zk_X11_wall : zch (zy 123).cls (zby 123) (zcode 123) [0, 315, 0, 655, 0, 590, 0, 0, 0, 346, 0, 349, 0, 0, 315, 0, 0, 659, 0] = true := by decide +kernel
theorem zk_X11_logged : zch (zy 124).cls (zby 124) (zcode 124) [0, 0, 346, 0, 349, 0, 0, 0, 316, 523, 0, 0, 346, 0, 0, 0, 0, 316, 0, 0, 667, 0] = true := by decide +kernel
theorem zk_X11_hour : zch (zy 125).cls (zby 125) (zcode 125) [0, 0, 675, 0, 0, 0, 0, 0, 0, 0, 0, 0, 0, 0, 318, 0, 316, 681, 0, 316, 695, 0, 0, 0, 0, 316, 197, 0] = true := by decide +kernel
theorem zk_X11_lift : zch (zy 126).cls (zby 126) (zcode 126) [0, 0, 0, 0, 739, 0] = true := by decide +kernel
theorem zk_X11_paste : zch (zy 127).cls (zby 127) (zcode 127) [0, 0, 0, 0, 739, 0] = true := by decide +kernel
theorem zk_X11_moveTo : zch (zy 128).cls (zby 128) (zcode 128) [0, 315, 0, 629, 0, 0, 315, 0, 586, 0, 590, 0, 0, 316, 0, 633, 0, 0, 0, 0, 0, 316, 0, 0, 316, 0, 645, 753, 0, 0, 0, 0, 679, 0, 0, 318, 0, 316, 681, 0, 316, 0, 0, 0, 756, 0, 0] = true := by decide +kernel
theorem zk_X11_pace : zch (zy 129).cls (zby 129) (zcode 129) [0, 315, 0, 629, 0, 590, 0, 0, 0, 346, 0, 349, 0, 0, 316, 0, 641, 0, 0, 318, 0, 316, 681, 0, 316, 0, 0, 761, 0, 0] = true := by decide +kernel
theorem zk_X11_drift : zch (zy 130).cls (zby 130) (zcode 130) [0, 0, 675, 0, 0, 0, 0, 0, 0, 0, 0, 0, 0, 0, 318, 0, 316, 681, 0, 766, 0, 316, 695, 0, 0, 0, 0, 316, 197, 0] = true := by decide +kernel
theorem zk_X11_undo : zch (zy 131).cls (zby 131) (zcode 131) [0, 0, 0, 0, 0, 0, 349, 0, 0, 0, 318, 578, 0, 679, 0, 0, 318, 0, 0, 316, 783, 0, 316, 195, 0] = true := by decide +kernel
theorem zk_X11_where : zch (zy 132).cls (zby 132) (zcode 132) [0, 315, 0, 629, 0, 590, 0, 0, 0, 346, 0, 349, 0, 0, 0, 791, 0, 0, 317, 0, 637, 0] = true := by decide +kernel
theorem zk_X11_meets : zch (zy 133).cls (zby 133) (zcode 133) [0, 0, 346, 0, 349, 0, 0, 0, 791, 0] = true := by decide +kernel
theorem zk_X11_together : zch (zy 134).cls (zby 134) (zcode 134) [0, 315, 0, 629, 0, 0, 315, 0, 629, 0, 0, 0, 0, 590, 0, 0, 317, 0, 316, 795, 0, 0, 0, 0, 0, 0, 317, 695, 0, 0, 317, 0, 0, 804, 0, 0, 0, 0, 0, 0, 0] = true := by decide +kernel
theorem zk_X11_canon : zch (zy 135).cls (zby 135) (zcode 135) [0, 0, 0, 811, 0, 590, 0, 0, 0, 346, 0, 349, 0, 0, 316, 0, 0, 0, 815, 0] = true := by decide +kernel
theorem zk_X11_bestCanon : zch (zy 136).cls (zby 136) (zcode 136) [0, 0, 0, 811, 0, 590, 0, 0, 0, 346, 0, 349, 0, 0, 316, 0, 0, 825, 0, 0, 0, 0, 0, 0, 316, 0, 0, 0, 815, 0] = true := by decide +kernel
theorem zk_X11_match : zch (zy 137).cls (zby 137) (zcode 137) [0, 0, 0, 811, 0, 590, 0, 0, 0, 346, 0, 0, 0, 346, 0, 349, 0, 0, 316, 0, 0, 0, 833, 0, 0, 0, 0, 0, 0, 0, 0, 0, 0, 839, 0] = true := by decide +kernel
theorem zk_X11_join : zch (zy 138).cls (zby 138) (zcode 138) [0, 0, 0, 811, 0, 590, 0, 0, 316, 0, 0, 844, 0] = true := by decide +kernel
theorem zk_X11_shortest : zch (zy 139).cls (zby 139) (zcode 139) [0, 0, 346, 0, 349, 0, 0, 315, 111, 0, 0, 0, 0, 321, 0, 316, 855, 0, 0, 0, 321, 876, 0, 0, 321, 880, 0] = true := by decide +kernel
theorem zk_X11_nearest : zch (zy 140).cls (zby 140) (zcode 140) [0, 315, 0, 586, 0, 590, 0, 0, 316, 0, 888, 0] = true := by decide +kernel
theorem zk_X11_modulation : zch (zy 141).cls (zby 141) (zcode 141) [0, 315, 0, 586, 0, 0, 315, 0, 586, 0, 590, 0, 0, 316, 0, 0, 902, 0] = true := by decide +kernel
theorem zk_X11_sounds : zch (zy 142).cls (zby 142) (zcode 142) [0, 0, 346, 0, 349, 0, 0, 0, 0, 0, 0, 0, 315, 120, 0, 0, 316, 0, 645, 0, 0, 0, 0, 0, 0, 0, 0, 0, 0, 0, 0] = true := by decide +kernel
theorem zk_X11_dry : zch (zy 143).cls (zby 143) (zcode 143) [0, 0, 346, 0, 0, 0, 346, 0, 349, 0, 917, 0, 0, 0, 0, 0, 0, 0, 0, 0, 0, 918, 0, 0, 0, 0, 0, 0, 0] = true := by decide +kernel
theorem zk_X11_see : zch (zy 144).cls (zby 144) (zcode 144) [0, 0, 346, 0, 0, 0, 346, 0, 349, 0, 0, 320, 0, 0, 923, 0, 0, 320, 570, 0, 361, 0] = true := by decide +kernel
theorem zk_X11_places : zch (zy 145).cls (zby 145) (zcode 145) [0, 0, 346, 0, 349, 0, 0, 320, 0, 316, 932, 0, 0, 0, 320, 943, 0, 0, 0, 0, 0, 320, 947, 0, 0, 320, 951, 0] = true := by decide +kernel
theorem zk_X11_lookAt : zch (zy 146).cls (zby 146) (zcode 146) [0, 320, 0, 316, 932, 0, 320, 0, 316, 959, 0] = true := by decide +kernel
theorem zk_X11_write : zch (zy 147).cls (zby 147) (zcode 147) [0, 315, 0, 0, 616, 0, 590, 0, 0, 0, 346, 0, 349, 0, 0, 320, 0, 0, 0, 975, 0, 0, 320, 574, 0, 361, 0] = true := by decide +kernel
theorem zk_X11_judge : zch (zy 148).cls (zby 148) (zcode 148) [0, 320, 0, 316, 983, 0] = true := by decide +kernel
theorem zk_X11_tear : zch (zy 149).cls (zby 149) (zcode 149) [0, 320, 570, 0, 320, 574, 0, 0, 0, 320, 507, 0, 0] = true := by decide +kernel
theorem zk_X11_seed : zch (zy 150).cls (zby 150) (zcode 150) [0, 0, 349, 0, 0, 322, 0, 0, 0, 322, 0, 0] = true := by decide +kernel
theorem zk_X11_keep : zch (zy 151).cls (zby 151) (zcode 151) [0, 0, 346, 0, 590, 0, 0, 319, 0, 0, 316, 0, 322, 1000, 0, 318, 499, 0, 0] = true := by decide +kernel
theorem zk_X11_goBack : zch (zy 152).cls (zby 152) (zcode 152) [0, 0, 346, 0, 590, 0, 0, 319, 0, 1010, 0, 679, 0, 0, 319, 0, 0, 316, 1015, 0, 0, 319, 0, 1019, 322, 0, 318, 499, 0, 0] = true := by decide +kernel
theorem zk_X11_beyond : zch (zy 153).cls (zby 153) (zcode 153) [0, 0, 0, 0, 0, 0, 0, 0, 0] = true := by decide +kernel
theorem zk_X11_areTwoRooms : zch (zy 154).cls (zby 154) (zcode 154) [0, 315, 0, 586, 0, 0, 315, 0, 586, 0, 0, 0, 0, 0, 0, 0, 0] = true := by decide +kernel
theorem zk_X11_refusalOfHours : zch (zy 155).cls (zby 155) (zcode 155) [0, 0, 0, 0, 0, 0, 349, 0, 0, 315, 103, 0, 679, 0, 0, 316, 195, 680, 0, 361, 0, 0, 0] = true := by decide +kernel
theorem zk_X11_turnByHand : zch (zy 156).cls (zby 156) (zcode 156) [0, 315, 0, 0, 616, 0, 590, 0, 0, 316, 0, 0, 743, 0, 0, 679, 0, 0, 318, 0, 316, 681, 0, 316, 0, 0, 744, 0, 316, 0, 0, 624, 0] = true := by decide +kernel
theorem zk_X11_meetingsTried : zch (zy 157).cls (zby 157) (zcode 157) [0, 317, 0, 316, 795, 0, 0, 0, 0, 0, 0, 0, 0, 0, 317, 695, 0, 0, 0, 0, 0, 0] = true := by decide +kernel
theorem zk_X11_draw : zch (zy 158).cls (zby 158) (zcode 158) [0, 0, 322, 0, 774, 0, 775, 0, 776, 0, 0, 322, 0, 322, 777, 0, 0, 778, 0] = true := by decide +kernel
theorem zk_X11_deedByDraws : zch (zy 159).cls (zby 159) (zcode 159) [0, 315, 111, 0, 0, 0, 0, 770, 0, 0, 0, 0, 0, 315, 111, 770, 0, 0, 316, 0, 0, 0, 315, 0, 591, 770, 744, 0, 0, 0, 0, 0, 315, 120, 0, 0, 0, 315, 120, 770, 0, 0, 316, 0, 0, 0, 770, 761, 0] = true := by decide +kernel
theorem zk_X12_in : zch (zy 160).cls (zby 160) (zcode 160) [0, 0, 0, 0, 0, 0, 0, 0, 0, 0, 0, 0] = true := by decide +kernel
theorem zk_X12_has : zch (zy 161).cls (zby 161) (zcode 161) [0, 0, 0, 0, 0, 0, 0, 0, 0, 0, 0] = true := by decide +kernel
theorem zk_X12_bits : zch (zy 162).cls (zby 162) (zcode 162) [0, 0, 0, 0, 0, 0, 0, 0, 0, 0, 0, 0, 0, 0, 0, 0] = true := by decide +kernel
theorem zk_X12_lesser : zch (zy 163).cls (zby 163) (zcode 163) [0, 0, 0, 0, 0, 0, 0] = true := by decide +kernel
theorem zk_X12_copies : zch (zy 164).cls (zby 164) (zcode 164) [0, 0, 0, 0, 0, 0, 0, 0, 0, 0, 0, 0, 0, 0, 0, 0, 0, 0] = true := by decide +kernel
theorem zk_X12_begins : zch (zy 165).cls (zby 165) (zcode 165) [0, 0, 0, 0, 0, 0, 1032, 0, 0, 0, 0, 0, 0, 1030, 0, 0, 1032, 0, 0, 1173, 0, 1030, 0, 0, 1032, 0, 0, 1173, 0, 1030, 0, 0, 1032, 0, 0, 1173, 0, 0, 1035, 0, 0, 1043, 0, 0, 1045, 0, 1037, 0, 0, 0, 0, 1037, 0, 0, 0, 0] = true := by decide +kernel
theorem zk_X12_feed : zch (zy 166).cls (zby 166) (zcode 166) [0, 0, 0, 1117, 1118, 0, 1121, 0, 0, 1040, 0, 0, 1122, 0, 0, 1039, 0, 1040, 0, 0, 0, 0, 1040, 0, 0, 1040, 0, 1040, 0] = true := by decide +kernel
theorem zk_X12_here : zch (zy 167).cls (zby 167) (zcode 167) [0, 1046, 0, 1040, 0, 0, 1039, 0, 1046, 0, 0, 0, 0] = true := by decide +kernel
theorem zk_X12_step : zch (zy 168).cls (zby 168) (zcode 168) [0, 1131, 0, 0, 0, 0, 1046, 0, 0, 1046, 0, 0, 0, 1046, 1047, 0, 0, 1131, 1048, 0, 0, 1049, 0, 0, 1050, 0, 1048, 0, 1135, 1136, 1118, 0, 0, 0, 1046, 0, 1048, 0, 0, 0, 0, 0, 1046, 0, 0, 0, 1048, 0, 1131, 0, 1135, 1136, 1118, 0, 0, 0, 1049, 0, 0, 0, 0, 1050, 0, 0, 1131, 0, 0, 0, 0, 0, 1050, 1050, 0, 0, 1049, 0, 0, 1049, 0, 0, 1046, 0, 0, 1046, 0, 0] = true := by decide +kernel
theorem zk_X12_fails : zch (zy 169).cls (zby 169) (zcode 169) [0, 0, 1051, 0, 0] = true := by decide +kernel
theorem zk_X12_number : zch (zy 170).cls (zby 170) (zcode 170) [0, 1127, 0, 1048, 0, 0, 0, 0, 1145, 0, 0, 1049, 0, 0, 0, 1050, 0, 0, 0, 0, 0, 1118, 0, 0, 0, 1145, 0, 0, 1031, 0, 0, 1050, 0, 0, 0] = true := by decide +kernel
theorem zk_X12_ends : zch (zy 171).cls (zby 171) (zcode 171) [0, 1127, 0, 1048, 0, 0, 0, 0, 1145, 0, 0, 0, 0, 0] = true := by decide +kernel
theorem zk_X12_row : zch (zy 172).cls (zby 172) (zcode 172) [0, 0, 0, 0, 0, 0, 0, 0, 0, 0, 0, 0, 1141, 0, 0, 0, 0, 0, 1127, 0, 1048, 0, 0, 0, 0, 0, 0, 0, 0, 0, 0, 0, 0, 0, 1145, 0, 0, 0, 1052, 0, 1048, 0, 0, 0, 0, 0, 0, 0, 1145, 0, 0, 0, 0, 0] = true := by decide +kernel
theorem zk_X12_readsRoom : zch (zy 173).cls (zby 173) (zcode 173) [0, 1031, 0, 0, 0, 0, 0, 0, 0, 0, 1145, 0, 0, 0, 0, 0, 0, 0, 0, 0, 1157, 0, 0, 0, 0, 1031, 0, 0, 0, 0, 1052, 0, 0, 1031, 0, 0, 0, 0, 0, 0, 0, 0] = true := by decide +kernel
theorem zk_X12_readsUnder : zch (zy 174).cls (zby 174) (zcode 174) [0, 0, 0, 0, 1031, 0, 0, 0, 0, 1141, 0, 0, 0, 0, 1050, 0, 0, 1031, 0, 0, 0, 0, 0, 0, 0, 0, 1145, 0, 0, 1031, 0, 0, 0, 0, 0, 0, 0, 0, 0, 0, 0, 0, 1031, 0, 0, 0, 0, 0, 1031, 0, 0, 0, 0, 1157, 0] = true := by decide +kernel
theorem zk_X12_readsPerson : zch (zy 175).cls (zby 175) (zcode 175) [0, 1031, 0, 0, 0, 0, 0, 0, 0, 0, 1145, 0, 0, 0, 0, 0, 0, 0, 1031, 0, 0, 0, 0, 1141, 0, 0, 0, 0, 0, 0, 0, 1031, 0, 0, 1031, 0, 0, 0, 0, 0, 0, 0, 0, 1141, 0, 0, 0, 0, 1031, 0, 0, 0, 0, 0, 0, 0, 0, 0, 0, 0, 0, 1141, 0, 0, 1149, 0, 0, 0, 0, 0] = true := by decide +kernel
theorem zk_X12_readsWall : zch (zy 176).cls (zby 176) (zcode 176) [0, 1031, 0, 0, 0, 0, 0, 0, 0, 0, 1145, 0, 0, 0, 0, 0, 0, 0, 1031, 0, 0, 0, 0, 1141, 0, 0, 0, 0, 0, 0, 0, 1031, 0, 0, 1031, 0, 0, 0, 0, 0, 0, 0, 0, 1141, 0, 0, 0, 0, 0, 0, 0, 1031, 0, 0, 0, 0, 1141, 0, 0, 0, 0, 1031, 0, 0, 0, 0, 0, 1031, 0, 0, 0, 0, 0, 0, 0, 1145, 0, 0, 1031, 0, 0, 0, 0, 0, 0, 0, 0, 0, 0, 0, 0, 1031, 0, 0, 1031, 0, 0, 0, 0, 0, 0, 0, 0, 1141, 0, 0, 1149, 0, 0, 0, 0, 0] = true := by decide +kernel
theorem zk_X12_readsClause : zch (zy 177).cls (zby 177) (zcode 177) [0, 1048, 0, 0, 0, 0, 0, 0, 0, 0, 1141, 0, 0, 1149, 0, 0, 0, 0, 0, 0, 0, 1145, 0, 0, 0, 0, 0, 1145, 0, 0, 1048, 0, 0, 1153, 0, 0, 1161, 0, 0, 1165, 0, 0, 1169, 0, 0, 0, 1145, 0] = true := by decide +kernel
theorem zk_X12_house : zch (zy 178).cls (zby 178) (zcode 178) [0, 0, 0, 0, 0, 0, 1031, 0, 0, 0, 0, 0, 0, 0, 1046, 0, 0, 1041, 0, 0, 0, 0, 0, 1127, 0, 1048, 0, 0, 0, 0, 0, 0, 0, 0, 0, 1137, 0, 0, 0, 0, 0, 1127, 0, 0, 0, 1040, 0, 0, 0, 0, 1047, 1041, 0, 0, 1051, 0, 0, 0, 1031, 0, 0, 0, 0, 0, 0, 0, 0, 1031, 0, 0, 1030, 0, 0, 1173, 0, 1176, 0, 1030, 0, 0, 0] = true := by decide +kernel
theorem zk_X12_fault : zch (zy 179).cls (zby 179) (zcode 179) [0, 1041, 0] = true := by decide +kernel
theorem zk_X12_isRoom : zch (zy 180).cls (zby 180) (zcode 180) [0, 0, 0, 0, 1030, 0, 0, 0, 0, 0, 1118, 0] = true := by decide +kernel
theorem zk_X12_isBar : zch (zy 181).cls (zby 181) (zcode 181) [0, 0, 1222, 0, 0, 0, 0, 0, 1030, 0, 0, 0, 0, 0, 0, 0, 1118, 0, 0, 0, 0, 0] = true := by decide +kernel
theorem zk_X12_isPerson : zch (zy 182).cls (zby 182) (zcode 182) [0, 0, 0, 0, 1030, 0, 0, 0, 0, 0, 1118, 0] = true := by decide +kernel
theorem zk_X12_areTwo : zch (zy 183).cls (zby 183) (zcode 183) [0, 0, 1222, 0, 0, 0, 1222, 0, 0, 0, 0, 0, 0, 0, 0] = true := by decide +kernel
theorem zk_X12_turned : zch (zy 184).cls (zby 184) (zcode 184) [0, 1030, 0, 0, 0, 0, 0, 0, 0, 0, 0, 0, 0, 0, 0] = true := by decide +kernel
theorem zk_X12_readsOn : zch (zy 185).cls (zby 185) (zcode 185) [0, 0, 0, 0, 0, 0, 0, 0, 0, 1200, 1203, 0] = true := by decide +kernel
theorem zk_X12_reads : zch (zy 186).cls (zby 186) (zcode 186) [0, 0, 1032, 0, 0, 1196, 0] = true := by decide +kernel
theorem zk_X12_open : zch (zy 187).cls (zby 187) (zcode 187) [0, 0, 0, 0, 0, 0, 1030, 0, 0, 0, 0, 0, 0, 0, 1030, 0, 0, 0, 0, 0, 0, 1192, 0, 0, 0, 1192, 0, 0, 0, 0, 0, 0, 0, 0, 0, 0, 0, 0] = true := by decide +kernel
theorem zk_X12_liftedInAll : zch (zy 188).cls (zby 188) (zcode 188) [0, 0, 0, 0, 0, 0, 0, 0, 0, 1032, 0, 0, 0, 0, 1211, 0, 0, 0, 0, 0, 0] = true := by decide +kernel
theorem zk_X12_mostRead : zch (zy 189).cls (zby 189) (zcode 189) [0, 0, 0, 0, 0, 0, 1053, 0, 0, 0, 0, 0, 0, 0, 0, 0, 1030, 0, 0, 0, 0, 0, 0, 0, 1030, 0, 0, 0, 0, 0, 0, 1053, 0, 0, 0, 1192, 0, 0, 0, 0, 0, 0, 0, 0, 0, 0, 0, 0, 0, 0, 0, 0, 0, 1053, 0, 0, 0, 0, 0, 0, 0, 1053, 0, 0, 0, 1053, 0, 0, 0, 0, 0, 0, 0, 0, 0, 0, 0] = true := by decide +kernel
theorem zk_X12_key : zch (zy 190).cls (zby 190) (zcode 190) [0, 0, 0, 0, 0, 0, 1030, 0, 0, 0, 0, 0, 0, 0, 0, 0, 1192, 0, 0, 0, 0, 0, 0, 0, 0] = true := by decide +kernel
theorem zk_X12_repeat : zch (zy 191).cls (zby 191) (zcode 191) [0, 1030, 0, 0, 0, 0, 0, 0, 0, 0, 0, 0, 0, 0, 0, 0, 0, 0, 0, 0, 0, 0, 0, 0, 1192, 0, 0, 0, 0, 0, 0, 0, 1192, 0, 0, 0, 0, 0, 0, 0, 0, 0, 0, 0, 0, 0, 0, 0] = true := by decide +kernel
theorem zk_X12_told : zch (zy 192).cls (zby 192) (zcode 192) [0, 0, 0, 1030, 0, 0, 0, 0, 0, 0, 1030, 0, 0, 0, 0, 1030, 0, 0, 0, 0, 1040, 0, 0, 1032, 0, 0, 0, 0, 1032, 0, 0, 0, 0, 1032, 0, 0, 0, 0, 1188, 0, 0, 1207, 0, 0, 1214, 0, 0, 1043, 0, 0, 1045, 0, 0, 1035, 0, 1121, 0] = true := by decide +kernel
theorem zk_X12_room : zch (zy 193).cls (zby 193) (zcode 193) [0, 0, 1222, 0, 1226, 0, 0, 0, 0, 1030, 0, 0, 0, 0, 0, 0, 1032, 0, 0, 0, 0, 0, 0, 0, 1227, 0, 0, 0, 1231, 0, 0, 1030, 0, 0, 0, 0, 0, 1121, 0] = true := by decide +kernel
theorem zk_X12_bar : zch (zy 194).cls (zby 194) (zcode 194) [0, 0, 0, 1239, 0, 1226, 0, 0, 0, 0, 1243, 1118, 0, 1121, 0, 0, 0, 0, 0, 0, 0, 1192, 0, 0, 0, 0, 0, 0, 0, 0, 0, 0, 1203, 0] = true := by decide +kernel
theorem zk_X12_person : zch (zy 195).cls (zby 195) (zcode 195) [0, 0, 1248, 0, 1226, 0, 0, 0, 0, 1252, 1118, 0, 1121, 0, 0, 0, 0, 0, 1032, 0, 0, 0, 0, 0, 0, 0, 0, 0, 0, 0, 1032, 0, 0, 0, 0, 0, 1032, 0, 0, 0, 0, 1192, 0] = true := by decide +kernel
theorem zk_X12_wall : zch (zy 196).cls (zby 196) (zcode 196) [0, 0, 0, 0, 1030, 0, 0, 0, 0, 0, 1118, 0, 1226, 0, 0, 0, 0, 1252, 1118, 0, 0, 1030, 0, 0, 0, 0, 0, 0, 0, 0, 0, 1121, 0] = true := by decide +kernel
theorem zk_X12_logged : zch (zy 197).cls (zby 197) (zcode 197) [0, 0, 0, 1243, 1118, 0, 1121, 0, 0, 0, 0, 0, 1032, 0, 0, 0, 0, 0, 1118, 0, 0, 0, 0, 1032, 0, 0, 1032, 0, 0, 0, 0, 0, 0, 0, 0, 0, 0, 0, 0, 0, 0, 0, 0, 0, 0, 0, 0, 0, 0, 0, 0, 0, 0, 0, 0] = true := by decide +kernel
theorem zk_X12_walks : zch (zy 198).cls (zby 198) (zcode 198) [0, 0, 0, 0, 0, 0, 0, 0, 0, 0, 0, 0, 0, 0, 0, 0, 0, 0, 0, 0, 0, 0, 0, 0, 0, 0, 0, 1030, 0, 0, 0, 0, 0, 0, 0, 0, 0, 0, 0, 0, 0, 0, 1196, 0, 0, 0, 0, 0] = true := by decide +kernel
theorem zk_X12_logs : zch (zy 199).cls (zby 199) (zcode 199) [0, 0, 1295, 0, 0, 0, 0, 0, 1296, 0, 0, 0, 0, 0, 0, 0, 0, 0, 0, 0, 0, 0, 0, 0, 0, 0, 0, 0, 0, 0, 0, 0, 0, 0, 0, 0, 0, 0, 0, 0, 0, 0, 0, 0, 0, 0, 0, 0, 0, 0, 0, 0, 0, 0, 0, 0, 0] = true := by decide +kernel
theorem zk_X12_isAt : zch (zy 200).cls (zby 200) (zcode 200) [0, 0, 0, 0, 0, 0, 0, 0, 0, 0, 0, 0, 0, 0, 0, 0, 0, 0] = true := by decide +kernel
theorem zk_X12_meetings : zch (zy 201).cls (zby 201) (zcode 201) [0, 0, 0, 0, 1054, 0, 0, 0, 0, 1030, 0, 0, 0, 0, 0, 0, 0, 1030, 0, 0, 0, 0, 0, 0, 0, 1030, 0, 0, 0, 0, 0, 0, 0, 1030, 0, 0, 0, 0, 0, 1030, 0, 0, 0, 0, 1288, 0, 0, 0, 0, 0, 1030, 0, 0, 0, 0, 0, 1030, 0, 0, 0, 0, 1288, 0, 0, 0, 0, 0, 0, 0, 0, 0, 0, 0, 1292, 0, 0, 0, 1054, 0, 0, 0, 0, 0, 0, 0, 0, 0, 0, 0, 0, 0, 0, 0, 0, 0, 0, 1054, 0, 0, 0, 0, 0, 0, 0, 0] = true := by decide +kernel
theorem zk_X12_hourGoes : zch (zy 202).cls (zby 202) (zcode 202) [0, 0, 0, 0, 1030, 0, 0, 0, 0, 0, 0, 1280, 0, 0, 0, 0, 0, 1284, 0, 0, 0, 0, 0, 0, 0, 0, 0, 1030, 0, 0, 0, 0, 0, 0, 0, 1030, 0, 0, 0, 0, 0, 1030, 0, 0, 0, 0, 0, 0, 0, 1030, 0, 0, 0, 0, 0, 0, 0, 0, 1030, 0, 0, 0, 0, 0, 0, 0, 0, 0, 0, 0, 0, 0, 1030, 0, 0, 0, 0, 1030, 0, 0, 0, 0, 0, 0, 0, 0, 0, 0] = true := by decide +kernel
theorem zk_X12_remember : zch (zy 203).cls (zby 203) (zcode 203) [0, 1035, 0, 0, 0, 0, 0, 0, 0, 0, 1034, 0, 0, 1034, 0, 0, 0, 0, 0, 0, 0, 0, 0, 1035, 0, 0, 1035, 0, 1032, 0, 0, 1034, 0, 0, 1035, 0, 0, 1173, 0, 0, 1035, 0, 0, 1035, 0] = true := by decide +kernel
theorem zk_X12_refuses : zch (zy 204).cls (zby 204) (zcode 204) [0, 0, 0, 1269, 1118, 0, 1121, 0, 0, 1030, 0, 0, 0, 1270, 0, 0, 1032, 0, 0, 1271, 0, 1122, 0, 0, 0] = true := by decide +kernel
theorem zk_X12_hour : zch (zy 205).cls (zby 205) (zcode 205) [0, 0, 1265, 0, 0, 0, 0, 0, 0, 0, 0, 0, 0, 0, 1272, 0, 0, 1032, 0, 1276, 0, 0, 0, 0, 1032, 0, 0, 0] = true := by decide +kernel
theorem zk_X12_lift : zch (zy 206).cls (zby 206) (zcode 206) [0, 0, 0, 1239, 0, 1226, 0, 0, 1032, 0, 0, 0, 0, 0, 1200, 0, 1270, 0, 0, 1272, 0, 1032, 0, 0, 0, 0, 0, 0, 0, 0, 0, 0, 0, 0, 0, 1192, 0] = true := by decide +kernel
theorem zk_X12_paste : zch (zy 207).cls (zby 207) (zcode 207) [0, 0, 0, 1239, 0, 1226, 0, 0, 1032, 0, 0, 0, 0, 0, 1200, 0, 1270, 0, 0, 1272, 0, 1032, 0, 0, 0, 0, 0, 0, 0, 0, 0, 0, 0, 0, 0, 0, 0, 1192, 0] = true := by decide +kernel
theorem zk_X12_moveTo : zch (zy 208).cls (zby 208) (zcode 208) [0, 0, 1248, 0, 0, 0, 1222, 0, 1226, 0, 0, 0, 1032, 0, 0, 0, 0, 0, 1032, 0, 0, 0, 0, 1192, 0, 0, 0, 0, 0, 1030, 0, 0, 0, 0, 0, 0, 1032, 0, 0, 0, 0, 0, 0, 0, 0, 0, 1192, 0, 0, 0, 1272, 0, 1032, 0, 0, 0, 0, 0, 0, 1032, 0, 0, 0, 0, 0, 0, 0, 0, 0, 1270, 0] = true := by decide +kernel
theorem zk_X12_pace : zch (zy 209).cls (zby 209) (zcode 209) [0, 0, 1248, 0, 1226, 0, 0, 0, 0, 1315, 1118, 0, 1121, 0, 0, 1272, 0, 1032, 0, 0, 0, 0, 0, 0, 1032, 0, 0, 0, 0, 0, 0, 0] = true := by decide +kernel
theorem zk_X12_draw : zch (zy 210).cls (zby 210) (zcode 210) [0, 0, 1038, 1328, 0, 1329, 0, 1330, 0, 1038, 0, 1038, 1331, 0, 0, 0, 0, 0, 0] = true := by decide +kernel
theorem zk_X12_draws : zch (zy 211).cls (zby 211) (zcode 211) [0, 0, 1324, 0, 0, 0, 0, 0, 1030, 0, 0, 1324, 0, 0, 1032, 0, 0, 0, 0, 0, 0, 0, 0, 1030, 0, 0, 0, 0, 1324, 0, 0, 0, 0, 0, 0, 0, 0, 1030, 0, 0, 0, 0, 0, 1030, 0, 0, 1324, 0, 0, 1032, 0, 0, 0, 0, 0, 1324, 0, 0] = true := by decide +kernel
theorem zk_X12_drift : zch (zy 212).cls (zby 212) (zcode 212) [0, 0, 1265, 0, 0, 0, 0, 0, 0, 0, 0, 0, 0, 0, 1272, 0, 1030, 0, 0, 0, 0, 1320, 0, 0, 1032, 0, 1276, 0, 0, 0, 0, 1032, 0, 0, 0] = true := by decide +kernel
theorem zk_X12_undo : zch (zy 213).cls (zby 213) (zcode 213) [0, 0, 0, 1269, 1118, 0, 1121, 0, 0, 0, 1035, 0, 1270, 0, 0, 0, 1035, 0, 0, 1035, 0, 1034, 0, 0, 1035, 0, 0, 1032, 0, 0, 1173, 0, 1032, 0, 0, 0] = true := by decide +kernel
theorem zk_X12_layAside : zch (zy 214).cls (zby 214) (zcode 214) [0, 1032, 0, 0, 1033, 0, 0, 1173, 0] = true := by decide +kernel
theorem zk_X12_where : zch (zy 215).cls (zby 215) (zcode 215) [0, 0, 1248, 0, 1226, 0, 0, 0, 0, 1340, 1118, 0, 1121, 0, 0, 1341, 0, 0, 0, 0, 0, 0, 0, 1033, 0, 1276, 0, 0, 0, 0, 1033, 0, 0, 0, 0, 0] = true := by decide +kernel
theorem zk_X12_meets : zch (zy 216).cls (zby 216) (zcode 216) [0, 0, 0, 1340, 1118, 0, 1121, 0, 0, 1341, 0, 0, 0, 0, 0, 0, 0, 0, 0, 0, 1033, 0, 1276, 0, 0, 0, 0, 0, 0] = true := by decide +kernel
theorem zk_X12_together : zch (zy 217).cls (zby 217) (zcode 217) [0, 0, 1248, 0, 0, 0, 1248, 0, 0, 0, 0, 1226, 0, 0, 1341, 0, 0, 0, 0, 0, 0, 0, 1033, 0, 0, 0, 0, 0, 1276, 0, 0, 1054, 0, 0, 0, 0, 0, 0, 0] = true := by decide +kernel
theorem zk_X12_isIn : zch (zy 218).cls (zby 218) (zcode 218) [0, 0, 0, 1192, 0, 0, 0, 0, 0, 0, 1030, 0, 0, 0, 0, 0, 1192, 0, 0, 0, 0, 0] = true := by decide +kernel
theorem zk_X12_inCanon : zch (zy 219).cls (zby 219) (zcode 219) [0, 0, 0, 0, 0, 0, 1030, 0, 0, 0, 0, 0, 0, 0, 0, 0, 0, 0, 1366, 0, 0, 0, 0, 0, 0, 0, 0, 0, 0] = true := by decide +kernel
theorem zk_X12_canon : zch (zy 220).cls (zby 220) (zcode 220) [0, 0, 0, 1357, 0, 1226, 0, 0, 0, 0, 1361, 1118, 0, 0, 0, 0, 0, 1362, 0, 1121, 0] = true := by decide +kernel
theorem zk_X12_bestCanon : zch (zy 221).cls (zby 221) (zcode 221) [0, 0, 0, 1357, 0, 1226, 0, 0, 0, 0, 0, 1118, 0, 1121, 0, 0, 0, 0, 0, 0, 0, 1030, 0, 0, 0, 0, 0, 0, 0, 0, 0, 1362, 0, 0, 0, 0, 1362, 0, 0, 0, 0, 0, 0, 0, 0, 0, 0, 0, 0, 0, 0, 0, 1362, 0] = true := by decide +kernel
theorem zk_X12_match : zch (zy 222).cls (zby 222) (zcode 222) [0, 0, 0, 1357, 0, 1226, 0, 0, 0, 0, 1361, 1118, 0, 0, 0, 0, 0, 1118, 0, 1121, 0, 0, 0, 0, 0, 0, 0, 1030, 0, 0, 0, 0, 0, 0, 0, 0, 0, 0, 1366, 0, 0, 0, 0, 0, 1032, 0, 0, 0, 0, 0, 1200, 0, 0, 0, 0, 1203, 0, 0, 0, 0, 0, 0, 1030, 0, 0, 0, 0, 0, 1192, 0, 0, 0, 0, 0, 0, 0, 0, 0, 0, 0, 0, 0, 0, 1211, 0, 0, 0] = true := by decide +kernel
theorem zk_X12_joinOf : zch (zy 223).cls (zby 223) (zcode 223) [0, 1030, 0, 0, 0, 0, 0, 1030, 0, 0, 0, 0, 1296, 0, 0, 0, 0, 0, 0, 0, 0, 0, 0, 0, 0, 0, 0, 0, 1030, 0, 0, 0, 0, 0, 0, 0, 0, 1192, 0, 0, 0, 1192, 0, 0, 0, 0, 0, 0, 0, 0, 0, 0, 0, 0, 0, 0, 0] = true := by decide +kernel
theorem zk_X12_join : zch (zy 224).cls (zby 224) (zcode 224) [0, 0, 0, 1357, 0, 0, 0, 0, 1382, 0, 1226, 0] = true := by decide +kernel
theorem zk_X12_nextOrder : zch (zy 225).cls (zby 225) (zcode 225) [0, 0, 0, 0, 0, 0, 0, 1055, 0, 0, 0, 1055, 0, 0, 0, 0, 0, 0, 0, 0, 0, 0, 0, 0, 0, 0, 0, 0, 1055, 0, 0, 0, 1055, 0, 0, 0, 0, 0, 0, 1055, 0, 0, 0, 0, 1055, 0, 0, 1055, 0, 0, 0, 0, 1055, 0, 0, 0, 0, 0, 0, 0, 0, 0, 0, 0, 0, 0, 0, 0, 1055, 0, 0, 0, 0, 1055, 0, 0, 1055, 0, 0, 0, 0, 1055, 0, 0, 0, 0, 0, 0, 0, 0] = true := by decide +kernel
theorem zk_X12_shortest : zch (zy 226).cls (zby 226) (zcode 226) [0, 0, 0, 0, 1118, 0, 1121, 0, 0, 1030, 0, 0, 0, 0, 0, 0, 0, 0, 0, 0, 0, 0, 0, 0, 0, 1055, 0, 0, 0, 0, 0, 1030, 0, 0, 0, 0, 0, 0, 0, 0, 0, 0, 0, 0, 1056, 0, 0, 0, 0, 0, 0, 0, 0, 0, 0, 0, 0, 0, 1382, 0, 0, 0, 0, 0, 1390, 0, 0, 0, 0, 0, 0, 0, 0, 0, 0, 1055, 0, 0, 0, 0, 0, 0, 0, 0, 0, 0, 0, 0, 1056, 0, 0, 1055, 0, 0, 0, 0, 0, 0, 1055, 0, 0, 0, 0, 0, 0, 0, 0, 0, 0, 1055, 0, 0, 0, 0, 0, 0, 0, 0, 0, 0, 0, 0, 0, 0, 0, 0, 0, 1296, 0, 0, 0, 1391, 0, 0, 0, 0, 0, 0, 0, 0] = true := by decide +kernel
theorem zk_X12_apart : zch (zy 227).cls (zby 227) (zcode 227) [0, 0, 1227, 0, 0, 1227, 0, 0, 0, 0, 0, 0, 0, 0, 0, 0, 0, 0, 0, 1296, 0] = true := by decide +kernel
theorem zk_X12_nearest : zch (zy 228).cls (zby 228) (zcode 228) [0, 0, 1222, 0, 1226, 0, 0, 0, 0, 0, 0, 0, 1030, 0, 0, 0, 0, 0, 0, 0, 0, 0, 0, 0, 0, 1399, 0, 0, 0, 1399, 0, 0, 0, 0, 0, 0, 0, 0, 0] = true := by decide +kernel
theorem zk_X12_modulation : zch (zy 229).cls (zby 229) (zcode 229) [0, 0, 1222, 0, 0, 0, 1222, 0, 1226, 0, 0, 0, 0, 0, 0, 0, 0, 0, 0, 0, 0, 1200, 0, 0, 0, 0, 0, 0, 0, 0, 0, 1030, 0, 0, 0, 0, 0, 0, 0, 1030, 0, 0, 0, 0, 0, 0, 1200, 0, 0, 0, 0, 1399, 0, 0, 0, 0, 0, 0, 0, 0, 0, 0, 0, 0, 0, 0, 0, 0, 0] = true := by decide +kernel
theorem zk_X12_sounds : zch (zy 230).cls (zby 230) (zcode 230) [0, 0, 0, 1315, 1118, 0, 1121, 0, 0, 0, 0, 0, 0, 0, 1030, 0, 0, 0, 0, 0, 0, 1032, 0, 0, 0, 0, 0, 1032, 0, 0, 0, 0, 1192, 0, 0, 0, 0, 0, 0, 0, 0, 0, 0, 0, 0, 0] = true := by decide +kernel
theorem zk_X12_dry : zch (zy 231).cls (zby 231) (zcode 231) [0, 0, 0, 1415, 1118, 0, 0, 0, 0, 1416, 1118, 0, 1121, 0, 1417, 0, 0, 0, 0, 0, 0, 0, 0, 0, 0, 1416, 0, 0, 0, 0, 0, 0, 0] = true := by decide +kernel
theorem zk_X12_see : zch (zy 232).cls (zby 232) (zcode 232) [0, 0, 0, 1361, 1118, 0, 0, 0, 0, 1315, 1118, 0, 1121, 0, 0, 1043, 0, 0, 1122, 0, 0, 1042, 0, 0, 1043, 0, 0, 0, 0, 1042, 0, 0, 1043, 0, 0, 0, 0, 0, 0, 0, 1043, 0, 0, 1043, 0, 1043, 0] = true := by decide +kernel
theorem zk_X12_isSo : zch (zy 233).cls (zby 233) (zcode 233) [0, 0, 0, 0, 0, 0, 0, 1043, 0, 0, 0, 0, 0, 0, 0, 0, 1042, 0, 0, 0, 0, 1030, 0, 0, 0, 0, 0, 1192, 0, 1042, 0, 0, 0, 0, 0, 0, 0, 0, 0, 0, 0, 0, 0] = true := by decide +kernel
theorem zk_X12_places : zch (zy 234).cls (zby 234) (zcode 234) [0, 0, 0, 1243, 1118, 0, 1121, 0, 0, 0, 0, 0, 0, 0, 0, 1030, 0, 0, 0, 0, 0, 0, 0, 0, 1030, 0, 0, 0, 0, 0, 0, 0, 0, 0, 0, 0, 0, 1426, 0, 0, 0, 0, 0, 0, 0, 0, 0, 0, 0, 0, 0, 0, 0, 0, 0, 0, 0, 0, 0, 0, 0, 0, 0, 0, 0, 0, 0] = true := by decide +kernel
theorem zk_X12_greatestPart : zch (zy 235).cls (zby 235) (zcode 235) [0, 0, 0, 0, 0, 0, 1053, 0, 0, 0, 0, 0, 0, 0, 0, 0, 0, 0, 1030, 0, 0, 0, 0, 0, 0, 0, 1030, 0, 0, 0, 0, 0, 0, 0, 0, 1426, 0, 0, 0, 0, 0, 0, 0, 1030, 0, 0, 0, 0, 0, 1192, 0, 0, 1053, 0, 0, 0, 0, 0, 0, 0, 1053, 0, 0, 0, 0, 0, 1053, 0, 0, 0, 0, 0, 0, 0, 0, 0, 0, 0] = true := by decide +kernel
theorem zk_X12_lookAt : zch (zy 236).cls (zby 236) (zcode 236) [0, 0, 1434, 0, 0, 0, 0, 0, 0, 0, 0, 0, 0, 1435, 0, 0, 0, 0, 0, 0, 0, 0, 0, 0, 1296, 0, 0, 0, 0, 0] = true := by decide +kernel
theorem zk_X12_write : zch (zy 237).cls (zby 237) (zcode 237) [0, 0, 0, 1239, 0, 1226, 0, 0, 0, 0, 1315, 1118, 0, 1121, 0, 0, 1045, 0, 0, 1122, 0, 0, 1044, 0, 0, 1045, 0, 0, 0, 0, 1044, 0, 0, 1045, 0, 0, 0, 0, 0, 0, 1044, 0, 0, 1045, 0, 0, 0, 0, 0, 0, 0, 1045, 0, 0, 1045, 0, 1045, 0] = true := by decide +kernel
theorem zk_X12_judge : zch (zy 238).cls (zby 238) (zcode 238) [0, 0, 0, 0, 1045, 0, 0, 0, 1044, 0, 0, 0, 0, 0, 1044, 0, 0, 0, 0, 0, 0, 1192, 0, 1044, 0, 0, 0, 0, 0, 0, 0, 0, 0, 0, 0, 0, 0] = true := by decide +kernel
theorem zk_X12_tear : zch (zy 239).cls (zby 239) (zcode 239) [0, 1043, 0, 1045, 0, 0, 0, 0, 1043, 0, 0, 1045, 0, 0] = true := by decide +kernel
theorem zk_X12_seed : zch (zy 240).cls (zby 240) (zcode 240) [0, 0, 1121, 0, 0, 1038, 0, 0, 0, 0, 0, 1038, 0, 0] = true := by decide +kernel
theorem zk_X12_keep : zch (zy 241).cls (zby 241) (zcode 241) [0, 0, 0, 0, 1118, 0, 1226, 0, 0, 1032, 0, 0, 1036, 0, 0, 0, 0, 1173, 0, 1036, 0, 0, 0, 0, 0, 0, 1038, 0, 0, 0, 1037, 0, 0, 0, 0, 0, 1035, 0, 0] = true := by decide +kernel
theorem zk_X12_goBack : zch (zy 242).cls (zby 242) (zcode 242) [0, 0, 0, 0, 1118, 0, 1226, 0, 0, 1037, 0, 0, 0, 1270, 0, 0, 1036, 0, 0, 0, 0, 1032, 0, 0, 1173, 0, 0, 1036, 0, 0, 0, 0, 0, 0, 0, 1038, 0, 0, 1035, 0, 0] = true := by decide +kernel
