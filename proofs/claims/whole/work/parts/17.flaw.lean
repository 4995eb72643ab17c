def gL_law_L18 (F : Nat)  (K : (Int32 → qz_S → Option (Int32 × qz_S))) : Nat → Int32 → qz_S → Option (Int32 × qz_S)
  | 0, _, _ => none
  | n + 1, y3, T => if ((Int32.ofNat (qz_ln T.1 ((33, 0, 0) : qz_N))) - (4 : Int32)) < y3 then (K y3 T) else (if qz_xi y3 (qz_ln T.1 ((33, 0, 0) : qz_N)) = true then (if ((T.1 ((33, 0, 0) : qz_N) (y3).toNatClampNeg) &&& (31 : Int32)) = 0 then (if qz_xi (y3 + (1 : Int32)) (qz_ln T.1 ((33, 0, 0) : qz_N)) = true then (Option.bind (gX_addEnd F T (T.1 ((33, 0, 0) : qz_N) ((y3 + (1 : Int32))).toNatClampNeg)) fun R5 => if qz_xi (y3 + (1 : Int32)) (qz_ln R5.2.1 ((33, 0, 0) : qz_N)) = true then (Option.bind (gM_addEnd F R5.2 (R5.2.1 ((33, 0, 0) : qz_N) ((y3 + (1 : Int32))).toNatClampNeg)) fun R8 => if R5.1 = R8.1 then ((gL_law_L18 F K) n (y3 + 4) R8.2) else (some ((0 : Int32), R8.2))) else none) else none) else (if ((T.1 ((33, 0, 0) : qz_N) (y3).toNatClampNeg) &&& (31 : Int32)) = 1 then (if qz_xi (y3 + (1 : Int32)) (qz_ln T.1 ((33, 0, 0) : qz_N)) = true then (if qz_xi (y3 + (2 : Int32)) (qz_ln T.1 ((33, 0, 0) : qz_N)) = true then (if qz_xi (y3 + (3 : Int32)) (qz_ln T.1 ((33, 0, 0) : qz_N)) = true then (Option.bind (gX_book F T (T.1 ((33, 0, 0) : qz_N) ((y3 + (1 : Int32))).toNatClampNeg) (T.1 ((33, 0, 0) : qz_N) ((y3 + (2 : Int32))).toNatClampNeg) (T.1 ((33, 0, 0) : qz_N) ((y3 + (3 : Int32))).toNatClampNeg)) fun R15 => if qz_xi (y3 + (1 : Int32)) (qz_ln R15.2.1 ((33, 0, 0) : qz_N)) = true then (if qz_xi (y3 + (2 : Int32)) (qz_ln R15.2.1 ((33, 0, 0) : qz_N)) = true then (if qz_xi (y3 + (3 : Int32)) (qz_ln R15.2.1 ((33, 0, 0) : qz_N)) = true then (Option.bind (gM_book F R15.2 (R15.2.1 ((33, 0, 0) : qz_N) ((y3 + (1 : Int32))).toNatClampNeg) (R15.2.1 ((33, 0, 0) : qz_N) ((y3 + (2 : Int32))).toNatClampNeg) (R15.2.1 ((33, 0, 0) : qz_N) ((y3 + (3 : Int32))).toNatClampNeg)) fun R20 => if R15.1 = R20.1 then ((gL_law_L18 F K) n (y3 + 4) R20.2) else (some ((0 : Int32), R20.2))) else none) else none) else none) else none) else none) else none) else (if ((T.1 ((33, 0, 0) : qz_N) (y3).toNatClampNeg) &&& (31 : Int32)) = 2 then (Option.bind (gX_bookAll F T) fun R24 => Option.bind (gM_bookAll F R24.2) fun R26 => if R24.1 = R26.1 then ((gL_law_L18 F K) n (y3 + 4) R26.2) else (some ((0 : Int32), R26.2))) else (if ((T.1 ((33, 0, 0) : qz_N) (y3).toNatClampNeg) &&& (31 : Int32)) = 3 then (if qz_xi (y3 + (1 : Int32)) (qz_ln T.1 ((33, 0, 0) : qz_N)) = true then (Option.bind (gX_takeBack F T (T.1 ((33, 0, 0) : qz_N) ((y3 + (1 : Int32))).toNatClampNeg)) fun R31 => if qz_xi (y3 + (1 : Int32)) (qz_ln R31.2.1 ((33, 0, 0) : qz_N)) = true then (Option.bind (gM_takeBack F R31.2 (R31.2.1 ((33, 0, 0) : qz_N) ((y3 + (1 : Int32))).toNatClampNeg)) fun R34 => if R31.1 = R34.1 then ((gL_law_L18 F K) n (y3 + 4) R34.2) else (some ((0 : Int32), R34.2))) else none) else none) else (if ((T.1 ((33, 0, 0) : qz_N) (y3).toNatClampNeg) &&& (31 : Int32)) = 4 then (if qz_xi (y3 + (1 : Int32)) (qz_ln T.1 ((33, 0, 0) : qz_N)) = true then (if qz_xi (y3 + (2 : Int32)) (qz_ln T.1 ((33, 0, 0) : qz_N)) = true then (Option.bind (gX_stay F T (T.1 ((33, 0, 0) : qz_N) ((y3 + (1 : Int32))).toNatClampNeg) (T.1 ((33, 0, 0) : qz_N) ((y3 + (2 : Int32))).toNatClampNeg)) fun R40 => if qz_xi (y3 + (1 : Int32)) (qz_ln R40.2.1 ((33, 0, 0) : qz_N)) = true then (if qz_xi (y3 + (2 : Int32)) (qz_ln R40.2.1 ((33, 0, 0) : qz_N)) = true then (Option.bind (gM_stay F R40.2 (R40.2.1 ((33, 0, 0) : qz_N) ((y3 + (1 : Int32))).toNatClampNeg) (R40.2.1 ((33, 0, 0) : qz_N) ((y3 + (2 : Int32))).toNatClampNeg)) fun R44 => if R40.1 = R44.1 then ((gL_law_L18 F K) n (y3 + 4) R44.2) else (some ((0 : Int32), R44.2))) else none) else none) else none) else none) else (if ((T.1 ((33, 0, 0) : qz_N) (y3).toNatClampNeg) &&& (31 : Int32)) = 5 then (if qz_xi (y3 + (1 : Int32)) (qz_ln T.1 ((33, 0, 0) : qz_N)) = true then (if qz_xi (y3 + (2 : Int32)) (qz_ln T.1 ((33, 0, 0) : qz_N)) = true then (if qz_xi (y3 + (3 : Int32)) (qz_ln T.1 ((33, 0, 0) : qz_N)) = true then (Option.bind (gX_merge F T (T.1 ((33, 0, 0) : qz_N) ((y3 + (1 : Int32))).toNatClampNeg) (T.1 ((33, 0, 0) : qz_N) ((y3 + (2 : Int32))).toNatClampNeg) (T.1 ((33, 0, 0) : qz_N) ((y3 + (3 : Int32))).toNatClampNeg)) fun R51 => if qz_xi (y3 + (1 : Int32)) (qz_ln R51.2.1 ((33, 0, 0) : qz_N)) = true then (if qz_xi (y3 + (2 : Int32)) (qz_ln R51.2.1 ((33, 0, 0) : qz_N)) = true then (if qz_xi (y3 + (3 : Int32)) (qz_ln R51.2.1 ((33, 0, 0) : qz_N)) = true then (Option.bind (gM_merge F R51.2 (R51.2.1 ((33, 0, 0) : qz_N) ((y3 + (1 : Int32))).toNatClampNeg) (R51.2.1 ((33, 0, 0) : qz_N) ((y3 + (2 : Int32))).toNatClampNeg) (R51.2.1 ((33, 0, 0) : qz_N) ((y3 + (3 : Int32))).toNatClampNeg)) fun R56 => if R51.1 = R56.1 then ((gL_law_L18 F K) n (y3 + 4) R56.2) else (some ((0 : Int32), R56.2))) else none) else none) else none) else none) else none) else none) else (if ((T.1 ((33, 0, 0) : qz_N) (y3).toNatClampNeg) &&& (31 : Int32)) = 6 then (if qz_xi (y3 + (1 : Int32)) (qz_ln T.1 ((33, 0, 0) : qz_N)) = true then (if qz_xi (y3 + (2 : Int32)) (qz_ln T.1 ((33, 0, 0) : qz_N)) = true then (Option.bind (gX_part F T (T.1 ((33, 0, 0) : qz_N) ((y3 + (1 : Int32))).toNatClampNeg) (T.1 ((33, 0, 0) : qz_N) ((y3 + (2 : Int32))).toNatClampNeg)) fun R62 => if qz_xi (y3 + (1 : Int32)) (qz_ln R62.2.1 ((33, 0, 0) : qz_N)) = true then (if qz_xi (y3 + (2 : Int32)) (qz_ln R62.2.1 ((33, 0, 0) : qz_N)) = true then (Option.bind (gM_part F R62.2 (R62.2.1 ((33, 0, 0) : qz_N) ((y3 + (1 : Int32))).toNatClampNeg) (R62.2.1 ((33, 0, 0) : qz_N) ((y3 + (2 : Int32))).toNatClampNeg)) fun R66 => if R62.1 = R66.1 then ((gL_law_L18 F K) n (y3 + 4) R66.2) else (some ((0 : Int32), R66.2))) else none) else none) else none) else none) else (if ((T.1 ((33, 0, 0) : qz_N) (y3).toNatClampNeg) &&& (31 : Int32)) = 7 then (if qz_xi (y3 + (1 : Int32)) (qz_ln T.1 ((33, 0, 0) : qz_N)) = true then (if qz_xi (y3 + (2 : Int32)) (qz_ln T.1 ((33, 0, 0) : qz_N)) = true then (Option.bind (gX_set F T (T.1 ((33, 0, 0) : qz_N) ((y3 + (1 : Int32))).toNatClampNeg) (T.1 ((33, 0, 0) : qz_N) ((y3 + (2 : Int32))).toNatClampNeg)) fun R72 => if qz_xi (y3 + (1 : Int32)) (qz_ln R72.2.1 ((33, 0, 0) : qz_N)) = true then (if qz_xi (y3 + (2 : Int32)) (qz_ln R72.2.1 ((33, 0, 0) : qz_N)) = true then (Option.bind (gM_set F R72.2 (R72.2.1 ((33, 0, 0) : qz_N) ((y3 + (1 : Int32))).toNatClampNeg) (R72.2.1 ((33, 0, 0) : qz_N) ((y3 + (2 : Int32))).toNatClampNeg)) fun R76 => if R72.1 = R76.1 then ((gL_law_L18 F K) n (y3 + 4) R76.2) else (some ((0 : Int32), R76.2))) else none) else none) else none) else none) else (if ((T.1 ((33, 0, 0) : qz_N) (y3).toNatClampNeg) &&& (31 : Int32)) = 8 then (Option.bind (gX_passDay F T) fun R80 => Option.bind (gM_passDay F R80.2) fun R82 => if R80.1 = R82.1 then ((gL_law_L18 F K) n (y3 + 4) R82.2) else (some ((0 : Int32), R82.2))) else (if ((T.1 ((33, 0, 0) : qz_N) (y3).toNatClampNeg) &&& (31 : Int32)) = 9 then (if qz_xi (y3 + (1 : Int32)) (qz_ln T.1 ((33, 0, 0) : qz_N)) = true then (Option.bind (gX_type F T ((((T.1 ((33, 0, 0) : qz_N) ((y3 + (1 : Int32))).toNatClampNeg)).toUInt32 % 65536).toInt32)) fun R87 => if qz_xi (y3 + (1 : Int32)) (qz_ln R87.2.1 ((33, 0, 0) : qz_N)) = true then (Option.bind (gM_type F R87.2 ((((R87.2.1 ((33, 0, 0) : qz_N) ((y3 + (1 : Int32))).toNatClampNeg)).toUInt32 % 65536).toInt32)) fun R90 => if R87.1 = R90.1 then ((gL_law_L18 F K) n (y3 + 4) R90.2) else (some ((0 : Int32), R90.2))) else none) else none) else (if ((T.1 ((33, 0, 0) : qz_N) (y3).toNatClampNeg) &&& (31 : Int32)) = 10 then (Option.bind (gX_clearText F T) fun R94 => Option.bind (gM_clearText F R94.2) fun R96 => if R94.1 = R96.1 then ((gL_law_L18 F K) n (y3 + 4) R96.2) else (some ((0 : Int32), R96.2))) else (if ((T.1 ((33, 0, 0) : qz_N) (y3).toNatClampNeg) &&& (31 : Int32)) = 11 then (Option.bind (gX_undo F T) fun R100 => Option.bind (gM_undo F R100.2) fun R102 => if R100.1 = R102.1 then ((gL_law_L18 F K) n (y3 + 4) R102.2) else (some ((0 : Int32), R102.2))) else (if ((T.1 ((33, 0, 0) : qz_N) (y3).toNatClampNeg) &&& (31 : Int32)) = 12 then (Option.bind (gX_keep F T) fun R106 => Option.bind (gM_keep F R106.2) fun R108 => if R106.1 = R108.1 then ((gL_law_L18 F K) n (y3 + 4) R108.2) else (some ((0 : Int32), R108.2))) else (if ((T.1 ((33, 0, 0) : qz_N) (y3).toNatClampNeg) &&& (31 : Int32)) = 13 then (Option.bind (gX_restore F T) fun R112 => Option.bind (gM_restore F R112.2) fun R114 => if R112.1 = R114.1 then ((gL_law_L18 F K) n (y3 + 4) R114.2) else (some ((0 : Int32), R114.2))) else (if ((T.1 ((33, 0, 0) : qz_N) (y3).toNatClampNeg) &&& (31 : Int32)) = 14 then (if qz_xi (y3 + (1 : Int32)) (qz_ln T.1 ((33, 0, 0) : qz_N)) = true then (if qz_xi (y3 + (2 : Int32)) (qz_ln T.1 ((33, 0, 0) : qz_N)) = true then (Option.bind (gX_worker F T.1 (T.1 ((33, 0, 0) : qz_N) ((y3 + (1 : Int32))).toNatClampNeg) (T.1 ((33, 0, 0) : qz_N) ((y3 + (2 : Int32))).toNatClampNeg)) fun x120 => Option.bind (gM_worker F T (T.1 ((33, 0, 0) : qz_N) ((y3 + (1 : Int32))).toNatClampNeg) (T.1 ((33, 0, 0) : qz_N) ((y3 + (2 : Int32))).toNatClampNeg)) fun R122 => if x120 = R122.1 then ((gL_law_L18 F K) n (y3 + 4) R122.2) else (some ((0 : Int32), R122.2))) else none) else none) else (if ((T.1 ((33, 0, 0) : qz_N) (y3).toNatClampNeg) &&& (31 : Int32)) = 15 then (if qz_xi (y3 + (1 : Int32)) (qz_ln T.1 ((33, 0, 0) : qz_N)) = true then (if qz_xi (y3 + (2 : Int32)) (qz_ln T.1 ((33, 0, 0) : qz_N)) = true then (if qz_xi (y3 + (3 : Int32)) (qz_ln T.1 ((33, 0, 0) : qz_N)) = true then (Option.bind (gX_bus F T.1 (T.1 ((33, 0, 0) : qz_N) ((y3 + (1 : Int32))).toNatClampNeg) (T.1 ((33, 0, 0) : qz_N) ((y3 + (2 : Int32))).toNatClampNeg) (T.1 ((33, 0, 0) : qz_N) ((y3 + (3 : Int32))).toNatClampNeg)) fun x129 => Option.bind (gM_bus F T (T.1 ((33, 0, 0) : qz_N) ((y3 + (1 : Int32))).toNatClampNeg) (T.1 ((33, 0, 0) : qz_N) ((y3 + (2 : Int32))).toNatClampNeg) (T.1 ((33, 0, 0) : qz_N) ((y3 + (3 : Int32))).toNatClampNeg)) fun R131 => if x129 = R131.1 then ((gL_law_L18 F K) n (y3 + 4) R131.2) else (some ((0 : Int32), R131.2))) else none) else none) else none) else (if ((T.1 ((33, 0, 0) : qz_N) (y3).toNatClampNeg) &&& (31 : Int32)) = 16 then (if qz_xi (y3 + (1 : Int32)) (qz_ln T.1 ((33, 0, 0) : qz_N)) = true then (if qz_xi (y3 + (2 : Int32)) (qz_ln T.1 ((33, 0, 0) : qz_N)) = true then (if qz_xi (y3 + (3 : Int32)) (qz_ln T.1 ((33, 0, 0) : qz_N)) = true then (Option.bind (gX_taken F T.1 (T.1 ((33, 0, 0) : qz_N) ((y3 + (1 : Int32))).toNatClampNeg) (T.1 ((33, 0, 0) : qz_N) ((y3 + (2 : Int32))).toNatClampNeg) (T.1 ((33, 0, 0) : qz_N) ((y3 + (3 : Int32))).toNatClampNeg)) fun x138 => Option.bind (gM_taken F T (T.1 ((33, 0, 0) : qz_N) ((y3 + (1 : Int32))).toNatClampNeg) (T.1 ((33, 0, 0) : qz_N) ((y3 + (2 : Int32))).toNatClampNeg) (T.1 ((33, 0, 0) : qz_N) ((y3 + (3 : Int32))).toNatClampNeg)) fun R140 => if x138 = R140.1 then ((gL_law_L18 F K) n (y3 + 4) R140.2) else (some ((0 : Int32), R140.2))) else none) else none) else none) else (if ((T.1 ((33, 0, 0) : qz_N) (y3).toNatClampNeg) &&& (31 : Int32)) = 17 then (if qz_xi (y3 + (1 : Int32)) (qz_ln T.1 ((33, 0, 0) : qz_N)) = true then (if qz_xi (y3 + (2 : Int32)) (qz_ln T.1 ((33, 0, 0) : qz_N)) = true then (if qz_xi (y3 + (3 : Int32)) (qz_ln T.1 ((33, 0, 0) : qz_N)) = true then (Option.bind (gX_why F T.1 (T.1 ((33, 0, 0) : qz_N) ((y3 + (1 : Int32))).toNatClampNeg) (T.1 ((33, 0, 0) : qz_N) ((y3 + (2 : Int32))).toNatClampNeg) (T.1 ((33, 0, 0) : qz_N) ((y3 + (3 : Int32))).toNatClampNeg)) fun x147 => Option.bind (gM_why F T (T.1 ((33, 0, 0) : qz_N) ((y3 + (1 : Int32))).toNatClampNeg) (T.1 ((33, 0, 0) : qz_N) ((y3 + (2 : Int32))).toNatClampNeg) (T.1 ((33, 0, 0) : qz_N) ((y3 + (3 : Int32))).toNatClampNeg)) fun R149 => if x147 = R149.1 then ((gL_law_L18 F K) n (y3 + 4) R149.2) else (some ((0 : Int32), R149.2))) else none) else none) else none) else (if ((T.1 ((33, 0, 0) : qz_N) (y3).toNatClampNeg) &&& (31 : Int32)) = 18 then (if qz_xi (y3 + (1 : Int32)) (qz_ln T.1 ((33, 0, 0) : qz_N)) = true then (if qz_xi (y3 + (2 : Int32)) (qz_ln T.1 ((33, 0, 0) : qz_N)) = true then (if qz_xi (y3 + (3 : Int32)) (qz_ln T.1 ((33, 0, 0) : qz_N)) = true then (Option.bind (gX_spares F T.1 (T.1 ((33, 0, 0) : qz_N) ((y3 + (1 : Int32))).toNatClampNeg) (T.1 ((33, 0, 0) : qz_N) ((y3 + (2 : Int32))).toNatClampNeg) (T.1 ((33, 0, 0) : qz_N) ((y3 + (3 : Int32))).toNatClampNeg)) fun x156 => Option.bind (gM_spares F T (T.1 ((33, 0, 0) : qz_N) ((y3 + (1 : Int32))).toNatClampNeg) (T.1 ((33, 0, 0) : qz_N) ((y3 + (2 : Int32))).toNatClampNeg) (T.1 ((33, 0, 0) : qz_N) ((y3 + (3 : Int32))).toNatClampNeg)) fun R158 => if x156 = R158.1 then ((gL_law_L18 F K) n (y3 + 4) R158.2) else (some ((0 : Int32), R158.2))) else none) else none) else none) else (if ((T.1 ((33, 0, 0) : qz_N) (y3).toNatClampNeg) &&& (31 : Int32)) = 19 then (if qz_xi (y3 + (1 : Int32)) (qz_ln T.1 ((33, 0, 0) : qz_N)) = true then (Option.bind (gX_byMinute F T.1 (T.1 ((33, 0, 0) : qz_N) ((y3 + (1 : Int32))).toNatClampNeg)) fun x163 => Option.bind (gM_byMinute F T (T.1 ((33, 0, 0) : qz_N) ((y3 + (1 : Int32))).toNatClampNeg)) fun R165 => if x163 = R165.1 then ((gL_law_L18 F K) n (y3 + 4) R165.2) else (some ((0 : Int32), R165.2))) else none) else (if ((T.1 ((33, 0, 0) : qz_N) (y3).toNatClampNeg) &&& (31 : Int32)) = 20 then (if qz_xi (y3 + (1 : Int32)) (qz_ln T.1 ((33, 0, 0) : qz_N)) = true then (Option.bind (gX_count F T.1 (T.1 ((33, 0, 0) : qz_N) ((y3 + (1 : Int32))).toNatClampNeg)) fun x170 => Option.bind (gM_count F T (T.1 ((33, 0, 0) : qz_N) ((y3 + (1 : Int32))).toNatClampNeg)) fun R172 => if x170 = R172.1 then ((gL_law_L18 F K) n (y3 + 4) R172.2) else (some ((0 : Int32), R172.2))) else none) else ((gL_law_L18 F K) n (y3 + 4) T)))))))))))))))))))))) else none)
def gL_law (F : Nat) (S : qz_S)  : Option (Int32 × qz_S) :=
  gL_law_L18 F (fun y3176 T177 => some ((1 : Int32), T177)) F (0 : Int32) S
set_option maxHeartbeats 4000000 in
theorem vL_law_L18 (F : Nat)  (K : (Int32 → qz_S → Option (Int32 × qz_S))) (hK : ∀ (y3 : Int32) (T : qz_S) (r : Int32 × qz_S), K y3 T = some r → qz_E 142 723 [some (.inr (some ((33, 0, 0) : qz_N))), some (.inr (some ((5, 0, 0) : qz_N))), some (.inr (some ((6, 0, 0) : qz_N))), some (.inl y3)] [] (qz_mk T.1 T.2) (some (.inl r.1)) (qz_mk r.2.1 r.2.2)) : ∀ (n : Nat) (y3 : Int32) (T : qz_S) (r : Int32 × qz_S), gL_law_L18 F K n y3 T = some r → qz_E 142 18 [some (.inr (some ((33, 0, 0) : qz_N))), some (.inr (some ((5, 0, 0) : qz_N))), some (.inr (some ((6, 0, 0) : qz_N))), some (.inl y3)] [] (qz_mk T.1 T.2) (some (.inl r.1)) (qz_mk r.2.1 r.2.2) := by
  have hb : qz_b 142 = cL_law := rfl
  have hcn : qz_cn 142 = 8 := rfl
  intro n
  induction n with
  | zero =>
    intro y3 T r h
    cases h
  | succ n ih =>
    intro y3 T r h
    rw [gL_law_L18] at h
    refine ei_iln hb dL_law_18 (pc' := 19) rfl rfl ?_
    refine ei_aln hb dL_law_19 (pc' := 20) rfl rfl ?_
    refine ei_len hb dL_law_20 (pc' := 21) (x := (Int32.ofNat (qz_ln T.1 ((33, 0, 0) : qz_N)))) (show ¬ qz_at 33 = 0 by decide) rfl rfl ?_
    refine ei_c hb dL_law_21 (v := (4 : Int32)) (pc' := 22) (by decide) rfl ?_
    refine ei_sub hb dL_law_22 (pc' := 23) rfl ?_
    by_cases c1 : ((Int32.ofNat (qz_ln T.1 ((33, 0, 0) : qz_N))) - (4 : Int32)) < y3
    · rw [if_pos c1] at h
      refine ei_icT hb dL_law_23 (pc' := 723) (decide_eq_true c1) (by decide) ?_
      exact hK y3 T _ h
    · rw [if_neg c1] at h
      refine ei_icF hb dL_law_23 (pc' := 26) (t := 723) (decide_eq_false c1) (by decide) rfl ?_
      refine ei_aln hb dL_law_26 (pc' := 27) rfl rfl ?_
      refine ei_iln hb dL_law_27 (pc' := 28) rfl rfl ?_
      by_cases c2 : qz_xi y3 (qz_ln T.1 ((33, 0, 0) : qz_N)) = true
      · rw [if_pos c2] at h
        refine ei_ia hb dL_law_28 (pc' := 29) (x := (T.1 ((33, 0, 0) : qz_N) (y3).toNatClampNeg)) rfl c2 rfl rfl ?_
        refine ei_b hb dL_law_29 (v := (31 : Int32)) (pc' := 31) (by decide) rfl ?_
        refine ei_and hb dL_law_31 (pc' := 32) rfl ?_
        by_cases c3 : ((T.1 ((33, 0, 0) : qz_N) (y3).toNatClampNeg) &&& (31 : Int32)) = 0
        · rw [if_pos c3] at h
          refine ei_tbI hb dL_law_32 (pc' := 132) (off := 100) (by rw [c3]; decide) (by rw [c3]; rfl) (by decide) ?_
          refine ei_aln hb dL_law_132 (pc' := 133) rfl rfl ?_
          refine ei_aln hb dL_law_133 (pc' := 134) rfl rfl ?_
          refine ei_iln hb dL_law_134 (pc' := 135) rfl rfl ?_
          refine ei_c hb dL_law_135 (v := (1 : Int32)) (pc' := 136) (by decide) rfl ?_
          refine ei_add hb dL_law_136 (pc' := 137) rfl ?_
          by_cases c4 : qz_xi (y3 + (1 : Int32)) (qz_ln T.1 ((33, 0, 0) : qz_N)) = true
          · rw [if_pos c4] at h
            refine ei_ia hb dL_law_137 (pc' := 138) (x := (T.1 ((33, 0, 0) : qz_N) ((y3 + (1 : Int32))).toNatClampNeg)) rfl c4 rfl rfl ?_
            obtain ⟨R5, e6, h⟩ := Option.bind_eq_some_iff.mp h
            refine ei_cv hb dL_law_138 (pc' := 141) (M1 := (qz_mk R5.2.1 R5.2.2)) (as := [.inl (T.1 ((33, 0, 0) : qz_N) ((y3 + (1 : Int32))).toNatClampNeg)]) (rest := []) (st' := [.inl R5.1]) hcn qz_c_8_13 qz_k_56 (qz_q_142_56) (Nat.le_of_ble_eq_true rfl) (Nat.le_of_ble_eq_true rfl) rfl rfl rfl (vX_addEnd F T (T.1 ((33, 0, 0) : qz_N) ((y3 + (1 : Int32))).toNatClampNeg) _ e6) rfl rfl ?_
            refine ei_aln hb dL_law_141 (pc' := 142) rfl rfl ?_
            refine ei_aln hb dL_law_142 (pc' := 143) rfl rfl ?_
            refine ei_iln hb dL_law_143 (pc' := 144) rfl rfl ?_
            refine ei_c hb dL_law_144 (v := (1 : Int32)) (pc' := 145) (by decide) rfl ?_
            refine ei_add hb dL_law_145 (pc' := 146) rfl ?_
            by_cases c7 : qz_xi (y3 + (1 : Int32)) (qz_ln R5.2.1 ((33, 0, 0) : qz_N)) = true
            · rw [if_pos c7] at h
              refine ei_ia hb dL_law_146 (pc' := 147) (x := (R5.2.1 ((33, 0, 0) : qz_N) ((y3 + (1 : Int32))).toNatClampNeg)) rfl c7 rfl rfl ?_
              obtain ⟨R8, e9, h⟩ := Option.bind_eq_some_iff.mp h
              refine ei_cv hb dL_law_147 (pc' := 150) (M1 := (qz_mk R8.2.1 R8.2.2)) (as := [.inl (R5.2.1 ((33, 0, 0) : qz_N) ((y3 + (1 : Int32))).toNatClampNeg)]) (rest := [.inl R5.1]) (st' := [.inl R8.1, .inl R5.1]) hcn qz_c_8_17 qz_k_112 (qz_q_142_112) (Nat.le_of_ble_eq_true rfl) (Nat.le_of_ble_eq_true rfl) rfl rfl rfl (vM_addEnd F R5.2 (R5.2.1 ((33, 0, 0) : qz_N) ((y3 + (1 : Int32))).toNatClampNeg) _ e9) rfl rfl ?_
              by_cases c10 : R5.1 = R8.1
              · rw [if_pos c10] at h
                refine ei_icT hb dL_law_150 (pc' := 717) (decide_eq_true c10) (by decide) ?_
                refine ei_inc hb dL_law_717 (v := (y3 + 4)) (pc' := 720) (ls' := [some (.inr (some ((33, 0, 0) : qz_N))), some (.inr (some ((5, 0, 0) : qz_N))), some (.inr (some ((6, 0, 0) : qz_N))), some (.inl (y3 + 4))]) rfl rfl rfl rfl ?_
                refine ei_go hb dL_law_720 (pc' := 18) (by decide) ?_
                exact ih (y3 + 4) R8.2 _ h
              · rw [if_neg c10] at h
                refine ei_icF hb dL_law_150 (pc' := 153) (t := 717) (decide_eq_false c10) (by decide) rfl ?_
                refine ei_c hb dL_law_153 (v := (0 : Int32)) (pc' := 154) (by decide) rfl ?_
                have h := Option.some.inj h
                subst h
                exact ei_retz hb dL_law_154 rfl (by decide)
            · rw [if_neg c7] at h
              cases h
          · rw [if_neg c4] at h
            cases h
        · rw [if_neg c3] at h
          by_cases c11 : ((T.1 ((33, 0, 0) : qz_N) (y3).toNatClampNeg) &&& (31 : Int32)) = 1
          · rw [if_pos c11] at h
            refine ei_tbI hb dL_law_32 (pc' := 155) (off := 123) (by rw [c11]; decide) (by rw [c11]; rfl) (by decide) ?_
            refine ei_aln hb dL_law_155 (pc' := 156) rfl rfl ?_
            refine ei_aln hb dL_law_156 (pc' := 157) rfl rfl ?_
            refine ei_iln hb dL_law_157 (pc' := 158) rfl rfl ?_
            refine ei_c hb dL_law_158 (v := (1 : Int32)) (pc' := 159) (by decide) rfl ?_
            refine ei_add hb dL_law_159 (pc' := 160) rfl ?_
            by_cases c12 : qz_xi (y3 + (1 : Int32)) (qz_ln T.1 ((33, 0, 0) : qz_N)) = true
            · rw [if_pos c12] at h
              refine ei_ia hb dL_law_160 (pc' := 161) (x := (T.1 ((33, 0, 0) : qz_N) ((y3 + (1 : Int32))).toNatClampNeg)) rfl c12 rfl rfl ?_
              refine ei_aln hb dL_law_161 (pc' := 162) rfl rfl ?_
              refine ei_iln hb dL_law_162 (pc' := 163) rfl rfl ?_
              refine ei_c hb dL_law_163 (v := (2 : Int32)) (pc' := 164) (by decide) rfl ?_
              refine ei_add hb dL_law_164 (pc' := 165) rfl ?_
              by_cases c13 : qz_xi (y3 + (2 : Int32)) (qz_ln T.1 ((33, 0, 0) : qz_N)) = true
              · rw [if_pos c13] at h
                refine ei_ia hb dL_law_165 (pc' := 166) (x := (T.1 ((33, 0, 0) : qz_N) ((y3 + (2 : Int32))).toNatClampNeg)) rfl c13 rfl rfl ?_
                refine ei_aln hb dL_law_166 (pc' := 167) rfl rfl ?_
                refine ei_iln hb dL_law_167 (pc' := 168) rfl rfl ?_
                refine ei_c hb dL_law_168 (v := (3 : Int32)) (pc' := 169) (by decide) rfl ?_
                refine ei_add hb dL_law_169 (pc' := 170) rfl ?_
                by_cases c14 : qz_xi (y3 + (3 : Int32)) (qz_ln T.1 ((33, 0, 0) : qz_N)) = true
                · rw [if_pos c14] at h
                  refine ei_ia hb dL_law_170 (pc' := 171) (x := (T.1 ((33, 0, 0) : qz_N) ((y3 + (3 : Int32))).toNatClampNeg)) rfl c14 rfl rfl ?_
                  obtain ⟨R15, e16, h⟩ := Option.bind_eq_some_iff.mp h
                  refine ei_cv hb dL_law_171 (pc' := 174) (M1 := (qz_mk R15.2.1 R15.2.2)) (as := [.inl (T.1 ((33, 0, 0) : qz_N) ((y3 + (1 : Int32))).toNatClampNeg), .inl (T.1 ((33, 0, 0) : qz_N) ((y3 + (2 : Int32))).toNatClampNeg), .inl (T.1 ((33, 0, 0) : qz_N) ((y3 + (3 : Int32))).toNatClampNeg)]) (rest := []) (st' := [.inl R15.1]) hcn qz_c_8_18 qz_k_57 (qz_q_142_57) (Nat.le_of_ble_eq_true rfl) (Nat.le_of_ble_eq_true rfl) rfl rfl rfl (vX_book F T (T.1 ((33, 0, 0) : qz_N) ((y3 + (1 : Int32))).toNatClampNeg) (T.1 ((33, 0, 0) : qz_N) ((y3 + (2 : Int32))).toNatClampNeg) (T.1 ((33, 0, 0) : qz_N) ((y3 + (3 : Int32))).toNatClampNeg) _ e16) rfl rfl ?_
                  refine ei_aln hb dL_law_174 (pc' := 175) rfl rfl ?_
                  refine ei_aln hb dL_law_175 (pc' := 176) rfl rfl ?_
                  refine ei_iln hb dL_law_176 (pc' := 177) rfl rfl ?_
                  refine ei_c hb dL_law_177 (v := (1 : Int32)) (pc' := 178) (by decide) rfl ?_
                  refine ei_add hb dL_law_178 (pc' := 179) rfl ?_
                  by_cases c17 : qz_xi (y3 + (1 : Int32)) (qz_ln R15.2.1 ((33, 0, 0) : qz_N)) = true
                  · rw [if_pos c17] at h
                    refine ei_ia hb dL_law_179 (pc' := 180) (x := (R15.2.1 ((33, 0, 0) : qz_N) ((y3 + (1 : Int32))).toNatClampNeg)) rfl c17 rfl rfl ?_
                    refine ei_aln hb dL_law_180 (pc' := 181) rfl rfl ?_
                    refine ei_iln hb dL_law_181 (pc' := 182) rfl rfl ?_
                    refine ei_c hb dL_law_182 (v := (2 : Int32)) (pc' := 183) (by decide) rfl ?_
                    refine ei_add hb dL_law_183 (pc' := 184) rfl ?_
                    by_cases c18 : qz_xi (y3 + (2 : Int32)) (qz_ln R15.2.1 ((33, 0, 0) : qz_N)) = true
                    · rw [if_pos c18] at h
                      refine ei_ia hb dL_law_184 (pc' := 185) (x := (R15.2.1 ((33, 0, 0) : qz_N) ((y3 + (2 : Int32))).toNatClampNeg)) rfl c18 rfl rfl ?_
                      refine ei_aln hb dL_law_185 (pc' := 186) rfl rfl ?_
                      refine ei_iln hb dL_law_186 (pc' := 187) rfl rfl ?_
                      refine ei_c hb dL_law_187 (v := (3 : Int32)) (pc' := 188) (by decide) rfl ?_
                      refine ei_add hb dL_law_188 (pc' := 189) rfl ?_
                      by_cases c19 : qz_xi (y3 + (3 : Int32)) (qz_ln R15.2.1 ((33, 0, 0) : qz_N)) = true
                      · rw [if_pos c19] at h
                        refine ei_ia hb dL_law_189 (pc' := 190) (x := (R15.2.1 ((33, 0, 0) : qz_N) ((y3 + (3 : Int32))).toNatClampNeg)) rfl c19 rfl rfl ?_
                        obtain ⟨R20, e21, h⟩ := Option.bind_eq_some_iff.mp h
                        refine ei_cv hb dL_law_190 (pc' := 193) (M1 := (qz_mk R20.2.1 R20.2.2)) (as := [.inl (R15.2.1 ((33, 0, 0) : qz_N) ((y3 + (1 : Int32))).toNatClampNeg), .inl (R15.2.1 ((33, 0, 0) : qz_N) ((y3 + (2 : Int32))).toNatClampNeg), .inl (R15.2.1 ((33, 0, 0) : qz_N) ((y3 + (3 : Int32))).toNatClampNeg)]) (rest := [.inl R15.1]) (st' := [.inl R20.1, .inl R15.1]) hcn qz_c_8_22 qz_k_114 (qz_q_142_114) (Nat.le_of_ble_eq_true rfl) (Nat.le_of_ble_eq_true rfl) rfl rfl rfl (vM_book F R15.2 (R15.2.1 ((33, 0, 0) : qz_N) ((y3 + (1 : Int32))).toNatClampNeg) (R15.2.1 ((33, 0, 0) : qz_N) ((y3 + (2 : Int32))).toNatClampNeg) (R15.2.1 ((33, 0, 0) : qz_N) ((y3 + (3 : Int32))).toNatClampNeg) _ e21) rfl rfl ?_
                        by_cases c22 : R15.1 = R20.1
                        · rw [if_pos c22] at h
                          refine ei_icT hb dL_law_193 (pc' := 717) (decide_eq_true c22) (by decide) ?_
                          refine ei_inc hb dL_law_717 (v := (y3 + 4)) (pc' := 720) (ls' := [some (.inr (some ((33, 0, 0) : qz_N))), some (.inr (some ((5, 0, 0) : qz_N))), some (.inr (some ((6, 0, 0) : qz_N))), some (.inl (y3 + 4))]) rfl rfl rfl rfl ?_
                          refine ei_go hb dL_law_720 (pc' := 18) (by decide) ?_
                          exact ih (y3 + 4) R20.2 _ h
                        · rw [if_neg c22] at h
                          refine ei_icF hb dL_law_193 (pc' := 196) (t := 717) (decide_eq_false c22) (by decide) rfl ?_
                          refine ei_c hb dL_law_196 (v := (0 : Int32)) (pc' := 197) (by decide) rfl ?_
                          have h := Option.some.inj h
                          subst h
                          exact ei_retz hb dL_law_197 rfl (by decide)
                      · rw [if_neg c19] at h
                        cases h
                    · rw [if_neg c18] at h
                      cases h
                  · rw [if_neg c17] at h
                    cases h
                · rw [if_neg c14] at h
                  cases h
              · rw [if_neg c13] at h
                cases h
            · rw [if_neg c12] at h
              cases h
          · rw [if_neg c11] at h
            by_cases c23 : ((T.1 ((33, 0, 0) : qz_N) (y3).toNatClampNeg) &&& (31 : Int32)) = 2
            · rw [if_pos c23] at h
              refine ei_tbI hb dL_law_32 (pc' := 198) (off := 166) (by rw [c23]; decide) (by rw [c23]; rfl) (by decide) ?_
              refine ei_aln hb dL_law_198 (pc' := 199) rfl rfl ?_
              obtain ⟨R24, e25, h⟩ := Option.bind_eq_some_iff.mp h
              refine ei_cv hb dL_law_199 (pc' := 202) (M1 := (qz_mk R24.2.1 R24.2.2)) (as := []) (rest := []) (st' := [.inl R24.1]) hcn qz_c_8_23 qz_k_58 (qz_q_142_58) (Nat.le_of_ble_eq_true rfl) (Nat.le_of_ble_eq_true rfl) rfl rfl rfl (vX_bookAll F T _ e25) rfl rfl ?_
              refine ei_aln hb dL_law_202 (pc' := 203) rfl rfl ?_
              obtain ⟨R26, e27, h⟩ := Option.bind_eq_some_iff.mp h
              refine ei_cv hb dL_law_203 (pc' := 206) (M1 := (qz_mk R26.2.1 R26.2.2)) (as := []) (rest := [.inl R24.1]) (st' := [.inl R26.1, .inl R24.1]) hcn qz_c_8_27 qz_k_115 (qz_q_142_115) (Nat.le_of_ble_eq_true rfl) (Nat.le_of_ble_eq_true rfl) rfl rfl rfl (vM_bookAll F R24.2 _ e27) rfl rfl ?_
              by_cases c28 : R24.1 = R26.1
              · rw [if_pos c28] at h
                refine ei_icT hb dL_law_206 (pc' := 717) (decide_eq_true c28) (by decide) ?_
                refine ei_inc hb dL_law_717 (v := (y3 + 4)) (pc' := 720) (ls' := [some (.inr (some ((33, 0, 0) : qz_N))), some (.inr (some ((5, 0, 0) : qz_N))), some (.inr (some ((6, 0, 0) : qz_N))), some (.inl (y3 + 4))]) rfl rfl rfl rfl ?_
                refine ei_go hb dL_law_720 (pc' := 18) (by decide) ?_
                exact ih (y3 + 4) R26.2 _ h
              · rw [if_neg c28] at h
                refine ei_icF hb dL_law_206 (pc' := 209) (t := 717) (decide_eq_false c28) (by decide) rfl ?_
                refine ei_c hb dL_law_209 (v := (0 : Int32)) (pc' := 210) (by decide) rfl ?_
                have h := Option.some.inj h
                subst h
                exact ei_retz hb dL_law_210 rfl (by decide)
            · rw [if_neg c23] at h
              by_cases c29 : ((T.1 ((33, 0, 0) : qz_N) (y3).toNatClampNeg) &&& (31 : Int32)) = 3
              · rw [if_pos c29] at h
                refine ei_tbI hb dL_law_32 (pc' := 211) (off := 179) (by rw [c29]; decide) (by rw [c29]; rfl) (by decide) ?_
                refine ei_aln hb dL_law_211 (pc' := 212) rfl rfl ?_
                refine ei_aln hb dL_law_212 (pc' := 213) rfl rfl ?_
                refine ei_iln hb dL_law_213 (pc' := 214) rfl rfl ?_
                refine ei_c hb dL_law_214 (v := (1 : Int32)) (pc' := 215) (by decide) rfl ?_
                refine ei_add hb dL_law_215 (pc' := 216) rfl ?_
                by_cases c30 : qz_xi (y3 + (1 : Int32)) (qz_ln T.1 ((33, 0, 0) : qz_N)) = true
                · rw [if_pos c30] at h
                  refine ei_ia hb dL_law_216 (pc' := 217) (x := (T.1 ((33, 0, 0) : qz_N) ((y3 + (1 : Int32))).toNatClampNeg)) rfl c30 rfl rfl ?_
                  obtain ⟨R31, e32, h⟩ := Option.bind_eq_some_iff.mp h
                  refine ei_cv hb dL_law_217 (pc' := 220) (M1 := (qz_mk R31.2.1 R31.2.2)) (as := [.inl (T.1 ((33, 0, 0) : qz_N) ((y3 + (1 : Int32))).toNatClampNeg)]) (rest := []) (st' := [.inl R31.1]) hcn qz_c_8_28 qz_k_59 (qz_q_142_59) (Nat.le_of_ble_eq_true rfl) (Nat.le_of_ble_eq_true rfl) rfl rfl rfl (vX_takeBack F T (T.1 ((33, 0, 0) : qz_N) ((y3 + (1 : Int32))).toNatClampNeg) _ e32) rfl rfl ?_
                  refine ei_aln hb dL_law_220 (pc' := 221) rfl rfl ?_
                  refine ei_aln hb dL_law_221 (pc' := 222) rfl rfl ?_
                  refine ei_iln hb dL_law_222 (pc' := 223) rfl rfl ?_
                  refine ei_c hb dL_law_223 (v := (1 : Int32)) (pc' := 224) (by decide) rfl ?_
                  refine ei_add hb dL_law_224 (pc' := 225) rfl ?_
                  by_cases c33 : qz_xi (y3 + (1 : Int32)) (qz_ln R31.2.1 ((33, 0, 0) : qz_N)) = true
                  · rw [if_pos c33] at h
                    refine ei_ia hb dL_law_225 (pc' := 226) (x := (R31.2.1 ((33, 0, 0) : qz_N) ((y3 + (1 : Int32))).toNatClampNeg)) rfl c33 rfl rfl ?_
                    obtain ⟨R34, e35, h⟩ := Option.bind_eq_some_iff.mp h
                    refine ei_cv hb dL_law_226 (pc' := 229) (M1 := (qz_mk R34.2.1 R34.2.2)) (as := [.inl (R31.2.1 ((33, 0, 0) : qz_N) ((y3 + (1 : Int32))).toNatClampNeg)]) (rest := [.inl R31.1]) (st' := [.inl R34.1, .inl R31.1]) hcn qz_c_8_31 qz_k_116 (qz_q_142_116) (Nat.le_of_ble_eq_true rfl) (Nat.le_of_ble_eq_true rfl) rfl rfl rfl (vM_takeBack F R31.2 (R31.2.1 ((33, 0, 0) : qz_N) ((y3 + (1 : Int32))).toNatClampNeg) _ e35) rfl rfl ?_
                    by_cases c36 : R31.1 = R34.1
                    · rw [if_pos c36] at h
                      refine ei_icT hb dL_law_229 (pc' := 717) (decide_eq_true c36) (by decide) ?_
                      refine ei_inc hb dL_law_717 (v := (y3 + 4)) (pc' := 720) (ls' := [some (.inr (some ((33, 0, 0) : qz_N))), some (.inr (some ((5, 0, 0) : qz_N))), some (.inr (some ((6, 0, 0) : qz_N))), some (.inl (y3 + 4))]) rfl rfl rfl rfl ?_
                      refine ei_go hb dL_law_720 (pc' := 18) (by decide) ?_
                      exact ih (y3 + 4) R34.2 _ h
                    · rw [if_neg c36] at h
                      refine ei_icF hb dL_law_229 (pc' := 232) (t := 717) (decide_eq_false c36) (by decide) rfl ?_
                      refine ei_c hb dL_law_232 (v := (0 : Int32)) (pc' := 233) (by decide) rfl ?_
                      have h := Option.some.inj h
                      subst h
                      exact ei_retz hb dL_law_233 rfl (by decide)
                  · rw [if_neg c33] at h
                    cases h
                · rw [if_neg c30] at h
                  cases h
              · rw [if_neg c29] at h
                by_cases c37 : ((T.1 ((33, 0, 0) : qz_N) (y3).toNatClampNeg) &&& (31 : Int32)) = 4
                · rw [if_pos c37] at h
                  refine ei_tbI hb dL_law_32 (pc' := 234) (off := 202) (by rw [c37]; decide) (by rw [c37]; rfl) (by decide) ?_
                  refine ei_aln hb dL_law_234 (pc' := 235) rfl rfl ?_
                  refine ei_aln hb dL_law_235 (pc' := 236) rfl rfl ?_
                  refine ei_iln hb dL_law_236 (pc' := 237) rfl rfl ?_
                  refine ei_c hb dL_law_237 (v := (1 : Int32)) (pc' := 238) (by decide) rfl ?_
                  refine ei_add hb dL_law_238 (pc' := 239) rfl ?_
                  by_cases c38 : qz_xi (y3 + (1 : Int32)) (qz_ln T.1 ((33, 0, 0) : qz_N)) = true
                  · rw [if_pos c38] at h
                    refine ei_ia hb dL_law_239 (pc' := 240) (x := (T.1 ((33, 0, 0) : qz_N) ((y3 + (1 : Int32))).toNatClampNeg)) rfl c38 rfl rfl ?_
                    refine ei_aln hb dL_law_240 (pc' := 241) rfl rfl ?_
                    refine ei_iln hb dL_law_241 (pc' := 242) rfl rfl ?_
                    refine ei_c hb dL_law_242 (v := (2 : Int32)) (pc' := 243) (by decide) rfl ?_
                    refine ei_add hb dL_law_243 (pc' := 244) rfl ?_
                    by_cases c39 : qz_xi (y3 + (2 : Int32)) (qz_ln T.1 ((33, 0, 0) : qz_N)) = true
                    · rw [if_pos c39] at h
                      refine ei_ia hb dL_law_244 (pc' := 245) (x := (T.1 ((33, 0, 0) : qz_N) ((y3 + (2 : Int32))).toNatClampNeg)) rfl c39 rfl rfl ?_
                      obtain ⟨R40, e41, h⟩ := Option.bind_eq_some_iff.mp h
                      refine ei_cv hb dL_law_245 (pc' := 248) (M1 := (qz_mk R40.2.1 R40.2.2)) (as := [.inl (T.1 ((33, 0, 0) : qz_N) ((y3 + (1 : Int32))).toNatClampNeg), .inl (T.1 ((33, 0, 0) : qz_N) ((y3 + (2 : Int32))).toNatClampNeg)]) (rest := []) (st' := [.inl R40.1]) hcn qz_c_8_32 qz_k_60 (qz_q_142_60) (Nat.le_of_ble_eq_true rfl) (Nat.le_of_ble_eq_true rfl) rfl rfl rfl (vX_stay F T (T.1 ((33, 0, 0) : qz_N) ((y3 + (1 : Int32))).toNatClampNeg) (T.1 ((33, 0, 0) : qz_N) ((y3 + (2 : Int32))).toNatClampNeg) _ e41) rfl rfl ?_
                      refine ei_aln hb dL_law_248 (pc' := 249) rfl rfl ?_
                      refine ei_aln hb dL_law_249 (pc' := 250) rfl rfl ?_
                      refine ei_iln hb dL_law_250 (pc' := 251) rfl rfl ?_
                      refine ei_c hb dL_law_251 (v := (1 : Int32)) (pc' := 252) (by decide) rfl ?_
                      refine ei_add hb dL_law_252 (pc' := 253) rfl ?_
                      by_cases c42 : qz_xi (y3 + (1 : Int32)) (qz_ln R40.2.1 ((33, 0, 0) : qz_N)) = true
                      · rw [if_pos c42] at h
                        refine ei_ia hb dL_law_253 (pc' := 254) (x := (R40.2.1 ((33, 0, 0) : qz_N) ((y3 + (1 : Int32))).toNatClampNeg)) rfl c42 rfl rfl ?_
                        refine ei_aln hb dL_law_254 (pc' := 255) rfl rfl ?_
                        refine ei_iln hb dL_law_255 (pc' := 256) rfl rfl ?_
                        refine ei_c hb dL_law_256 (v := (2 : Int32)) (pc' := 257) (by decide) rfl ?_
                        refine ei_add hb dL_law_257 (pc' := 258) rfl ?_
                        by_cases c43 : qz_xi (y3 + (2 : Int32)) (qz_ln R40.2.1 ((33, 0, 0) : qz_N)) = true
                        · rw [if_pos c43] at h
                          refine ei_ia hb dL_law_258 (pc' := 259) (x := (R40.2.1 ((33, 0, 0) : qz_N) ((y3 + (2 : Int32))).toNatClampNeg)) rfl c43 rfl rfl ?_
                          obtain ⟨R44, e45, h⟩ := Option.bind_eq_some_iff.mp h
                          refine ei_cv hb dL_law_259 (pc' := 262) (M1 := (qz_mk R44.2.1 R44.2.2)) (as := [.inl (R40.2.1 ((33, 0, 0) : qz_N) ((y3 + (1 : Int32))).toNatClampNeg), .inl (R40.2.1 ((33, 0, 0) : qz_N) ((y3 + (2 : Int32))).toNatClampNeg)]) (rest := [.inl R40.1]) (st' := [.inl R44.1, .inl R40.1]) hcn qz_c_8_36 qz_k_117 (qz_q_142_117) (Nat.le_of_ble_eq_true rfl) (Nat.le_of_ble_eq_true rfl) rfl rfl rfl (vM_stay F R40.2 (R40.2.1 ((33, 0, 0) : qz_N) ((y3 + (1 : Int32))).toNatClampNeg) (R40.2.1 ((33, 0, 0) : qz_N) ((y3 + (2 : Int32))).toNatClampNeg) _ e45) rfl rfl ?_
                          by_cases c46 : R40.1 = R44.1
                          · rw [if_pos c46] at h
                            refine ei_icT hb dL_law_262 (pc' := 717) (decide_eq_true c46) (by decide) ?_
                            refine ei_inc hb dL_law_717 (v := (y3 + 4)) (pc' := 720) (ls' := [some (.inr (some ((33, 0, 0) : qz_N))), some (.inr (some ((5, 0, 0) : qz_N))), some (.inr (some ((6, 0, 0) : qz_N))), some (.inl (y3 + 4))]) rfl rfl rfl rfl ?_
                            refine ei_go hb dL_law_720 (pc' := 18) (by decide) ?_
                            exact ih (y3 + 4) R44.2 _ h
                          · rw [if_neg c46] at h
                            refine ei_icF hb dL_law_262 (pc' := 265) (t := 717) (decide_eq_false c46) (by decide) rfl ?_
                            refine ei_c hb dL_law_265 (v := (0 : Int32)) (pc' := 266) (by decide) rfl ?_
                            have h := Option.some.inj h
                            subst h
                            exact ei_retz hb dL_law_266 rfl (by decide)
                        · rw [if_neg c43] at h
                          cases h
                      · rw [if_neg c42] at h
                        cases h
                    · rw [if_neg c39] at h
                      cases h
                  · rw [if_neg c38] at h
                    cases h
                · rw [if_neg c37] at h
                  by_cases c47 : ((T.1 ((33, 0, 0) : qz_N) (y3).toNatClampNeg) &&& (31 : Int32)) = 5
                  · rw [if_pos c47] at h
                    refine ei_tbI hb dL_law_32 (pc' := 267) (off := 235) (by rw [c47]; decide) (by rw [c47]; rfl) (by decide) ?_
                    refine ei_aln hb dL_law_267 (pc' := 268) rfl rfl ?_
                    refine ei_aln hb dL_law_268 (pc' := 269) rfl rfl ?_
                    refine ei_iln hb dL_law_269 (pc' := 270) rfl rfl ?_
                    refine ei_c hb dL_law_270 (v := (1 : Int32)) (pc' := 271) (by decide) rfl ?_
                    refine ei_add hb dL_law_271 (pc' := 272) rfl ?_
                    by_cases c48 : qz_xi (y3 + (1 : Int32)) (qz_ln T.1 ((33, 0, 0) : qz_N)) = true
                    · rw [if_pos c48] at h
                      refine ei_ia hb dL_law_272 (pc' := 273) (x := (T.1 ((33, 0, 0) : qz_N) ((y3 + (1 : Int32))).toNatClampNeg)) rfl c48 rfl rfl ?_
                      refine ei_aln hb dL_law_273 (pc' := 274) rfl rfl ?_
                      refine ei_iln hb dL_law_274 (pc' := 275) rfl rfl ?_
                      refine ei_c hb dL_law_275 (v := (2 : Int32)) (pc' := 276) (by decide) rfl ?_
                      refine ei_add hb dL_law_276 (pc' := 277) rfl ?_
                      by_cases c49 : qz_xi (y3 + (2 : Int32)) (qz_ln T.1 ((33, 0, 0) : qz_N)) = true
                      · rw [if_pos c49] at h
                        refine ei_ia hb dL_law_277 (pc' := 278) (x := (T.1 ((33, 0, 0) : qz_N) ((y3 + (2 : Int32))).toNatClampNeg)) rfl c49 rfl rfl ?_
                        refine ei_aln hb dL_law_278 (pc' := 279) rfl rfl ?_
                        refine ei_iln hb dL_law_279 (pc' := 280) rfl rfl ?_
                        refine ei_c hb dL_law_280 (v := (3 : Int32)) (pc' := 281) (by decide) rfl ?_
                        refine ei_add hb dL_law_281 (pc' := 282) rfl ?_
                        by_cases c50 : qz_xi (y3 + (3 : Int32)) (qz_ln T.1 ((33, 0, 0) : qz_N)) = true
                        · rw [if_pos c50] at h
                          refine ei_ia hb dL_law_282 (pc' := 283) (x := (T.1 ((33, 0, 0) : qz_N) ((y3 + (3 : Int32))).toNatClampNeg)) rfl c50 rfl rfl ?_
                          obtain ⟨R51, e52, h⟩ := Option.bind_eq_some_iff.mp h
                          refine ei_cv hb dL_law_283 (pc' := 286) (M1 := (qz_mk R51.2.1 R51.2.2)) (as := [.inl (T.1 ((33, 0, 0) : qz_N) ((y3 + (1 : Int32))).toNatClampNeg), .inl (T.1 ((33, 0, 0) : qz_N) ((y3 + (2 : Int32))).toNatClampNeg), .inl (T.1 ((33, 0, 0) : qz_N) ((y3 + (3 : Int32))).toNatClampNeg)]) (rest := []) (st' := [.inl R51.1]) hcn qz_c_8_37 qz_k_61 (qz_q_142_61) (Nat.le_of_ble_eq_true rfl) (Nat.le_of_ble_eq_true rfl) rfl rfl rfl (vX_merge F T (T.1 ((33, 0, 0) : qz_N) ((y3 + (1 : Int32))).toNatClampNeg) (T.1 ((33, 0, 0) : qz_N) ((y3 + (2 : Int32))).toNatClampNeg) (T.1 ((33, 0, 0) : qz_N) ((y3 + (3 : Int32))).toNatClampNeg) _ e52) rfl rfl ?_
                          refine ei_aln hb dL_law_286 (pc' := 287) rfl rfl ?_
                          refine ei_aln hb dL_law_287 (pc' := 288) rfl rfl ?_
                          refine ei_iln hb dL_law_288 (pc' := 289) rfl rfl ?_
                          refine ei_c hb dL_law_289 (v := (1 : Int32)) (pc' := 290) (by decide) rfl ?_
                          refine ei_add hb dL_law_290 (pc' := 291) rfl ?_
                          by_cases c53 : qz_xi (y3 + (1 : Int32)) (qz_ln R51.2.1 ((33, 0, 0) : qz_N)) = true
                          · rw [if_pos c53] at h
                            refine ei_ia hb dL_law_291 (pc' := 292) (x := (R51.2.1 ((33, 0, 0) : qz_N) ((y3 + (1 : Int32))).toNatClampNeg)) rfl c53 rfl rfl ?_
                            refine ei_aln hb dL_law_292 (pc' := 293) rfl rfl ?_
                            refine ei_iln hb dL_law_293 (pc' := 294) rfl rfl ?_
                            refine ei_c hb dL_law_294 (v := (2 : Int32)) (pc' := 295) (by decide) rfl ?_
                            refine ei_add hb dL_law_295 (pc' := 296) rfl ?_
                            by_cases c54 : qz_xi (y3 + (2 : Int32)) (qz_ln R51.2.1 ((33, 0, 0) : qz_N)) = true
                            · rw [if_pos c54] at h
                              refine ei_ia hb dL_law_296 (pc' := 297) (x := (R51.2.1 ((33, 0, 0) : qz_N) ((y3 + (2 : Int32))).toNatClampNeg)) rfl c54 rfl rfl ?_
                              refine ei_aln hb dL_law_297 (pc' := 298) rfl rfl ?_
                              refine ei_iln hb dL_law_298 (pc' := 299) rfl rfl ?_
                              refine ei_c hb dL_law_299 (v := (3 : Int32)) (pc' := 300) (by decide) rfl ?_
                              refine ei_add hb dL_law_300 (pc' := 301) rfl ?_
                              by_cases c55 : qz_xi (y3 + (3 : Int32)) (qz_ln R51.2.1 ((33, 0, 0) : qz_N)) = true
                              · rw [if_pos c55] at h
                                refine ei_ia hb dL_law_301 (pc' := 302) (x := (R51.2.1 ((33, 0, 0) : qz_N) ((y3 + (3 : Int32))).toNatClampNeg)) rfl c55 rfl rfl ?_
                                obtain ⟨R56, e57, h⟩ := Option.bind_eq_some_iff.mp h
                                refine ei_cv hb dL_law_302 (pc' := 305) (M1 := (qz_mk R56.2.1 R56.2.2)) (as := [.inl (R51.2.1 ((33, 0, 0) : qz_N) ((y3 + (1 : Int32))).toNatClampNeg), .inl (R51.2.1 ((33, 0, 0) : qz_N) ((y3 + (2 : Int32))).toNatClampNeg), .inl (R51.2.1 ((33, 0, 0) : qz_N) ((y3 + (3 : Int32))).toNatClampNeg)]) (rest := [.inl R51.1]) (st' := [.inl R56.1, .inl R51.1]) hcn qz_c_8_40 qz_k_119 (qz_q_142_119) (Nat.le_of_ble_eq_true rfl) (Nat.le_of_ble_eq_true rfl) rfl rfl rfl (vM_merge F R51.2 (R51.2.1 ((33, 0, 0) : qz_N) ((y3 + (1 : Int32))).toNatClampNeg) (R51.2.1 ((33, 0, 0) : qz_N) ((y3 + (2 : Int32))).toNatClampNeg) (R51.2.1 ((33, 0, 0) : qz_N) ((y3 + (3 : Int32))).toNatClampNeg) _ e57) rfl rfl ?_
                                by_cases c58 : R51.1 = R56.1
                                · rw [if_pos c58] at h
                                  refine ei_icT hb dL_law_305 (pc' := 717) (decide_eq_true c58) (by decide) ?_
                                  refine ei_inc hb dL_law_717 (v := (y3 + 4)) (pc' := 720) (ls' := [some (.inr (some ((33, 0, 0) : qz_N))), some (.inr (some ((5, 0, 0) : qz_N))), some (.inr (some ((6, 0, 0) : qz_N))), some (.inl (y3 + 4))]) rfl rfl rfl rfl ?_
                                  refine ei_go hb dL_law_720 (pc' := 18) (by decide) ?_
                                  exact ih (y3 + 4) R56.2 _ h
                                · rw [if_neg c58] at h
                                  refine ei_icF hb dL_law_305 (pc' := 308) (t := 717) (decide_eq_false c58) (by decide) rfl ?_
                                  refine ei_c hb dL_law_308 (v := (0 : Int32)) (pc' := 309) (by decide) rfl ?_
                                  have h := Option.some.inj h
                                  subst h
                                  exact ei_retz hb dL_law_309 rfl (by decide)
                              · rw [if_neg c55] at h
                                cases h
                            · rw [if_neg c54] at h
                              cases h
                          · rw [if_neg c53] at h
                            cases h
                        · rw [if_neg c50] at h
                          cases h
                      · rw [if_neg c49] at h
                        cases h
                    · rw [if_neg c48] at h
                      cases h
                  · rw [if_neg c47] at h
                    by_cases c59 : ((T.1 ((33, 0, 0) : qz_N) (y3).toNatClampNeg) &&& (31 : Int32)) = 6
                    · rw [if_pos c59] at h
                      refine ei_tbI hb dL_law_32 (pc' := 310) (off := 278) (by rw [c59]; decide) (by rw [c59]; rfl) (by decide) ?_
                      refine ei_aln hb dL_law_310 (pc' := 311) rfl rfl ?_
                      refine ei_aln hb dL_law_311 (pc' := 312) rfl rfl ?_
                      refine ei_iln hb dL_law_312 (pc' := 313) rfl rfl ?_
                      refine ei_c hb dL_law_313 (v := (1 : Int32)) (pc' := 314) (by decide) rfl ?_
                      refine ei_add hb dL_law_314 (pc' := 315) rfl ?_
                      by_cases c60 : qz_xi (y3 + (1 : Int32)) (qz_ln T.1 ((33, 0, 0) : qz_N)) = true
                      · rw [if_pos c60] at h
                        refine ei_ia hb dL_law_315 (pc' := 316) (x := (T.1 ((33, 0, 0) : qz_N) ((y3 + (1 : Int32))).toNatClampNeg)) rfl c60 rfl rfl ?_
                        refine ei_aln hb dL_law_316 (pc' := 317) rfl rfl ?_
                        refine ei_iln hb dL_law_317 (pc' := 318) rfl rfl ?_
                        refine ei_c hb dL_law_318 (v := (2 : Int32)) (pc' := 319) (by decide) rfl ?_
                        refine ei_add hb dL_law_319 (pc' := 320) rfl ?_
                        by_cases c61 : qz_xi (y3 + (2 : Int32)) (qz_ln T.1 ((33, 0, 0) : qz_N)) = true
                        · rw [if_pos c61] at h
                          refine ei_ia hb dL_law_320 (pc' := 321) (x := (T.1 ((33, 0, 0) : qz_N) ((y3 + (2 : Int32))).toNatClampNeg)) rfl c61 rfl rfl ?_
                          obtain ⟨R62, e63, h⟩ := Option.bind_eq_some_iff.mp h
                          refine ei_cv hb dL_law_321 (pc' := 324) (M1 := (qz_mk R62.2.1 R62.2.2)) (as := [.inl (T.1 ((33, 0, 0) : qz_N) ((y3 + (1 : Int32))).toNatClampNeg), .inl (T.1 ((33, 0, 0) : qz_N) ((y3 + (2 : Int32))).toNatClampNeg)]) (rest := []) (st' := [.inl R62.1]) hcn qz_c_8_41 qz_k_62 (qz_q_142_62) (Nat.le_of_ble_eq_true rfl) (Nat.le_of_ble_eq_true rfl) rfl rfl rfl (vX_part F T (T.1 ((33, 0, 0) : qz_N) ((y3 + (1 : Int32))).toNatClampNeg) (T.1 ((33, 0, 0) : qz_N) ((y3 + (2 : Int32))).toNatClampNeg) _ e63) rfl rfl ?_
                          refine ei_aln hb dL_law_324 (pc' := 325) rfl rfl ?_
                          refine ei_aln hb dL_law_325 (pc' := 326) rfl rfl ?_
                          refine ei_iln hb dL_law_326 (pc' := 327) rfl rfl ?_
                          refine ei_c hb dL_law_327 (v := (1 : Int32)) (pc' := 328) (by decide) rfl ?_
                          refine ei_add hb dL_law_328 (pc' := 329) rfl ?_
                          by_cases c64 : qz_xi (y3 + (1 : Int32)) (qz_ln R62.2.1 ((33, 0, 0) : qz_N)) = true
                          · rw [if_pos c64] at h
                            refine ei_ia hb dL_law_329 (pc' := 330) (x := (R62.2.1 ((33, 0, 0) : qz_N) ((y3 + (1 : Int32))).toNatClampNeg)) rfl c64 rfl rfl ?_
                            refine ei_aln hb dL_law_330 (pc' := 331) rfl rfl ?_
                            refine ei_iln hb dL_law_331 (pc' := 332) rfl rfl ?_
                            refine ei_c hb dL_law_332 (v := (2 : Int32)) (pc' := 333) (by decide) rfl ?_
                            refine ei_add hb dL_law_333 (pc' := 334) rfl ?_
                            by_cases c65 : qz_xi (y3 + (2 : Int32)) (qz_ln R62.2.1 ((33, 0, 0) : qz_N)) = true
                            · rw [if_pos c65] at h
                              refine ei_ia hb dL_law_334 (pc' := 335) (x := (R62.2.1 ((33, 0, 0) : qz_N) ((y3 + (2 : Int32))).toNatClampNeg)) rfl c65 rfl rfl ?_
                              obtain ⟨R66, e67, h⟩ := Option.bind_eq_some_iff.mp h
                              refine ei_cv hb dL_law_335 (pc' := 338) (M1 := (qz_mk R66.2.1 R66.2.2)) (as := [.inl (R62.2.1 ((33, 0, 0) : qz_N) ((y3 + (1 : Int32))).toNatClampNeg), .inl (R62.2.1 ((33, 0, 0) : qz_N) ((y3 + (2 : Int32))).toNatClampNeg)]) (rest := [.inl R62.1]) (st' := [.inl R66.1, .inl R62.1]) hcn qz_c_8_44 qz_k_120 (qz_q_142_120) (Nat.le_of_ble_eq_true rfl) (Nat.le_of_ble_eq_true rfl) rfl rfl rfl (vM_part F R62.2 (R62.2.1 ((33, 0, 0) : qz_N) ((y3 + (1 : Int32))).toNatClampNeg) (R62.2.1 ((33, 0, 0) : qz_N) ((y3 + (2 : Int32))).toNatClampNeg) _ e67) rfl rfl ?_
                              by_cases c68 : R62.1 = R66.1
                              · rw [if_pos c68] at h
                                refine ei_icT hb dL_law_338 (pc' := 717) (decide_eq_true c68) (by decide) ?_
                                refine ei_inc hb dL_law_717 (v := (y3 + 4)) (pc' := 720) (ls' := [some (.inr (some ((33, 0, 0) : qz_N))), some (.inr (some ((5, 0, 0) : qz_N))), some (.inr (some ((6, 0, 0) : qz_N))), some (.inl (y3 + 4))]) rfl rfl rfl rfl ?_
                                refine ei_go hb dL_law_720 (pc' := 18) (by decide) ?_
                                exact ih (y3 + 4) R66.2 _ h
                              · rw [if_neg c68] at h
                                refine ei_icF hb dL_law_338 (pc' := 341) (t := 717) (decide_eq_false c68) (by decide) rfl ?_
                                refine ei_c hb dL_law_341 (v := (0 : Int32)) (pc' := 342) (by decide) rfl ?_
                                have h := Option.some.inj h
                                subst h
                                exact ei_retz hb dL_law_342 rfl (by decide)
                            · rw [if_neg c65] at h
                              cases h
                          · rw [if_neg c64] at h
                            cases h
                        · rw [if_neg c61] at h
                          cases h
                      · rw [if_neg c60] at h
                        cases h
                    · rw [if_neg c59] at h
                      by_cases c69 : ((T.1 ((33, 0, 0) : qz_N) (y3).toNatClampNeg) &&& (31 : Int32)) = 7
                      · rw [if_pos c69] at h
                        refine ei_tbI hb dL_law_32 (pc' := 343) (off := 311) (by rw [c69]; decide) (by rw [c69]; rfl) (by decide) ?_
                        refine ei_aln hb dL_law_343 (pc' := 344) rfl rfl ?_
                        refine ei_aln hb dL_law_344 (pc' := 345) rfl rfl ?_
                        refine ei_iln hb dL_law_345 (pc' := 346) rfl rfl ?_
                        refine ei_c hb dL_law_346 (v := (1 : Int32)) (pc' := 347) (by decide) rfl ?_
                        refine ei_add hb dL_law_347 (pc' := 348) rfl ?_
                        by_cases c70 : qz_xi (y3 + (1 : Int32)) (qz_ln T.1 ((33, 0, 0) : qz_N)) = true
                        · rw [if_pos c70] at h
                          refine ei_ia hb dL_law_348 (pc' := 349) (x := (T.1 ((33, 0, 0) : qz_N) ((y3 + (1 : Int32))).toNatClampNeg)) rfl c70 rfl rfl ?_
                          refine ei_aln hb dL_law_349 (pc' := 350) rfl rfl ?_
                          refine ei_iln hb dL_law_350 (pc' := 351) rfl rfl ?_
                          refine ei_c hb dL_law_351 (v := (2 : Int32)) (pc' := 352) (by decide) rfl ?_
                          refine ei_add hb dL_law_352 (pc' := 353) rfl ?_
                          by_cases c71 : qz_xi (y3 + (2 : Int32)) (qz_ln T.1 ((33, 0, 0) : qz_N)) = true
                          · rw [if_pos c71] at h
                            refine ei_ia hb dL_law_353 (pc' := 354) (x := (T.1 ((33, 0, 0) : qz_N) ((y3 + (2 : Int32))).toNatClampNeg)) rfl c71 rfl rfl ?_
                            obtain ⟨R72, e73, h⟩ := Option.bind_eq_some_iff.mp h
                            refine ei_cv hb dL_law_354 (pc' := 357) (M1 := (qz_mk R72.2.1 R72.2.2)) (as := [.inl (T.1 ((33, 0, 0) : qz_N) ((y3 + (1 : Int32))).toNatClampNeg), .inl (T.1 ((33, 0, 0) : qz_N) ((y3 + (2 : Int32))).toNatClampNeg)]) (rest := []) (st' := [.inl R72.1]) hcn qz_c_8_45 qz_k_63 (qz_q_142_63) (Nat.le_of_ble_eq_true rfl) (Nat.le_of_ble_eq_true rfl) rfl rfl rfl (vX_set F T (T.1 ((33, 0, 0) : qz_N) ((y3 + (1 : Int32))).toNatClampNeg) (T.1 ((33, 0, 0) : qz_N) ((y3 + (2 : Int32))).toNatClampNeg) _ e73) rfl rfl ?_
                            refine ei_aln hb dL_law_357 (pc' := 358) rfl rfl ?_
                            refine ei_aln hb dL_law_358 (pc' := 359) rfl rfl ?_
                            refine ei_iln hb dL_law_359 (pc' := 360) rfl rfl ?_
                            refine ei_c hb dL_law_360 (v := (1 : Int32)) (pc' := 361) (by decide) rfl ?_
                            refine ei_add hb dL_law_361 (pc' := 362) rfl ?_
                            by_cases c74 : qz_xi (y3 + (1 : Int32)) (qz_ln R72.2.1 ((33, 0, 0) : qz_N)) = true
                            · rw [if_pos c74] at h
                              refine ei_ia hb dL_law_362 (pc' := 363) (x := (R72.2.1 ((33, 0, 0) : qz_N) ((y3 + (1 : Int32))).toNatClampNeg)) rfl c74 rfl rfl ?_
                              refine ei_aln hb dL_law_363 (pc' := 364) rfl rfl ?_
                              refine ei_iln hb dL_law_364 (pc' := 365) rfl rfl ?_
                              refine ei_c hb dL_law_365 (v := (2 : Int32)) (pc' := 366) (by decide) rfl ?_
                              refine ei_add hb dL_law_366 (pc' := 367) rfl ?_
                              by_cases c75 : qz_xi (y3 + (2 : Int32)) (qz_ln R72.2.1 ((33, 0, 0) : qz_N)) = true
                              · rw [if_pos c75] at h
                                refine ei_ia hb dL_law_367 (pc' := 368) (x := (R72.2.1 ((33, 0, 0) : qz_N) ((y3 + (2 : Int32))).toNatClampNeg)) rfl c75 rfl rfl ?_
                                obtain ⟨R76, e77, h⟩ := Option.bind_eq_some_iff.mp h
                                refine ei_cv hb dL_law_368 (pc' := 371) (M1 := (qz_mk R76.2.1 R76.2.2)) (as := [.inl (R72.2.1 ((33, 0, 0) : qz_N) ((y3 + (1 : Int32))).toNatClampNeg), .inl (R72.2.1 ((33, 0, 0) : qz_N) ((y3 + (2 : Int32))).toNatClampNeg)]) (rest := [.inl R72.1]) (st' := [.inl R76.1, .inl R72.1]) hcn qz_c_8_48 qz_k_122 (qz_q_142_122) (Nat.le_of_ble_eq_true rfl) (Nat.le_of_ble_eq_true rfl) rfl rfl rfl (vM_set F R72.2 (R72.2.1 ((33, 0, 0) : qz_N) ((y3 + (1 : Int32))).toNatClampNeg) (R72.2.1 ((33, 0, 0) : qz_N) ((y3 + (2 : Int32))).toNatClampNeg) _ e77) rfl rfl ?_
                                by_cases c78 : R72.1 = R76.1
                                · rw [if_pos c78] at h
                                  refine ei_icT hb dL_law_371 (pc' := 717) (decide_eq_true c78) (by decide) ?_
                                  refine ei_inc hb dL_law_717 (v := (y3 + 4)) (pc' := 720) (ls' := [some (.inr (some ((33, 0, 0) : qz_N))), some (.inr (some ((5, 0, 0) : qz_N))), some (.inr (some ((6, 0, 0) : qz_N))), some (.inl (y3 + 4))]) rfl rfl rfl rfl ?_
                                  refine ei_go hb dL_law_720 (pc' := 18) (by decide) ?_
                                  exact ih (y3 + 4) R76.2 _ h
                                · rw [if_neg c78] at h
                                  refine ei_icF hb dL_law_371 (pc' := 374) (t := 717) (decide_eq_false c78) (by decide) rfl ?_
                                  refine ei_c hb dL_law_374 (v := (0 : Int32)) (pc' := 375) (by decide) rfl ?_
                                  have h := Option.some.inj h
                                  subst h
                                  exact ei_retz hb dL_law_375 rfl (by decide)
                              · rw [if_neg c75] at h
                                cases h
                            · rw [if_neg c74] at h
                              cases h
                          · rw [if_neg c71] at h
                            cases h
                        · rw [if_neg c70] at h
                          cases h
                      · rw [if_neg c69] at h
                        by_cases c79 : ((T.1 ((33, 0, 0) : qz_N) (y3).toNatClampNeg) &&& (31 : Int32)) = 8
                        · rw [if_pos c79] at h
                          refine ei_tbI hb dL_law_32 (pc' := 376) (off := 344) (by rw [c79]; decide) (by rw [c79]; rfl) (by decide) ?_
                          refine ei_aln hb dL_law_376 (pc' := 377) rfl rfl ?_
                          obtain ⟨R80, e81, h⟩ := Option.bind_eq_some_iff.mp h
                          refine ei_cv hb dL_law_377 (pc' := 380) (M1 := (qz_mk R80.2.1 R80.2.2)) (as := []) (rest := []) (st' := [.inl R80.1]) hcn qz_c_8_49 qz_k_64 (qz_q_142_64) (Nat.le_of_ble_eq_true rfl) (Nat.le_of_ble_eq_true rfl) rfl rfl rfl (vX_passDay F T _ e81) rfl rfl ?_
                          refine ei_aln hb dL_law_380 (pc' := 381) rfl rfl ?_
                          obtain ⟨R82, e83, h⟩ := Option.bind_eq_some_iff.mp h
                          refine ei_cv hb dL_law_381 (pc' := 384) (M1 := (qz_mk R82.2.1 R82.2.2)) (as := []) (rest := [.inl R80.1]) (st' := [.inl R82.1, .inl R80.1]) hcn qz_c_8_52 qz_k_123 (qz_q_142_123) (Nat.le_of_ble_eq_true rfl) (Nat.le_of_ble_eq_true rfl) rfl rfl rfl (vM_passDay F R80.2 _ e83) rfl rfl ?_
                          by_cases c84 : R80.1 = R82.1
                          · rw [if_pos c84] at h
                            refine ei_icT hb dL_law_384 (pc' := 717) (decide_eq_true c84) (by decide) ?_
                            refine ei_inc hb dL_law_717 (v := (y3 + 4)) (pc' := 720) (ls' := [some (.inr (some ((33, 0, 0) : qz_N))), some (.inr (some ((5, 0, 0) : qz_N))), some (.inr (some ((6, 0, 0) : qz_N))), some (.inl (y3 + 4))]) rfl rfl rfl rfl ?_
                            refine ei_go hb dL_law_720 (pc' := 18) (by decide) ?_
                            exact ih (y3 + 4) R82.2 _ h
                          · rw [if_neg c84] at h
                            refine ei_icF hb dL_law_384 (pc' := 387) (t := 717) (decide_eq_false c84) (by decide) rfl ?_
                            refine ei_c hb dL_law_387 (v := (0 : Int32)) (pc' := 388) (by decide) rfl ?_
                            have h := Option.some.inj h
                            subst h
                            exact ei_retz hb dL_law_388 rfl (by decide)
                        · rw [if_neg c79] at h
                          by_cases c85 : ((T.1 ((33, 0, 0) : qz_N) (y3).toNatClampNeg) &&& (31 : Int32)) = 9
                          · rw [if_pos c85] at h
                            refine ei_tbI hb dL_law_32 (pc' := 389) (off := 357) (by rw [c85]; decide) (by rw [c85]; rfl) (by decide) ?_
                            refine ei_aln hb dL_law_389 (pc' := 390) rfl rfl ?_
                            refine ei_aln hb dL_law_390 (pc' := 391) rfl rfl ?_
                            refine ei_iln hb dL_law_391 (pc' := 392) rfl rfl ?_
                            refine ei_c hb dL_law_392 (v := (1 : Int32)) (pc' := 393) (by decide) rfl ?_
                            refine ei_add hb dL_law_393 (pc' := 394) rfl ?_
                            by_cases c86 : qz_xi (y3 + (1 : Int32)) (qz_ln T.1 ((33, 0, 0) : qz_N)) = true
                            · rw [if_pos c86] at h
                              refine ei_ia hb dL_law_394 (pc' := 395) (x := (T.1 ((33, 0, 0) : qz_N) ((y3 + (1 : Int32))).toNatClampNeg)) rfl c86 rfl rfl ?_
                              refine ei_i2c hb dL_law_395 (pc' := 396) rfl ?_
                              obtain ⟨R87, e88, h⟩ := Option.bind_eq_some_iff.mp h
                              refine ei_cv hb dL_law_396 (pc' := 399) (M1 := (qz_mk R87.2.1 R87.2.2)) (as := [.inl (((T.1 ((33, 0, 0) : qz_N) ((y3 + (1 : Int32))).toNatClampNeg)).toUInt32 % 65536).toInt32]) (rest := []) (st' := [.inl R87.1]) hcn qz_c_8_53 qz_k_65 (qz_q_142_65) (Nat.le_of_ble_eq_true rfl) (Nat.le_of_ble_eq_true rfl) rfl rfl rfl (vX_type F T ((((T.1 ((33, 0, 0) : qz_N) ((y3 + (1 : Int32))).toNatClampNeg)).toUInt32 % 65536).toInt32) _ e88) rfl rfl ?_
                              refine ei_aln hb dL_law_399 (pc' := 400) rfl rfl ?_
                              refine ei_aln hb dL_law_400 (pc' := 401) rfl rfl ?_
                              refine ei_iln hb dL_law_401 (pc' := 402) rfl rfl ?_
                              refine ei_c hb dL_law_402 (v := (1 : Int32)) (pc' := 403) (by decide) rfl ?_
                              refine ei_add hb dL_law_403 (pc' := 404) rfl ?_
                              by_cases c89 : qz_xi (y3 + (1 : Int32)) (qz_ln R87.2.1 ((33, 0, 0) : qz_N)) = true
                              · rw [if_pos c89] at h
                                refine ei_ia hb dL_law_404 (pc' := 405) (x := (R87.2.1 ((33, 0, 0) : qz_N) ((y3 + (1 : Int32))).toNatClampNeg)) rfl c89 rfl rfl ?_
                                refine ei_i2c hb dL_law_405 (pc' := 406) rfl ?_
                                obtain ⟨R90, e91, h⟩ := Option.bind_eq_some_iff.mp h
                                refine ei_cv hb dL_law_406 (pc' := 409) (M1 := (qz_mk R90.2.1 R90.2.2)) (as := [.inl (((R87.2.1 ((33, 0, 0) : qz_N) ((y3 + (1 : Int32))).toNatClampNeg)).toUInt32 % 65536).toInt32]) (rest := [.inl R87.1]) (st' := [.inl R90.1, .inl R87.1]) hcn qz_c_8_57 qz_k_124 (qz_q_142_124) (Nat.le_of_ble_eq_true rfl) (Nat.le_of_ble_eq_true rfl) rfl rfl rfl (vM_type F R87.2 ((((R87.2.1 ((33, 0, 0) : qz_N) ((y3 + (1 : Int32))).toNatClampNeg)).toUInt32 % 65536).toInt32) _ e91) rfl rfl ?_
                                by_cases c92 : R87.1 = R90.1
                                · rw [if_pos c92] at h
                                  refine ei_icT hb dL_law_409 (pc' := 717) (decide_eq_true c92) (by decide) ?_
                                  refine ei_inc hb dL_law_717 (v := (y3 + 4)) (pc' := 720) (ls' := [some (.inr (some ((33, 0, 0) : qz_N))), some (.inr (some ((5, 0, 0) : qz_N))), some (.inr (some ((6, 0, 0) : qz_N))), some (.inl (y3 + 4))]) rfl rfl rfl rfl ?_
                                  refine ei_go hb dL_law_720 (pc' := 18) (by decide) ?_
                                  exact ih (y3 + 4) R90.2 _ h
                                · rw [if_neg c92] at h
                                  refine ei_icF hb dL_law_409 (pc' := 412) (t := 717) (decide_eq_false c92) (by decide) rfl ?_
                                  refine ei_c hb dL_law_412 (v := (0 : Int32)) (pc' := 413) (by decide) rfl ?_
                                  have h := Option.some.inj h
                                  subst h
                                  exact ei_retz hb dL_law_413 rfl (by decide)
                              · rw [if_neg c89] at h
                                cases h
                            · rw [if_neg c86] at h
                              cases h
                          · rw [if_neg c85] at h
                            by_cases c93 : ((T.1 ((33, 0, 0) : qz_N) (y3).toNatClampNeg) &&& (31 : Int32)) = 10
                            · rw [if_pos c93] at h
                              refine ei_tbI hb dL_law_32 (pc' := 414) (off := 382) (by rw [c93]; decide) (by rw [c93]; rfl) (by decide) ?_
                              refine ei_aln hb dL_law_414 (pc' := 415) rfl rfl ?_
                              obtain ⟨R94, e95, h⟩ := Option.bind_eq_some_iff.mp h
                              refine ei_cv hb dL_law_415 (pc' := 418) (M1 := (qz_mk R94.2.1 R94.2.2)) (as := []) (rest := []) (st' := [.inl R94.1]) hcn qz_c_8_58 qz_k_66 (qz_q_142_66) (Nat.le_of_ble_eq_true rfl) (Nat.le_of_ble_eq_true rfl) rfl rfl rfl (vX_clearText F T _ e95) rfl rfl ?_
                              refine ei_aln hb dL_law_418 (pc' := 419) rfl rfl ?_
                              obtain ⟨R96, e97, h⟩ := Option.bind_eq_some_iff.mp h
                              refine ei_cv hb dL_law_419 (pc' := 422) (M1 := (qz_mk R96.2.1 R96.2.2)) (as := []) (rest := [.inl R94.1]) (st' := [.inl R96.1, .inl R94.1]) hcn qz_c_8_61 qz_k_125 (qz_q_142_125) (Nat.le_of_ble_eq_true rfl) (Nat.le_of_ble_eq_true rfl) rfl rfl rfl (vM_clearText F R94.2 _ e97) rfl rfl ?_
                              by_cases c98 : R94.1 = R96.1
                              · rw [if_pos c98] at h
                                refine ei_icT hb dL_law_422 (pc' := 717) (decide_eq_true c98) (by decide) ?_
                                refine ei_inc hb dL_law_717 (v := (y3 + 4)) (pc' := 720) (ls' := [some (.inr (some ((33, 0, 0) : qz_N))), some (.inr (some ((5, 0, 0) : qz_N))), some (.inr (some ((6, 0, 0) : qz_N))), some (.inl (y3 + 4))]) rfl rfl rfl rfl ?_
                                refine ei_go hb dL_law_720 (pc' := 18) (by decide) ?_
                                exact ih (y3 + 4) R96.2 _ h
                              · rw [if_neg c98] at h
                                refine ei_icF hb dL_law_422 (pc' := 425) (t := 717) (decide_eq_false c98) (by decide) rfl ?_
                                refine ei_c hb dL_law_425 (v := (0 : Int32)) (pc' := 426) (by decide) rfl ?_
                                have h := Option.some.inj h
                                subst h
                                exact ei_retz hb dL_law_426 rfl (by decide)
                            · rw [if_neg c93] at h
                              by_cases c99 : ((T.1 ((33, 0, 0) : qz_N) (y3).toNatClampNeg) &&& (31 : Int32)) = 11
                              · rw [if_pos c99] at h
                                refine ei_tbI hb dL_law_32 (pc' := 427) (off := 395) (by rw [c99]; decide) (by rw [c99]; rfl) (by decide) ?_
                                refine ei_aln hb dL_law_427 (pc' := 428) rfl rfl ?_
                                obtain ⟨R100, e101, h⟩ := Option.bind_eq_some_iff.mp h
                                refine ei_cv hb dL_law_428 (pc' := 431) (M1 := (qz_mk R100.2.1 R100.2.2)) (as := []) (rest := []) (st' := [.inl R100.1]) hcn qz_c_8_62 qz_k_67 (qz_q_142_67) (Nat.le_of_ble_eq_true rfl) (Nat.le_of_ble_eq_true rfl) rfl rfl rfl (vX_undo F T _ e101) rfl rfl ?_
                                refine ei_aln hb dL_law_431 (pc' := 432) rfl rfl ?_
                                obtain ⟨R102, e103, h⟩ := Option.bind_eq_some_iff.mp h
                                refine ei_cv hb dL_law_432 (pc' := 435) (M1 := (qz_mk R102.2.1 R102.2.2)) (as := []) (rest := [.inl R100.1]) (st' := [.inl R102.1, .inl R100.1]) hcn qz_c_8_65 qz_k_130 (qz_q_142_130) (Nat.le_of_ble_eq_true rfl) (Nat.le_of_ble_eq_true rfl) rfl rfl rfl (vM_undo F R100.2 _ e103) rfl rfl ?_
                                by_cases c104 : R100.1 = R102.1
                                · rw [if_pos c104] at h
                                  refine ei_icT hb dL_law_435 (pc' := 717) (decide_eq_true c104) (by decide) ?_
                                  refine ei_inc hb dL_law_717 (v := (y3 + 4)) (pc' := 720) (ls' := [some (.inr (some ((33, 0, 0) : qz_N))), some (.inr (some ((5, 0, 0) : qz_N))), some (.inr (some ((6, 0, 0) : qz_N))), some (.inl (y3 + 4))]) rfl rfl rfl rfl ?_
                                  refine ei_go hb dL_law_720 (pc' := 18) (by decide) ?_
                                  exact ih (y3 + 4) R102.2 _ h
                                · rw [if_neg c104] at h
                                  refine ei_icF hb dL_law_435 (pc' := 438) (t := 717) (decide_eq_false c104) (by decide) rfl ?_
                                  refine ei_c hb dL_law_438 (v := (0 : Int32)) (pc' := 439) (by decide) rfl ?_
                                  have h := Option.some.inj h
                                  subst h
                                  exact ei_retz hb dL_law_439 rfl (by decide)
                              · rw [if_neg c99] at h
                                by_cases c105 : ((T.1 ((33, 0, 0) : qz_N) (y3).toNatClampNeg) &&& (31 : Int32)) = 12
                                · rw [if_pos c105] at h
                                  refine ei_tbI hb dL_law_32 (pc' := 440) (off := 408) (by rw [c105]; decide) (by rw [c105]; rfl) (by decide) ?_
                                  refine ei_aln hb dL_law_440 (pc' := 441) rfl rfl ?_
                                  obtain ⟨R106, e107, h⟩ := Option.bind_eq_some_iff.mp h
                                  refine ei_cv hb dL_law_441 (pc' := 444) (M1 := (qz_mk R106.2.1 R106.2.2)) (as := []) (rest := []) (st' := [.inl R106.1]) hcn qz_c_8_66 qz_k_68 (qz_q_142_68) (Nat.le_of_ble_eq_true rfl) (Nat.le_of_ble_eq_true rfl) rfl rfl rfl (vX_keep F T _ e107) rfl rfl ?_
                                  refine ei_aln hb dL_law_444 (pc' := 445) rfl rfl ?_
                                  obtain ⟨R108, e109, h⟩ := Option.bind_eq_some_iff.mp h
                                  refine ei_cv hb dL_law_445 (pc' := 448) (M1 := (qz_mk R108.2.1 R108.2.2)) (as := []) (rest := [.inl R106.1]) (st' := [.inl R108.1, .inl R106.1]) hcn qz_c_8_69 qz_k_131 (qz_q_142_131) (Nat.le_of_ble_eq_true rfl) (Nat.le_of_ble_eq_true rfl) rfl rfl rfl (vM_keep F R106.2 _ e109) rfl rfl ?_
                                  by_cases c110 : R106.1 = R108.1
                                  · rw [if_pos c110] at h
                                    refine ei_icT hb dL_law_448 (pc' := 717) (decide_eq_true c110) (by decide) ?_
                                    refine ei_inc hb dL_law_717 (v := (y3 + 4)) (pc' := 720) (ls' := [some (.inr (some ((33, 0, 0) : qz_N))), some (.inr (some ((5, 0, 0) : qz_N))), some (.inr (some ((6, 0, 0) : qz_N))), some (.inl (y3 + 4))]) rfl rfl rfl rfl ?_
                                    refine ei_go hb dL_law_720 (pc' := 18) (by decide) ?_
                                    exact ih (y3 + 4) R108.2 _ h
                                  · rw [if_neg c110] at h
                                    refine ei_icF hb dL_law_448 (pc' := 451) (t := 717) (decide_eq_false c110) (by decide) rfl ?_
                                    refine ei_c hb dL_law_451 (v := (0 : Int32)) (pc' := 452) (by decide) rfl ?_
                                    have h := Option.some.inj h
                                    subst h
                                    exact ei_retz hb dL_law_452 rfl (by decide)
                                · rw [if_neg c105] at h
                                  by_cases c111 : ((T.1 ((33, 0, 0) : qz_N) (y3).toNatClampNeg) &&& (31 : Int32)) = 13
                                  · rw [if_pos c111] at h
                                    refine ei_tbI hb dL_law_32 (pc' := 453) (off := 421) (by rw [c111]; decide) (by rw [c111]; rfl) (by decide) ?_
                                    refine ei_aln hb dL_law_453 (pc' := 454) rfl rfl ?_
                                    obtain ⟨R112, e113, h⟩ := Option.bind_eq_some_iff.mp h
                                    refine ei_cv hb dL_law_454 (pc' := 457) (M1 := (qz_mk R112.2.1 R112.2.2)) (as := []) (rest := []) (st' := [.inl R112.1]) hcn qz_c_8_70 qz_k_69 (qz_q_142_69) (Nat.le_of_ble_eq_true rfl) (Nat.le_of_ble_eq_true rfl) rfl rfl rfl (vX_restore F T _ e113) rfl rfl ?_
                                    refine ei_aln hb dL_law_457 (pc' := 458) rfl rfl ?_
                                    obtain ⟨R114, e115, h⟩ := Option.bind_eq_some_iff.mp h
                                    refine ei_cv hb dL_law_458 (pc' := 461) (M1 := (qz_mk R114.2.1 R114.2.2)) (as := []) (rest := [.inl R112.1]) (st' := [.inl R114.1, .inl R112.1]) hcn qz_c_8_73 qz_k_132 (qz_q_142_132) (Nat.le_of_ble_eq_true rfl) (Nat.le_of_ble_eq_true rfl) rfl rfl rfl (vM_restore F R112.2 _ e115) rfl rfl ?_
                                    by_cases c116 : R112.1 = R114.1
                                    · rw [if_pos c116] at h
                                      refine ei_icT hb dL_law_461 (pc' := 717) (decide_eq_true c116) (by decide) ?_
                                      refine ei_inc hb dL_law_717 (v := (y3 + 4)) (pc' := 720) (ls' := [some (.inr (some ((33, 0, 0) : qz_N))), some (.inr (some ((5, 0, 0) : qz_N))), some (.inr (some ((6, 0, 0) : qz_N))), some (.inl (y3 + 4))]) rfl rfl rfl rfl ?_
                                      refine ei_go hb dL_law_720 (pc' := 18) (by decide) ?_
                                      exact ih (y3 + 4) R114.2 _ h
                                    · rw [if_neg c116] at h
                                      refine ei_icF hb dL_law_461 (pc' := 464) (t := 717) (decide_eq_false c116) (by decide) rfl ?_
                                      refine ei_c hb dL_law_464 (v := (0 : Int32)) (pc' := 465) (by decide) rfl ?_
                                      have h := Option.some.inj h
                                      subst h
                                      exact ei_retz hb dL_law_465 rfl (by decide)
                                  · rw [if_neg c111] at h
                                    by_cases c117 : ((T.1 ((33, 0, 0) : qz_N) (y3).toNatClampNeg) &&& (31 : Int32)) = 14
                                    · rw [if_pos c117] at h
                                      refine ei_tbI hb dL_law_32 (pc' := 466) (off := 434) (by rw [c117]; decide) (by rw [c117]; rfl) (by decide) ?_
                                      refine ei_aln hb dL_law_466 (pc' := 467) rfl rfl ?_
                                      refine ei_aln hb dL_law_467 (pc' := 468) rfl rfl ?_
                                      refine ei_iln hb dL_law_468 (pc' := 469) rfl rfl ?_
                                      refine ei_c hb dL_law_469 (v := (1 : Int32)) (pc' := 470) (by decide) rfl ?_
                                      refine ei_add hb dL_law_470 (pc' := 471) rfl ?_
                                      by_cases c118 : qz_xi (y3 + (1 : Int32)) (qz_ln T.1 ((33, 0, 0) : qz_N)) = true
                                      · rw [if_pos c118] at h
                                        refine ei_ia hb dL_law_471 (pc' := 472) (x := (T.1 ((33, 0, 0) : qz_N) ((y3 + (1 : Int32))).toNatClampNeg)) rfl c118 rfl rfl ?_
                                        refine ei_aln hb dL_law_472 (pc' := 473) rfl rfl ?_
                                        refine ei_iln hb dL_law_473 (pc' := 474) rfl rfl ?_
                                        refine ei_c hb dL_law_474 (v := (2 : Int32)) (pc' := 475) (by decide) rfl ?_
                                        refine ei_add hb dL_law_475 (pc' := 476) rfl ?_
                                        by_cases c119 : qz_xi (y3 + (2 : Int32)) (qz_ln T.1 ((33, 0, 0) : qz_N)) = true
                                        · rw [if_pos c119] at h
                                          refine ei_ia hb dL_law_476 (pc' := 477) (x := (T.1 ((33, 0, 0) : qz_N) ((y3 + (2 : Int32))).toNatClampNeg)) rfl c119 rfl rfl ?_
                                          obtain ⟨x120, e121, h⟩ := Option.bind_eq_some_iff.mp h
                                          refine ei_cv hb dL_law_477 (pc' := 480) (M1 := (qz_mk T.1 T.2)) (as := [.inl (T.1 ((33, 0, 0) : qz_N) ((y3 + (1 : Int32))).toNatClampNeg), .inl (T.1 ((33, 0, 0) : qz_N) ((y3 + (2 : Int32))).toNatClampNeg)]) (rest := []) (st' := [.inl x120]) hcn qz_c_8_74 qz_k_70 (qz_q_142_70) (Nat.le_of_ble_eq_true rfl) (Nat.le_of_ble_eq_true rfl) rfl rfl rfl (vX_worker F T.1 T.2 (T.1 ((33, 0, 0) : qz_N) ((y3 + (1 : Int32))).toNatClampNeg) (T.1 ((33, 0, 0) : qz_N) ((y3 + (2 : Int32))).toNatClampNeg) _ e121) rfl rfl ?_
                                          refine ei_aln hb dL_law_480 (pc' := 481) rfl rfl ?_
                                          refine ei_aln hb dL_law_481 (pc' := 482) rfl rfl ?_
                                          refine ei_iln hb dL_law_482 (pc' := 483) rfl rfl ?_
                                          refine ei_c hb dL_law_483 (v := (1 : Int32)) (pc' := 484) (by decide) rfl ?_
                                          refine ei_add hb dL_law_484 (pc' := 485) rfl ?_
                                          refine ei_ia hb dL_law_485 (pc' := 486) (x := (T.1 ((33, 0, 0) : qz_N) ((y3 + (1 : Int32))).toNatClampNeg)) rfl c118 rfl rfl ?_
                                          refine ei_aln hb dL_law_486 (pc' := 487) rfl rfl ?_
                                          refine ei_iln hb dL_law_487 (pc' := 488) rfl rfl ?_
                                          refine ei_c hb dL_law_488 (v := (2 : Int32)) (pc' := 489) (by decide) rfl ?_
                                          refine ei_add hb dL_law_489 (pc' := 490) rfl ?_
                                          refine ei_ia hb dL_law_490 (pc' := 491) (x := (T.1 ((33, 0, 0) : qz_N) ((y3 + (2 : Int32))).toNatClampNeg)) rfl c119 rfl rfl ?_
                                          obtain ⟨R122, e123, h⟩ := Option.bind_eq_some_iff.mp h
                                          refine ei_cv hb dL_law_491 (pc' := 494) (M1 := (qz_mk R122.2.1 R122.2.2)) (as := [.inl (T.1 ((33, 0, 0) : qz_N) ((y3 + (1 : Int32))).toNatClampNeg), .inl (T.1 ((33, 0, 0) : qz_N) ((y3 + (2 : Int32))).toNatClampNeg)]) (rest := [.inl x120]) (st' := [.inl R122.1, .inl x120]) hcn qz_c_8_77 qz_k_133 (qz_q_142_133) (Nat.le_of_ble_eq_true rfl) (Nat.le_of_ble_eq_true rfl) rfl rfl rfl (vM_worker F T (T.1 ((33, 0, 0) : qz_N) ((y3 + (1 : Int32))).toNatClampNeg) (T.1 ((33, 0, 0) : qz_N) ((y3 + (2 : Int32))).toNatClampNeg) _ e123) rfl rfl ?_
                                          by_cases c124 : x120 = R122.1
                                          · rw [if_pos c124] at h
                                            refine ei_icT hb dL_law_494 (pc' := 717) (decide_eq_true c124) (by decide) ?_
                                            refine ei_inc hb dL_law_717 (v := (y3 + 4)) (pc' := 720) (ls' := [some (.inr (some ((33, 0, 0) : qz_N))), some (.inr (some ((5, 0, 0) : qz_N))), some (.inr (some ((6, 0, 0) : qz_N))), some (.inl (y3 + 4))]) rfl rfl rfl rfl ?_
                                            refine ei_go hb dL_law_720 (pc' := 18) (by decide) ?_
                                            exact ih (y3 + 4) R122.2 _ h
                                          · rw [if_neg c124] at h
                                            refine ei_icF hb dL_law_494 (pc' := 497) (t := 717) (decide_eq_false c124) (by decide) rfl ?_
                                            refine ei_c hb dL_law_497 (v := (0 : Int32)) (pc' := 498) (by decide) rfl ?_
                                            have h := Option.some.inj h
                                            subst h
                                            exact ei_retz hb dL_law_498 rfl (by decide)
                                        · rw [if_neg c119] at h
                                          cases h
                                      · rw [if_neg c118] at h
                                        cases h
                                    · rw [if_neg c117] at h
                                      by_cases c125 : ((T.1 ((33, 0, 0) : qz_N) (y3).toNatClampNeg) &&& (31 : Int32)) = 15
                                      · rw [if_pos c125] at h
                                        refine ei_tbI hb dL_law_32 (pc' := 499) (off := 467) (by rw [c125]; decide) (by rw [c125]; rfl) (by decide) ?_
                                        refine ei_aln hb dL_law_499 (pc' := 500) rfl rfl ?_
                                        refine ei_aln hb dL_law_500 (pc' := 501) rfl rfl ?_
                                        refine ei_iln hb dL_law_501 (pc' := 502) rfl rfl ?_
                                        refine ei_c hb dL_law_502 (v := (1 : Int32)) (pc' := 503) (by decide) rfl ?_
                                        refine ei_add hb dL_law_503 (pc' := 504) rfl ?_
                                        by_cases c126 : qz_xi (y3 + (1 : Int32)) (qz_ln T.1 ((33, 0, 0) : qz_N)) = true
                                        · rw [if_pos c126] at h
                                          refine ei_ia hb dL_law_504 (pc' := 505) (x := (T.1 ((33, 0, 0) : qz_N) ((y3 + (1 : Int32))).toNatClampNeg)) rfl c126 rfl rfl ?_
                                          refine ei_aln hb dL_law_505 (pc' := 506) rfl rfl ?_
                                          refine ei_iln hb dL_law_506 (pc' := 507) rfl rfl ?_
                                          refine ei_c hb dL_law_507 (v := (2 : Int32)) (pc' := 508) (by decide) rfl ?_
                                          refine ei_add hb dL_law_508 (pc' := 509) rfl ?_
                                          by_cases c127 : qz_xi (y3 + (2 : Int32)) (qz_ln T.1 ((33, 0, 0) : qz_N)) = true
                                          · rw [if_pos c127] at h
                                            refine ei_ia hb dL_law_509 (pc' := 510) (x := (T.1 ((33, 0, 0) : qz_N) ((y3 + (2 : Int32))).toNatClampNeg)) rfl c127 rfl rfl ?_
                                            refine ei_aln hb dL_law_510 (pc' := 511) rfl rfl ?_
                                            refine ei_iln hb dL_law_511 (pc' := 512) rfl rfl ?_
                                            refine ei_c hb dL_law_512 (v := (3 : Int32)) (pc' := 513) (by decide) rfl ?_
                                            refine ei_add hb dL_law_513 (pc' := 514) rfl ?_
                                            by_cases c128 : qz_xi (y3 + (3 : Int32)) (qz_ln T.1 ((33, 0, 0) : qz_N)) = true
                                            · rw [if_pos c128] at h
                                              refine ei_ia hb dL_law_514 (pc' := 515) (x := (T.1 ((33, 0, 0) : qz_N) ((y3 + (3 : Int32))).toNatClampNeg)) rfl c128 rfl rfl ?_
                                              obtain ⟨x129, e130, h⟩ := Option.bind_eq_some_iff.mp h
                                              refine ei_cv hb dL_law_515 (pc' := 518) (M1 := (qz_mk T.1 T.2)) (as := [.inl (T.1 ((33, 0, 0) : qz_N) ((y3 + (1 : Int32))).toNatClampNeg), .inl (T.1 ((33, 0, 0) : qz_N) ((y3 + (2 : Int32))).toNatClampNeg), .inl (T.1 ((33, 0, 0) : qz_N) ((y3 + (3 : Int32))).toNatClampNeg)]) (rest := []) (st' := [.inl x129]) hcn qz_c_8_78 qz_k_71 (qz_q_142_71) (Nat.le_of_ble_eq_true rfl) (Nat.le_of_ble_eq_true rfl) rfl rfl rfl (vX_bus F T.1 T.2 (T.1 ((33, 0, 0) : qz_N) ((y3 + (1 : Int32))).toNatClampNeg) (T.1 ((33, 0, 0) : qz_N) ((y3 + (2 : Int32))).toNatClampNeg) (T.1 ((33, 0, 0) : qz_N) ((y3 + (3 : Int32))).toNatClampNeg) _ e130) rfl rfl ?_
                                              refine ei_aln hb dL_law_518 (pc' := 519) rfl rfl ?_
                                              refine ei_aln hb dL_law_519 (pc' := 520) rfl rfl ?_
                                              refine ei_iln hb dL_law_520 (pc' := 521) rfl rfl ?_
                                              refine ei_c hb dL_law_521 (v := (1 : Int32)) (pc' := 522) (by decide) rfl ?_
                                              refine ei_add hb dL_law_522 (pc' := 523) rfl ?_
                                              refine ei_ia hb dL_law_523 (pc' := 524) (x := (T.1 ((33, 0, 0) : qz_N) ((y3 + (1 : Int32))).toNatClampNeg)) rfl c126 rfl rfl ?_
                                              refine ei_aln hb dL_law_524 (pc' := 525) rfl rfl ?_
                                              refine ei_iln hb dL_law_525 (pc' := 526) rfl rfl ?_
                                              refine ei_c hb dL_law_526 (v := (2 : Int32)) (pc' := 527) (by decide) rfl ?_
                                              refine ei_add hb dL_law_527 (pc' := 528) rfl ?_
                                              refine ei_ia hb dL_law_528 (pc' := 529) (x := (T.1 ((33, 0, 0) : qz_N) ((y3 + (2 : Int32))).toNatClampNeg)) rfl c127 rfl rfl ?_
                                              refine ei_aln hb dL_law_529 (pc' := 530) rfl rfl ?_
                                              refine ei_iln hb dL_law_530 (pc' := 531) rfl rfl ?_
                                              refine ei_c hb dL_law_531 (v := (3 : Int32)) (pc' := 532) (by decide) rfl ?_
                                              refine ei_add hb dL_law_532 (pc' := 533) rfl ?_
                                              refine ei_ia hb dL_law_533 (pc' := 534) (x := (T.1 ((33, 0, 0) : qz_N) ((y3 + (3 : Int32))).toNatClampNeg)) rfl c128 rfl rfl ?_
                                              obtain ⟨R131, e132, h⟩ := Option.bind_eq_some_iff.mp h
                                              refine ei_cv hb dL_law_534 (pc' := 537) (M1 := (qz_mk R131.2.1 R131.2.2)) (as := [.inl (T.1 ((33, 0, 0) : qz_N) ((y3 + (1 : Int32))).toNatClampNeg), .inl (T.1 ((33, 0, 0) : qz_N) ((y3 + (2 : Int32))).toNatClampNeg), .inl (T.1 ((33, 0, 0) : qz_N) ((y3 + (3 : Int32))).toNatClampNeg)]) (rest := [.inl x129]) (st' := [.inl R131.1, .inl x129]) hcn qz_c_8_81 qz_k_135 (qz_q_142_135) (Nat.le_of_ble_eq_true rfl) (Nat.le_of_ble_eq_true rfl) rfl rfl rfl (vM_bus F T (T.1 ((33, 0, 0) : qz_N) ((y3 + (1 : Int32))).toNatClampNeg) (T.1 ((33, 0, 0) : qz_N) ((y3 + (2 : Int32))).toNatClampNeg) (T.1 ((33, 0, 0) : qz_N) ((y3 + (3 : Int32))).toNatClampNeg) _ e132) rfl rfl ?_
                                              by_cases c133 : x129 = R131.1
                                              · rw [if_pos c133] at h
                                                refine ei_icT hb dL_law_537 (pc' := 717) (decide_eq_true c133) (by decide) ?_
                                                refine ei_inc hb dL_law_717 (v := (y3 + 4)) (pc' := 720) (ls' := [some (.inr (some ((33, 0, 0) : qz_N))), some (.inr (some ((5, 0, 0) : qz_N))), some (.inr (some ((6, 0, 0) : qz_N))), some (.inl (y3 + 4))]) rfl rfl rfl rfl ?_
                                                refine ei_go hb dL_law_720 (pc' := 18) (by decide) ?_
                                                exact ih (y3 + 4) R131.2 _ h
                                              · rw [if_neg c133] at h
                                                refine ei_icF hb dL_law_537 (pc' := 540) (t := 717) (decide_eq_false c133) (by decide) rfl ?_
                                                refine ei_c hb dL_law_540 (v := (0 : Int32)) (pc' := 541) (by decide) rfl ?_
                                                have h := Option.some.inj h
                                                subst h
                                                exact ei_retz hb dL_law_541 rfl (by decide)
                                            · rw [if_neg c128] at h
                                              cases h
                                          · rw [if_neg c127] at h
                                            cases h
                                        · rw [if_neg c126] at h
                                          cases h
                                      · rw [if_neg c125] at h
                                        by_cases c134 : ((T.1 ((33, 0, 0) : qz_N) (y3).toNatClampNeg) &&& (31 : Int32)) = 16
                                        · rw [if_pos c134] at h
                                          refine ei_tbI hb dL_law_32 (pc' := 542) (off := 510) (by rw [c134]; decide) (by rw [c134]; rfl) (by decide) ?_
                                          refine ei_aln hb dL_law_542 (pc' := 543) rfl rfl ?_
                                          refine ei_aln hb dL_law_543 (pc' := 544) rfl rfl ?_
                                          refine ei_iln hb dL_law_544 (pc' := 545) rfl rfl ?_
                                          refine ei_c hb dL_law_545 (v := (1 : Int32)) (pc' := 546) (by decide) rfl ?_
                                          refine ei_add hb dL_law_546 (pc' := 547) rfl ?_
                                          by_cases c135 : qz_xi (y3 + (1 : Int32)) (qz_ln T.1 ((33, 0, 0) : qz_N)) = true
                                          · rw [if_pos c135] at h
                                            refine ei_ia hb dL_law_547 (pc' := 548) (x := (T.1 ((33, 0, 0) : qz_N) ((y3 + (1 : Int32))).toNatClampNeg)) rfl c135 rfl rfl ?_
                                            refine ei_aln hb dL_law_548 (pc' := 549) rfl rfl ?_
                                            refine ei_iln hb dL_law_549 (pc' := 550) rfl rfl ?_
                                            refine ei_c hb dL_law_550 (v := (2 : Int32)) (pc' := 551) (by decide) rfl ?_
                                            refine ei_add hb dL_law_551 (pc' := 552) rfl ?_
                                            by_cases c136 : qz_xi (y3 + (2 : Int32)) (qz_ln T.1 ((33, 0, 0) : qz_N)) = true
                                            · rw [if_pos c136] at h
                                              refine ei_ia hb dL_law_552 (pc' := 553) (x := (T.1 ((33, 0, 0) : qz_N) ((y3 + (2 : Int32))).toNatClampNeg)) rfl c136 rfl rfl ?_
                                              refine ei_aln hb dL_law_553 (pc' := 554) rfl rfl ?_
                                              refine ei_iln hb dL_law_554 (pc' := 555) rfl rfl ?_
                                              refine ei_c hb dL_law_555 (v := (3 : Int32)) (pc' := 556) (by decide) rfl ?_
                                              refine ei_add hb dL_law_556 (pc' := 557) rfl ?_
                                              by_cases c137 : qz_xi (y3 + (3 : Int32)) (qz_ln T.1 ((33, 0, 0) : qz_N)) = true
                                              · rw [if_pos c137] at h
                                                refine ei_ia hb dL_law_557 (pc' := 558) (x := (T.1 ((33, 0, 0) : qz_N) ((y3 + (3 : Int32))).toNatClampNeg)) rfl c137 rfl rfl ?_
                                                obtain ⟨x138, e139, h⟩ := Option.bind_eq_some_iff.mp h
                                                refine ei_cv hb dL_law_558 (pc' := 561) (M1 := (qz_mk T.1 T.2)) (as := [.inl (T.1 ((33, 0, 0) : qz_N) ((y3 + (1 : Int32))).toNatClampNeg), .inl (T.1 ((33, 0, 0) : qz_N) ((y3 + (2 : Int32))).toNatClampNeg), .inl (T.1 ((33, 0, 0) : qz_N) ((y3 + (3 : Int32))).toNatClampNeg)]) (rest := []) (st' := [.inl x138]) hcn qz_c_8_82 qz_k_72 (qz_q_142_72) (Nat.le_of_ble_eq_true rfl) (Nat.le_of_ble_eq_true rfl) rfl rfl rfl (vX_taken F T.1 T.2 (T.1 ((33, 0, 0) : qz_N) ((y3 + (1 : Int32))).toNatClampNeg) (T.1 ((33, 0, 0) : qz_N) ((y3 + (2 : Int32))).toNatClampNeg) (T.1 ((33, 0, 0) : qz_N) ((y3 + (3 : Int32))).toNatClampNeg) _ e139) rfl rfl ?_
                                                refine ei_aln hb dL_law_561 (pc' := 562) rfl rfl ?_
                                                refine ei_aln hb dL_law_562 (pc' := 563) rfl rfl ?_
                                                refine ei_iln hb dL_law_563 (pc' := 564) rfl rfl ?_
                                                refine ei_c hb dL_law_564 (v := (1 : Int32)) (pc' := 565) (by decide) rfl ?_
                                                refine ei_add hb dL_law_565 (pc' := 566) rfl ?_
                                                refine ei_ia hb dL_law_566 (pc' := 567) (x := (T.1 ((33, 0, 0) : qz_N) ((y3 + (1 : Int32))).toNatClampNeg)) rfl c135 rfl rfl ?_
                                                refine ei_aln hb dL_law_567 (pc' := 568) rfl rfl ?_
                                                refine ei_iln hb dL_law_568 (pc' := 569) rfl rfl ?_
                                                refine ei_c hb dL_law_569 (v := (2 : Int32)) (pc' := 570) (by decide) rfl ?_
                                                refine ei_add hb dL_law_570 (pc' := 571) rfl ?_
                                                refine ei_ia hb dL_law_571 (pc' := 572) (x := (T.1 ((33, 0, 0) : qz_N) ((y3 + (2 : Int32))).toNatClampNeg)) rfl c136 rfl rfl ?_
                                                refine ei_aln hb dL_law_572 (pc' := 573) rfl rfl ?_
                                                refine ei_iln hb dL_law_573 (pc' := 574) rfl rfl ?_
                                                refine ei_c hb dL_law_574 (v := (3 : Int32)) (pc' := 575) (by decide) rfl ?_
                                                refine ei_add hb dL_law_575 (pc' := 576) rfl ?_
                                                refine ei_ia hb dL_law_576 (pc' := 577) (x := (T.1 ((33, 0, 0) : qz_N) ((y3 + (3 : Int32))).toNatClampNeg)) rfl c137 rfl rfl ?_
                                                obtain ⟨R140, e141, h⟩ := Option.bind_eq_some_iff.mp h
                                                refine ei_cv hb dL_law_577 (pc' := 580) (M1 := (qz_mk R140.2.1 R140.2.2)) (as := [.inl (T.1 ((33, 0, 0) : qz_N) ((y3 + (1 : Int32))).toNatClampNeg), .inl (T.1 ((33, 0, 0) : qz_N) ((y3 + (2 : Int32))).toNatClampNeg), .inl (T.1 ((33, 0, 0) : qz_N) ((y3 + (3 : Int32))).toNatClampNeg)]) (rest := [.inl x138]) (st' := [.inl R140.1, .inl x138]) hcn qz_c_8_85 qz_k_136 (qz_q_142_136) (Nat.le_of_ble_eq_true rfl) (Nat.le_of_ble_eq_true rfl) rfl rfl rfl (vM_taken F T (T.1 ((33, 0, 0) : qz_N) ((y3 + (1 : Int32))).toNatClampNeg) (T.1 ((33, 0, 0) : qz_N) ((y3 + (2 : Int32))).toNatClampNeg) (T.1 ((33, 0, 0) : qz_N) ((y3 + (3 : Int32))).toNatClampNeg) _ e141) rfl rfl ?_
                                                by_cases c142 : x138 = R140.1
                                                · rw [if_pos c142] at h
                                                  refine ei_icT hb dL_law_580 (pc' := 717) (decide_eq_true c142) (by decide) ?_
                                                  refine ei_inc hb dL_law_717 (v := (y3 + 4)) (pc' := 720) (ls' := [some (.inr (some ((33, 0, 0) : qz_N))), some (.inr (some ((5, 0, 0) : qz_N))), some (.inr (some ((6, 0, 0) : qz_N))), some (.inl (y3 + 4))]) rfl rfl rfl rfl ?_
                                                  refine ei_go hb dL_law_720 (pc' := 18) (by decide) ?_
                                                  exact ih (y3 + 4) R140.2 _ h
                                                · rw [if_neg c142] at h
                                                  refine ei_icF hb dL_law_580 (pc' := 583) (t := 717) (decide_eq_false c142) (by decide) rfl ?_
                                                  refine ei_c hb dL_law_583 (v := (0 : Int32)) (pc' := 584) (by decide) rfl ?_
                                                  have h := Option.some.inj h
                                                  subst h
                                                  exact ei_retz hb dL_law_584 rfl (by decide)
                                              · rw [if_neg c137] at h
                                                cases h
                                            · rw [if_neg c136] at h
                                              cases h
                                          · rw [if_neg c135] at h
                                            cases h
                                        · rw [if_neg c134] at h
                                          by_cases c143 : ((T.1 ((33, 0, 0) : qz_N) (y3).toNatClampNeg) &&& (31 : Int32)) = 17
                                          · rw [if_pos c143] at h
                                            refine ei_tbI hb dL_law_32 (pc' := 585) (off := 553) (by rw [c143]; decide) (by rw [c143]; rfl) (by decide) ?_
                                            refine ei_aln hb dL_law_585 (pc' := 586) rfl rfl ?_
                                            refine ei_aln hb dL_law_586 (pc' := 587) rfl rfl ?_
                                            refine ei_iln hb dL_law_587 (pc' := 588) rfl rfl ?_
                                            refine ei_c hb dL_law_588 (v := (1 : Int32)) (pc' := 589) (by decide) rfl ?_
                                            refine ei_add hb dL_law_589 (pc' := 590) rfl ?_
                                            by_cases c144 : qz_xi (y3 + (1 : Int32)) (qz_ln T.1 ((33, 0, 0) : qz_N)) = true
                                            · rw [if_pos c144] at h
                                              refine ei_ia hb dL_law_590 (pc' := 591) (x := (T.1 ((33, 0, 0) : qz_N) ((y3 + (1 : Int32))).toNatClampNeg)) rfl c144 rfl rfl ?_
                                              refine ei_aln hb dL_law_591 (pc' := 592) rfl rfl ?_
                                              refine ei_iln hb dL_law_592 (pc' := 593) rfl rfl ?_
                                              refine ei_c hb dL_law_593 (v := (2 : Int32)) (pc' := 594) (by decide) rfl ?_
                                              refine ei_add hb dL_law_594 (pc' := 595) rfl ?_
                                              by_cases c145 : qz_xi (y3 + (2 : Int32)) (qz_ln T.1 ((33, 0, 0) : qz_N)) = true
                                              · rw [if_pos c145] at h
                                                refine ei_ia hb dL_law_595 (pc' := 596) (x := (T.1 ((33, 0, 0) : qz_N) ((y3 + (2 : Int32))).toNatClampNeg)) rfl c145 rfl rfl ?_
                                                refine ei_aln hb dL_law_596 (pc' := 597) rfl rfl ?_
                                                refine ei_iln hb dL_law_597 (pc' := 598) rfl rfl ?_
                                                refine ei_c hb dL_law_598 (v := (3 : Int32)) (pc' := 599) (by decide) rfl ?_
                                                refine ei_add hb dL_law_599 (pc' := 600) rfl ?_
                                                by_cases c146 : qz_xi (y3 + (3 : Int32)) (qz_ln T.1 ((33, 0, 0) : qz_N)) = true
                                                · rw [if_pos c146] at h
                                                  refine ei_ia hb dL_law_600 (pc' := 601) (x := (T.1 ((33, 0, 0) : qz_N) ((y3 + (3 : Int32))).toNatClampNeg)) rfl c146 rfl rfl ?_
                                                  obtain ⟨x147, e148, h⟩ := Option.bind_eq_some_iff.mp h
                                                  refine ei_cv hb dL_law_601 (pc' := 604) (M1 := (qz_mk T.1 T.2)) (as := [.inl (T.1 ((33, 0, 0) : qz_N) ((y3 + (1 : Int32))).toNatClampNeg), .inl (T.1 ((33, 0, 0) : qz_N) ((y3 + (2 : Int32))).toNatClampNeg), .inl (T.1 ((33, 0, 0) : qz_N) ((y3 + (3 : Int32))).toNatClampNeg)]) (rest := []) (st' := [.inl x147]) hcn qz_c_8_86 qz_k_73 (qz_q_142_73) (Nat.le_of_ble_eq_true rfl) (Nat.le_of_ble_eq_true rfl) rfl rfl rfl (vX_why F T.1 T.2 (T.1 ((33, 0, 0) : qz_N) ((y3 + (1 : Int32))).toNatClampNeg) (T.1 ((33, 0, 0) : qz_N) ((y3 + (2 : Int32))).toNatClampNeg) (T.1 ((33, 0, 0) : qz_N) ((y3 + (3 : Int32))).toNatClampNeg) _ e148) rfl rfl ?_
                                                  refine ei_aln hb dL_law_604 (pc' := 605) rfl rfl ?_
                                                  refine ei_aln hb dL_law_605 (pc' := 606) rfl rfl ?_
                                                  refine ei_iln hb dL_law_606 (pc' := 607) rfl rfl ?_
                                                  refine ei_c hb dL_law_607 (v := (1 : Int32)) (pc' := 608) (by decide) rfl ?_
                                                  refine ei_add hb dL_law_608 (pc' := 609) rfl ?_
                                                  refine ei_ia hb dL_law_609 (pc' := 610) (x := (T.1 ((33, 0, 0) : qz_N) ((y3 + (1 : Int32))).toNatClampNeg)) rfl c144 rfl rfl ?_
                                                  refine ei_aln hb dL_law_610 (pc' := 611) rfl rfl ?_
                                                  refine ei_iln hb dL_law_611 (pc' := 612) rfl rfl ?_
                                                  refine ei_c hb dL_law_612 (v := (2 : Int32)) (pc' := 613) (by decide) rfl ?_
                                                  refine ei_add hb dL_law_613 (pc' := 614) rfl ?_
                                                  refine ei_ia hb dL_law_614 (pc' := 615) (x := (T.1 ((33, 0, 0) : qz_N) ((y3 + (2 : Int32))).toNatClampNeg)) rfl c145 rfl rfl ?_
                                                  refine ei_aln hb dL_law_615 (pc' := 616) rfl rfl ?_
                                                  refine ei_iln hb dL_law_616 (pc' := 617) rfl rfl ?_
                                                  refine ei_c hb dL_law_617 (v := (3 : Int32)) (pc' := 618) (by decide) rfl ?_
                                                  refine ei_add hb dL_law_618 (pc' := 619) rfl ?_
                                                  refine ei_ia hb dL_law_619 (pc' := 620) (x := (T.1 ((33, 0, 0) : qz_N) ((y3 + (3 : Int32))).toNatClampNeg)) rfl c146 rfl rfl ?_
                                                  obtain ⟨R149, e150, h⟩ := Option.bind_eq_some_iff.mp h
                                                  refine ei_cv hb dL_law_620 (pc' := 623) (M1 := (qz_mk R149.2.1 R149.2.2)) (as := [.inl (T.1 ((33, 0, 0) : qz_N) ((y3 + (1 : Int32))).toNatClampNeg), .inl (T.1 ((33, 0, 0) : qz_N) ((y3 + (2 : Int32))).toNatClampNeg), .inl (T.1 ((33, 0, 0) : qz_N) ((y3 + (3 : Int32))).toNatClampNeg)]) (rest := [.inl x147]) (st' := [.inl R149.1, .inl x147]) hcn qz_c_8_89 qz_k_137 (qz_q_142_137) (Nat.le_of_ble_eq_true rfl) (Nat.le_of_ble_eq_true rfl) rfl rfl rfl (vM_why F T (T.1 ((33, 0, 0) : qz_N) ((y3 + (1 : Int32))).toNatClampNeg) (T.1 ((33, 0, 0) : qz_N) ((y3 + (2 : Int32))).toNatClampNeg) (T.1 ((33, 0, 0) : qz_N) ((y3 + (3 : Int32))).toNatClampNeg) _ e150) rfl rfl ?_
                                                  by_cases c151 : x147 = R149.1
                                                  · rw [if_pos c151] at h
                                                    refine ei_icT hb dL_law_623 (pc' := 717) (decide_eq_true c151) (by decide) ?_
                                                    refine ei_inc hb dL_law_717 (v := (y3 + 4)) (pc' := 720) (ls' := [some (.inr (some ((33, 0, 0) : qz_N))), some (.inr (some ((5, 0, 0) : qz_N))), some (.inr (some ((6, 0, 0) : qz_N))), some (.inl (y3 + 4))]) rfl rfl rfl rfl ?_
                                                    refine ei_go hb dL_law_720 (pc' := 18) (by decide) ?_
                                                    exact ih (y3 + 4) R149.2 _ h
                                                  · rw [if_neg c151] at h
                                                    refine ei_icF hb dL_law_623 (pc' := 626) (t := 717) (decide_eq_false c151) (by decide) rfl ?_
                                                    refine ei_c hb dL_law_626 (v := (0 : Int32)) (pc' := 627) (by decide) rfl ?_
                                                    have h := Option.some.inj h
                                                    subst h
                                                    exact ei_retz hb dL_law_627 rfl (by decide)
                                                · rw [if_neg c146] at h
                                                  cases h
                                              · rw [if_neg c145] at h
                                                cases h
                                            · rw [if_neg c144] at h
                                              cases h
                                          · rw [if_neg c143] at h
                                            by_cases c152 : ((T.1 ((33, 0, 0) : qz_N) (y3).toNatClampNeg) &&& (31 : Int32)) = 18
                                            · rw [if_pos c152] at h
                                              refine ei_tbI hb dL_law_32 (pc' := 628) (off := 596) (by rw [c152]; decide) (by rw [c152]; rfl) (by decide) ?_
                                              refine ei_aln hb dL_law_628 (pc' := 629) rfl rfl ?_
                                              refine ei_aln hb dL_law_629 (pc' := 630) rfl rfl ?_
                                              refine ei_iln hb dL_law_630 (pc' := 631) rfl rfl ?_
                                              refine ei_c hb dL_law_631 (v := (1 : Int32)) (pc' := 632) (by decide) rfl ?_
                                              refine ei_add hb dL_law_632 (pc' := 633) rfl ?_
                                              by_cases c153 : qz_xi (y3 + (1 : Int32)) (qz_ln T.1 ((33, 0, 0) : qz_N)) = true
                                              · rw [if_pos c153] at h
                                                refine ei_ia hb dL_law_633 (pc' := 634) (x := (T.1 ((33, 0, 0) : qz_N) ((y3 + (1 : Int32))).toNatClampNeg)) rfl c153 rfl rfl ?_
                                                refine ei_aln hb dL_law_634 (pc' := 635) rfl rfl ?_
                                                refine ei_iln hb dL_law_635 (pc' := 636) rfl rfl ?_
                                                refine ei_c hb dL_law_636 (v := (2 : Int32)) (pc' := 637) (by decide) rfl ?_
                                                refine ei_add hb dL_law_637 (pc' := 638) rfl ?_
                                                by_cases c154 : qz_xi (y3 + (2 : Int32)) (qz_ln T.1 ((33, 0, 0) : qz_N)) = true
                                                · rw [if_pos c154] at h
                                                  refine ei_ia hb dL_law_638 (pc' := 639) (x := (T.1 ((33, 0, 0) : qz_N) ((y3 + (2 : Int32))).toNatClampNeg)) rfl c154 rfl rfl ?_
                                                  refine ei_aln hb dL_law_639 (pc' := 640) rfl rfl ?_
                                                  refine ei_iln hb dL_law_640 (pc' := 641) rfl rfl ?_
                                                  refine ei_c hb dL_law_641 (v := (3 : Int32)) (pc' := 642) (by decide) rfl ?_
                                                  refine ei_add hb dL_law_642 (pc' := 643) rfl ?_
                                                  by_cases c155 : qz_xi (y3 + (3 : Int32)) (qz_ln T.1 ((33, 0, 0) : qz_N)) = true
                                                  · rw [if_pos c155] at h
                                                    refine ei_ia hb dL_law_643 (pc' := 644) (x := (T.1 ((33, 0, 0) : qz_N) ((y3 + (3 : Int32))).toNatClampNeg)) rfl c155 rfl rfl ?_
                                                    obtain ⟨x156, e157, h⟩ := Option.bind_eq_some_iff.mp h
                                                    refine ei_cv hb dL_law_644 (pc' := 647) (M1 := (qz_mk T.1 T.2)) (as := [.inl (T.1 ((33, 0, 0) : qz_N) ((y3 + (1 : Int32))).toNatClampNeg), .inl (T.1 ((33, 0, 0) : qz_N) ((y3 + (2 : Int32))).toNatClampNeg), .inl (T.1 ((33, 0, 0) : qz_N) ((y3 + (3 : Int32))).toNatClampNeg)]) (rest := []) (st' := [.inl x156]) hcn qz_c_8_90 qz_k_74 (qz_q_142_74) (Nat.le_of_ble_eq_true rfl) (Nat.le_of_ble_eq_true rfl) rfl rfl rfl (vX_spares F T.1 T.2 (T.1 ((33, 0, 0) : qz_N) ((y3 + (1 : Int32))).toNatClampNeg) (T.1 ((33, 0, 0) : qz_N) ((y3 + (2 : Int32))).toNatClampNeg) (T.1 ((33, 0, 0) : qz_N) ((y3 + (3 : Int32))).toNatClampNeg) _ e157) rfl rfl ?_
                                                    refine ei_aln hb dL_law_647 (pc' := 648) rfl rfl ?_
                                                    refine ei_aln hb dL_law_648 (pc' := 649) rfl rfl ?_
                                                    refine ei_iln hb dL_law_649 (pc' := 650) rfl rfl ?_
                                                    refine ei_c hb dL_law_650 (v := (1 : Int32)) (pc' := 651) (by decide) rfl ?_
                                                    refine ei_add hb dL_law_651 (pc' := 652) rfl ?_
                                                    refine ei_ia hb dL_law_652 (pc' := 653) (x := (T.1 ((33, 0, 0) : qz_N) ((y3 + (1 : Int32))).toNatClampNeg)) rfl c153 rfl rfl ?_
                                                    refine ei_aln hb dL_law_653 (pc' := 654) rfl rfl ?_
                                                    refine ei_iln hb dL_law_654 (pc' := 655) rfl rfl ?_
                                                    refine ei_c hb dL_law_655 (v := (2 : Int32)) (pc' := 656) (by decide) rfl ?_
                                                    refine ei_add hb dL_law_656 (pc' := 657) rfl ?_
                                                    refine ei_ia hb dL_law_657 (pc' := 658) (x := (T.1 ((33, 0, 0) : qz_N) ((y3 + (2 : Int32))).toNatClampNeg)) rfl c154 rfl rfl ?_
                                                    refine ei_aln hb dL_law_658 (pc' := 659) rfl rfl ?_
                                                    refine ei_iln hb dL_law_659 (pc' := 660) rfl rfl ?_
                                                    refine ei_c hb dL_law_660 (v := (3 : Int32)) (pc' := 661) (by decide) rfl ?_
                                                    refine ei_add hb dL_law_661 (pc' := 662) rfl ?_
                                                    refine ei_ia hb dL_law_662 (pc' := 663) (x := (T.1 ((33, 0, 0) : qz_N) ((y3 + (3 : Int32))).toNatClampNeg)) rfl c155 rfl rfl ?_
                                                    obtain ⟨R158, e159, h⟩ := Option.bind_eq_some_iff.mp h
                                                    refine ei_cv hb dL_law_663 (pc' := 666) (M1 := (qz_mk R158.2.1 R158.2.2)) (as := [.inl (T.1 ((33, 0, 0) : qz_N) ((y3 + (1 : Int32))).toNatClampNeg), .inl (T.1 ((33, 0, 0) : qz_N) ((y3 + (2 : Int32))).toNatClampNeg), .inl (T.1 ((33, 0, 0) : qz_N) ((y3 + (3 : Int32))).toNatClampNeg)]) (rest := [.inl x156]) (st' := [.inl R158.1, .inl x156]) hcn qz_c_8_93 qz_k_138 (qz_q_142_138) (Nat.le_of_ble_eq_true rfl) (Nat.le_of_ble_eq_true rfl) rfl rfl rfl (vM_spares F T (T.1 ((33, 0, 0) : qz_N) ((y3 + (1 : Int32))).toNatClampNeg) (T.1 ((33, 0, 0) : qz_N) ((y3 + (2 : Int32))).toNatClampNeg) (T.1 ((33, 0, 0) : qz_N) ((y3 + (3 : Int32))).toNatClampNeg) _ e159) rfl rfl ?_
                                                    by_cases c160 : x156 = R158.1
                                                    · rw [if_pos c160] at h
                                                      refine ei_icT hb dL_law_666 (pc' := 717) (decide_eq_true c160) (by decide) ?_
                                                      refine ei_inc hb dL_law_717 (v := (y3 + 4)) (pc' := 720) (ls' := [some (.inr (some ((33, 0, 0) : qz_N))), some (.inr (some ((5, 0, 0) : qz_N))), some (.inr (some ((6, 0, 0) : qz_N))), some (.inl (y3 + 4))]) rfl rfl rfl rfl ?_
                                                      refine ei_go hb dL_law_720 (pc' := 18) (by decide) ?_
                                                      exact ih (y3 + 4) R158.2 _ h
                                                    · rw [if_neg c160] at h
                                                      refine ei_icF hb dL_law_666 (pc' := 669) (t := 717) (decide_eq_false c160) (by decide) rfl ?_
                                                      refine ei_c hb dL_law_669 (v := (0 : Int32)) (pc' := 670) (by decide) rfl ?_
                                                      have h := Option.some.inj h
                                                      subst h
                                                      exact ei_retz hb dL_law_670 rfl (by decide)
                                                  · rw [if_neg c155] at h
                                                    cases h
                                                · rw [if_neg c154] at h
                                                  cases h
                                              · rw [if_neg c153] at h
                                                cases h
                                            · rw [if_neg c152] at h
                                              by_cases c161 : ((T.1 ((33, 0, 0) : qz_N) (y3).toNatClampNeg) &&& (31 : Int32)) = 19
                                              · rw [if_pos c161] at h
                                                refine ei_tbI hb dL_law_32 (pc' := 671) (off := 639) (by rw [c161]; decide) (by rw [c161]; rfl) (by decide) ?_
                                                refine ei_aln hb dL_law_671 (pc' := 672) rfl rfl ?_
                                                refine ei_aln hb dL_law_672 (pc' := 673) rfl rfl ?_
                                                refine ei_iln hb dL_law_673 (pc' := 674) rfl rfl ?_
                                                refine ei_c hb dL_law_674 (v := (1 : Int32)) (pc' := 675) (by decide) rfl ?_
                                                refine ei_add hb dL_law_675 (pc' := 676) rfl ?_
                                                by_cases c162 : qz_xi (y3 + (1 : Int32)) (qz_ln T.1 ((33, 0, 0) : qz_N)) = true
                                                · rw [if_pos c162] at h
                                                  refine ei_ia hb dL_law_676 (pc' := 677) (x := (T.1 ((33, 0, 0) : qz_N) ((y3 + (1 : Int32))).toNatClampNeg)) rfl c162 rfl rfl ?_
                                                  obtain ⟨x163, e164, h⟩ := Option.bind_eq_some_iff.mp h
                                                  refine ei_cv hb dL_law_677 (pc' := 680) (M1 := (qz_mk T.1 T.2)) (as := [.inl (T.1 ((33, 0, 0) : qz_N) ((y3 + (1 : Int32))).toNatClampNeg)]) (rest := []) (st' := [.inl x163]) hcn qz_c_8_94 qz_k_75 (qz_q_142_75) (Nat.le_of_ble_eq_true rfl) (Nat.le_of_ble_eq_true rfl) rfl rfl rfl (vX_byMinute F T.1 T.2 (T.1 ((33, 0, 0) : qz_N) ((y3 + (1 : Int32))).toNatClampNeg) _ e164) rfl rfl ?_
                                                  refine ei_aln hb dL_law_680 (pc' := 681) rfl rfl ?_
                                                  refine ei_aln hb dL_law_681 (pc' := 682) rfl rfl ?_
                                                  refine ei_iln hb dL_law_682 (pc' := 683) rfl rfl ?_
                                                  refine ei_c hb dL_law_683 (v := (1 : Int32)) (pc' := 684) (by decide) rfl ?_
                                                  refine ei_add hb dL_law_684 (pc' := 685) rfl ?_
                                                  refine ei_ia hb dL_law_685 (pc' := 686) (x := (T.1 ((33, 0, 0) : qz_N) ((y3 + (1 : Int32))).toNatClampNeg)) rfl c162 rfl rfl ?_
                                                  obtain ⟨R165, e166, h⟩ := Option.bind_eq_some_iff.mp h
                                                  refine ei_cv hb dL_law_686 (pc' := 689) (M1 := (qz_mk R165.2.1 R165.2.2)) (as := [.inl (T.1 ((33, 0, 0) : qz_N) ((y3 + (1 : Int32))).toNatClampNeg)]) (rest := [.inl x163]) (st' := [.inl R165.1, .inl x163]) hcn qz_c_8_97 qz_k_139 (qz_q_142_139) (Nat.le_of_ble_eq_true rfl) (Nat.le_of_ble_eq_true rfl) rfl rfl rfl (vM_byMinute F T (T.1 ((33, 0, 0) : qz_N) ((y3 + (1 : Int32))).toNatClampNeg) _ e166) rfl rfl ?_
                                                  by_cases c167 : x163 = R165.1
                                                  · rw [if_pos c167] at h
                                                    refine ei_icT hb dL_law_689 (pc' := 717) (decide_eq_true c167) (by decide) ?_
                                                    refine ei_inc hb dL_law_717 (v := (y3 + 4)) (pc' := 720) (ls' := [some (.inr (some ((33, 0, 0) : qz_N))), some (.inr (some ((5, 0, 0) : qz_N))), some (.inr (some ((6, 0, 0) : qz_N))), some (.inl (y3 + 4))]) rfl rfl rfl rfl ?_
                                                    refine ei_go hb dL_law_720 (pc' := 18) (by decide) ?_
                                                    exact ih (y3 + 4) R165.2 _ h
                                                  · rw [if_neg c167] at h
                                                    refine ei_icF hb dL_law_689 (pc' := 692) (t := 717) (decide_eq_false c167) (by decide) rfl ?_
                                                    refine ei_c hb dL_law_692 (v := (0 : Int32)) (pc' := 693) (by decide) rfl ?_
                                                    have h := Option.some.inj h
                                                    subst h
                                                    exact ei_retz hb dL_law_693 rfl (by decide)
                                                · rw [if_neg c162] at h
                                                  cases h
                                              · rw [if_neg c161] at h
                                                by_cases c168 : ((T.1 ((33, 0, 0) : qz_N) (y3).toNatClampNeg) &&& (31 : Int32)) = 20
                                                · rw [if_pos c168] at h
                                                  refine ei_tbI hb dL_law_32 (pc' := 694) (off := 662) (by rw [c168]; decide) (by rw [c168]; rfl) (by decide) ?_
                                                  refine ei_aln hb dL_law_694 (pc' := 695) rfl rfl ?_
                                                  refine ei_aln hb dL_law_695 (pc' := 696) rfl rfl ?_
                                                  refine ei_iln hb dL_law_696 (pc' := 697) rfl rfl ?_
                                                  refine ei_c hb dL_law_697 (v := (1 : Int32)) (pc' := 698) (by decide) rfl ?_
                                                  refine ei_add hb dL_law_698 (pc' := 699) rfl ?_
                                                  by_cases c169 : qz_xi (y3 + (1 : Int32)) (qz_ln T.1 ((33, 0, 0) : qz_N)) = true
                                                  · rw [if_pos c169] at h
                                                    refine ei_ia hb dL_law_699 (pc' := 700) (x := (T.1 ((33, 0, 0) : qz_N) ((y3 + (1 : Int32))).toNatClampNeg)) rfl c169 rfl rfl ?_
                                                    obtain ⟨x170, e171, h⟩ := Option.bind_eq_some_iff.mp h
                                                    refine ei_cv hb dL_law_700 (pc' := 703) (M1 := (qz_mk T.1 T.2)) (as := [.inl (T.1 ((33, 0, 0) : qz_N) ((y3 + (1 : Int32))).toNatClampNeg)]) (rest := []) (st' := [.inl x170]) hcn qz_c_8_98 qz_k_76 (qz_q_142_76) (Nat.le_of_ble_eq_true rfl) (Nat.le_of_ble_eq_true rfl) rfl rfl rfl (vX_count F T.1 T.2 (T.1 ((33, 0, 0) : qz_N) ((y3 + (1 : Int32))).toNatClampNeg) _ e171) rfl rfl ?_
                                                    refine ei_aln hb dL_law_703 (pc' := 704) rfl rfl ?_
                                                    refine ei_aln hb dL_law_704 (pc' := 705) rfl rfl ?_
                                                    refine ei_iln hb dL_law_705 (pc' := 706) rfl rfl ?_
                                                    refine ei_c hb dL_law_706 (v := (1 : Int32)) (pc' := 707) (by decide) rfl ?_
                                                    refine ei_add hb dL_law_707 (pc' := 708) rfl ?_
                                                    refine ei_ia hb dL_law_708 (pc' := 709) (x := (T.1 ((33, 0, 0) : qz_N) ((y3 + (1 : Int32))).toNatClampNeg)) rfl c169 rfl rfl ?_
                                                    obtain ⟨R172, e173, h⟩ := Option.bind_eq_some_iff.mp h
                                                    refine ei_cv hb dL_law_709 (pc' := 712) (M1 := (qz_mk R172.2.1 R172.2.2)) (as := [.inl (T.1 ((33, 0, 0) : qz_N) ((y3 + (1 : Int32))).toNatClampNeg)]) (rest := [.inl x170]) (st' := [.inl R172.1, .inl x170]) hcn qz_c_8_101 qz_k_141 (qz_q_142_141) (Nat.le_of_ble_eq_true rfl) (Nat.le_of_ble_eq_true rfl) rfl rfl rfl (vM_count F T (T.1 ((33, 0, 0) : qz_N) ((y3 + (1 : Int32))).toNatClampNeg) _ e173) rfl rfl ?_
                                                    by_cases c174 : x170 = R172.1
                                                    · rw [if_pos c174] at h
                                                      refine ei_icT hb dL_law_712 (pc' := 717) (decide_eq_true c174) (by decide) ?_
                                                      refine ei_inc hb dL_law_717 (v := (y3 + 4)) (pc' := 720) (ls' := [some (.inr (some ((33, 0, 0) : qz_N))), some (.inr (some ((5, 0, 0) : qz_N))), some (.inr (some ((6, 0, 0) : qz_N))), some (.inl (y3 + 4))]) rfl rfl rfl rfl ?_
                                                      refine ei_go hb dL_law_720 (pc' := 18) (by decide) ?_
                                                      exact ih (y3 + 4) R172.2 _ h
                                                    · rw [if_neg c174] at h
                                                      refine ei_icF hb dL_law_712 (pc' := 715) (t := 717) (decide_eq_false c174) (by decide) rfl ?_
                                                      refine ei_c hb dL_law_715 (v := (0 : Int32)) (pc' := 716) (by decide) rfl ?_
                                                      have h := Option.some.inj h
                                                      subst h
                                                      exact ei_retz hb dL_law_716 rfl (by decide)
                                                  · rw [if_neg c169] at h
                                                    cases h
                                                · rw [if_neg c168] at h
                                                  have tc3 := lv_neT c3 (show (0 : Int32).toInt = 0 by decide)
                                                  have tc11 := lv_neT c11 (show (1 : Int32).toInt = 1 by decide)
                                                  have tc23 := lv_neT c23 (show (2 : Int32).toInt = 2 by decide)
                                                  have tc29 := lv_neT c29 (show (3 : Int32).toInt = 3 by decide)
                                                  have tc37 := lv_neT c37 (show (4 : Int32).toInt = 4 by decide)
                                                  have tc47 := lv_neT c47 (show (5 : Int32).toInt = 5 by decide)
                                                  have tc59 := lv_neT c59 (show (6 : Int32).toInt = 6 by decide)
                                                  have tc69 := lv_neT c69 (show (7 : Int32).toInt = 7 by decide)
                                                  have tc79 := lv_neT c79 (show (8 : Int32).toInt = 8 by decide)
                                                  have tc85 := lv_neT c85 (show (9 : Int32).toInt = 9 by decide)
                                                  have tc93 := lv_neT c93 (show (10 : Int32).toInt = 10 by decide)
                                                  have tc99 := lv_neT c99 (show (11 : Int32).toInt = 11 by decide)
                                                  have tc105 := lv_neT c105 (show (12 : Int32).toInt = 12 by decide)
                                                  have tc111 := lv_neT c111 (show (13 : Int32).toInt = 13 by decide)
                                                  have tc117 := lv_neT c117 (show (14 : Int32).toInt = 14 by decide)
                                                  have tc125 := lv_neT c125 (show (15 : Int32).toInt = 15 by decide)
                                                  have tc134 := lv_neT c134 (show (16 : Int32).toInt = 16 by decide)
                                                  have tc143 := lv_neT c143 (show (17 : Int32).toInt = 17 by decide)
                                                  have tc152 := lv_neT c152 (show (18 : Int32).toInt = 18 by decide)
                                                  have tc161 := lv_neT c161 (show (19 : Int32).toInt = 19 by decide)
                                                  have tc168 := lv_neT c168 (show (20 : Int32).toInt = 20 by decide)
                                                  refine ei_tbO hb dL_law_32 (pc' := 717) (by omega) (by decide) ?_
                                                  refine ei_inc hb dL_law_717 (v := (y3 + 4)) (pc' := 720) (ls' := [some (.inr (some ((33, 0, 0) : qz_N))), some (.inr (some ((5, 0, 0) : qz_N))), some (.inr (some ((6, 0, 0) : qz_N))), some (.inl (y3 + 4))]) rfl rfl rfl rfl ?_
                                                  refine ei_go hb dL_law_720 (pc' := 18) (by decide) ?_
                                                  exact ih (y3 + 4) T _ h
      · rw [if_neg c2] at h
        cases h
set_option maxHeartbeats 4000000 in
theorem vL_law (F : Nat) (S : qz_S) (r : Int32 × qz_S) (h : (gL_law F S) = some r) : qz_E 142 16 [some (.inr (some ((33, 0, 0) : qz_N))), some (.inr (some ((5, 0, 0) : qz_N))), some (.inr (some ((6, 0, 0) : qz_N))), none] [] (qz_mk S.1 S.2) (some (.inl r.1)) (qz_mk r.2.1 r.2.2) := by
  have hb : qz_b 142 = cL_law := rfl
  have hcn : qz_cn 142 = 8 := rfl
  rw [gL_law] at h
  refine ei_c hb dL_law_16 (v := (0 : Int32)) (pc' := 17) (by decide) rfl ?_
  refine ei_isn hb dL_law_17 (pc' := 18) (ls' := [some (.inr (some ((33, 0, 0) : qz_N))), some (.inr (some ((5, 0, 0) : qz_N))), some (.inr (some ((6, 0, 0) : qz_N))), some (.inl (0 : Int32))]) (Nat.le_of_ble_eq_true rfl) rfl rfl ?_
  refine vL_law_L18 F _ ?_ F (0 : Int32) S _ h
  intro y3176 T177 r h
  refine ei_c hb dL_law_723 (v := (1 : Int32)) (pc' := 724) (by decide) rfl ?_
  have h := Option.some.inj h
  subst h
  exact ei_retz hb dL_law_724 rfl (by decide)
