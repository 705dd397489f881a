/-! tables of the class's layer and the law's own, by program -/
def tlm : List ZMe := [(RL, yL_law, cL_law, 7, (some .boolean), 50, 5000),
  (RX9, yX9_layer, cX9_layer, 5, (some .int), 0, 0),
  (RX9, yX9_isCut, cX9_isCut, 3, (some .boolean), 0, 0),
  (RX9, yX9_isPlace, cX9_isPlace, 2, (some .boolean), 0, 0),
  (RX9, yX9_isBelow, cX9_isBelow, 2, (some .boolean), 0, 0),
  (RL, yL_layer, cL_layer, 6, (some .int), 0, 0)]
def tl1 : List ZI := [(0, .aload_n 0, 1, []), (1, .iload_n 1, 1, []), (2, .iload_n 2, 1, []), (3, .invokevirtual 142, 3, [2, 2, 2, 8, 686, 688, 117, 689, 8]), (6, .ifCond .eq 11, 3, []), (9, .iload_n 3, 1, []), (10, .iconst 3, 1, []), (11, .invokestatic 110, 3, [0, 4, 2, 0, 569, 570, 117, 571]), (14, .ifCond .ne 13, 3, []), (17, .new 145, 3, []), (27, .aload_n 0, 1, []), (28, .getfield 25, 3, [8, 2, 523]), (31, .iload_n 1, 1, []), (32, .aaload, 1, []), (33, .astore 4, 2, []), (35, .iload_n 3, 1, []), (36, .ifCond .ne 11, 3, []), (39, .aload 4, 2, []), (41, .getfield 152, 3, [7, 6, 236]), (44, .iload_n 2, 1, []), (45, .iaload, 1, []), (46, .ireturn, 1, []), (47, .iload_n 3, 1, []), (48, .iconst 1, 1, []), (49, .if_icmp .ne 13, 3, []), (52, .aload 4, 2, []), (54, .getfield 155, 3, [7, 7, 239]), (57, .iload_n 2, 1, []), (58, .iaload, 1, []), (59, .goto 10, 3, []), (62, .aload 4, 2, []), (64, .getfield 158, 3, [7, 8, 245]), (67, .iload_n 2, 1, []), (68, .iaload, 1, []), (69, .ireturn, 1, [])]
def tl2 : List ZI := [(0, .aload_n 0, 1, []), (1, .iload_n 1, 1, []), (2, .invokevirtual 120, 3, [2, 3, 1, 8, 646, 648, 117, 649, 4]), (5, .ifCond .eq 23, 3, []), (8, .iload_n 2, 1, []), (9, .aload_n 0, 1, []), (10, .getfield 25, 3, [8, 2, 523]), (13, .iload_n 1, 1, []), (14, .aaload, 1, []), (15, .getfield 129, 3, [7, 5, 233]), (18, .invokestatic 110, 3, [0, 4, 2, 0, 569, 570, 117, 571]), (21, .ifCond .eq 7, 3, []), (24, .iconst 1, 1, []), (25, .goto 4, 3, []), (28, .iconst 0, 1, []), (29, .ireturn, 1, [])]
def tl3 : List ZI := [(0, .iload_n 1, 1, []), (1, .bipush 12, 2, []), (3, .invokestatic 110, 3, [0, 4, 2, 0, 569, 570, 117, 571]), (6, .ifCond .eq 19, 3, []), (9, .aload_n 0, 1, []), (10, .getfield 25, 3, [8, 2, 523]), (13, .iload_n 1, 1, []), (14, .aaload, 1, []), (15, .getfield 335, 3, [7, 0, 217]), (18, .ifCond .eq 7, 3, []), (21, .iconst 1, 1, []), (22, .goto 4, 3, []), (25, .iconst 0, 1, []), (26, .ireturn, 1, [])]
def tl4 : List ZI := [(0, .iload_n 0, 1, []), (1, .ifCond .lt 12, 3, []), (4, .iload_n 0, 1, []), (5, .iload_n 1, 1, []), (6, .if_icmp .ge 7, 3, []), (9, .iconst 1, 1, []), (10, .goto 4, 3, []), (13, .iconst 0, 1, []), (14, .ireturn, 1, [])]
def tl5 : List ZI := [(10, .i2l, 1, []), (11, .lastore, 1, []), (12, .goto 7, 3, []), (19, .iconst 0, 1, []), (20, .ireturn, 1, [])]
def tlc : List (List ZI) := [[], tl1, tl2, tl3, tl4, tl5]
theorem tlk1 : ∀ q ∈ tl1, sok tlm (RX9, yX9_layer, cX9_layer, 5, (some .int), 0, 0) q = true := List.all_eq_true.mp (by decide +kernel)
theorem tlk2 : ∀ q ∈ tl2, sok tlm (RX9, yX9_isCut, cX9_isCut, 3, (some .boolean), 0, 0) q = true := List.all_eq_true.mp (by decide +kernel)
theorem tlk3 : ∀ q ∈ tl3, sok tlm (RX9, yX9_isPlace, cX9_isPlace, 2, (some .boolean), 0, 0) q = true := List.all_eq_true.mp (by decide +kernel)
theorem tlk4 : ∀ q ∈ tl4, sok tlm (RX9, yX9_isBelow, cX9_isBelow, 2, (some .boolean), 0, 0) q = true := List.all_eq_true.mp (by decide +kernel)
theorem tlk5 : ∀ q ∈ tl5, sok tlm (RL, yL_layer, cL_layer, 6, (some .int), 0, 0) q = true := List.all_eq_true.mp (by decide +kernel)
theorem tltab : sTab tlm tlc := by
  intro k me tb h1 h2
  match k, h1, h2 with
  | 0, h1, h2 => cases h1; cases h2; exact fun q h => absurd h List.not_mem_nil
  | 1, h1, h2 => cases h1; cases h2; exact tlk1
  | 2, h1, h2 => cases h1; cases h2; exact tlk2
  | 3, h1, h2 => cases h1; cases h2; exact tlk3
  | 4, h1, h2 => cases h1; cases h2; exact tlk4
  | 5, h1, h2 => cases h1; cases h2; exact tlk5
  | n + 6, h1, h2 => cases h1
def tlw : SW := (([], []), 3, ([(0, -2147483648, 2147483647), (1, -2147483648, 2147483647), (2, -2147483648, 2147483647)], []), 0, 0)
def tll : SL := [(0, 2, 0, (0, [])), (1, 0, 0, (0, [(0, 1)])), (2, 0, 0, (0, [(1, 1)])), (3, 0, 0, (0, [(2, 1)]))]
def tle (X : SS) : Bool := cond (Nat.beq X.1 17) (match X.2.2.1 with
  | [] => Nat.ble X.2.2.2.2.2.2.1 0 && Nat.ble X.2.2.2.2.2.2.2 0
  | _ => false) ((Nat.beq X.1 46 || Nat.beq X.1 69) && (Nat.ble X.2.2.2.2.2.2.1 0 && (Nat.ble X.2.2.2.2.2.2.2 0 && (match X.2.2.1 with
  | [v] => Nat.beq v.1 0
  | _ => false))))
noncomputable def tlr : Bool := match sgo tlm tlc tf tg [] [] [] 0 6 [17] 300 1 6 0 tll [] tlw with
  | some ys => sall tle ys
  | none => false
theorem tlr_ok : tlr = true := by decide +kernel
def tlv : SW := (([], []), 1, ([(0, -2147483648, 2147483647)], []), 0, 0)
def tlf (X : SS) : Bool := Nat.beq X.1 20 && (Nat.ble X.2.2.2.2.2.2.1 0 && (Nat.ble X.2.2.2.2.2.2.2 0 && (match X.2.2.1 with
  | [v] => Nat.beq v.1 0 && (sbeq v.2.2 (0, []))
  | _ => false)))
noncomputable def tls : Bool := match sgo tlm tlc tf tg [] [(2, 0)] [] 0 6 [] 300 5 6 10 [] [(0, 0, (0, [(0, 1)])), (0, 0, (0, [])), (2, 2, (0, []))] tlv with
  | some ys => sall tlf ys
  | none => false
theorem tls_ok : tls = true := by decide +kernel
theorem dLl0 : decode cL_layer 0 = .ok (.aload 4, 2) := by decide +kernel
theorem dLl2 : decode cL_layer 2 = .ok (.iconst 0, 1) := by decide +kernel
theorem dLl3 : decode cL_layer 3 = .ok (.aload_n 0, 1) := by decide +kernel
theorem dLl4 : decode cL_layer 4 = .ok (.iload_n 1, 1) := by decide +kernel
theorem dLl5 : decode cL_layer 5 = .ok (.iload_n 2, 1) := by decide +kernel
theorem dLl6 : decode cL_layer 6 = .ok (.iload_n 3, 1) := by decide +kernel
theorem dLl7 : decode cL_layer 7 = .ok (.invokevirtual 7, 3) := by decide +kernel
theorem dLl15 : decode cL_layer 15 = .ok (.astore 5, 2) := by decide +kernel
theorem dLl17 : decode cL_layer 17 = .ok (.iconst 1, 1) := by decide +kernel
theorem dLl18 : decode cL_layer 18 = .ok (.ireturn, 1) := by decide +kernel
theorem dLl20 : decode cL_layer 20 = .ok (.ireturn, 1) := by decide +kernel
theorem dXl17 : decode cX9_layer 17 = .ok (.new 145, 3) := by decide +kernel
theorem dXl20 : decode cX9_layer 20 = .ok (.dup, 1) := by decide +kernel
theorem dXl21 : decode cX9_layer 21 = .ok (.ldc 147, 2) := by decide +kernel
theorem dXl23 : decode cX9_layer 23 = .ok (.invokespecial 149, 3) := by decide +kernel
theorem dXl26 : decode cX9_layer 26 = .ok (.athrow, 1) := by decide +kernel
theorem dXl46 : decode cX9_layer 46 = .ok (.ireturn, 1) := by decide +kernel
theorem dXl69 : decode cX9_layer 69 = .ok (.ireturn, 1) := by decide +kernel
theorem zw_layer : ∀ w ∈ zcw RL 7 2 yX9_layer cX9_layer 5 (some .int), w ∈ zT := zchk_ok (is := [1191, 1192, 117, 1194, 1193]) (by decide +kernel)
theorem zw_nse : ∀ w ∈ [Cond.classLink RX9 145 "java/util/NoSuchElementException", Cond.initialized "java/util/NoSuchElementException", Cond.classLink RL 13 "java/util/NoSuchElementException", Cond.static yL_layer, Cond.initialized RL, Cond.codeWith yL_layer cL_layer 6 (some .int) [(0, 12, 15, 13)]], w ∈ zT := zchk_ok (is := [1195, 131, 1190, 1188, 116, 1189]) (by decide +kernel)
theorem zw_vx : ∀ w ∈ (zatS RX9 149).filter goodWord, w ∈ lw_tbl := by decide +kernel
theorem zw_vxn : ∀ w ∈ (zatS RX9 149).filter (fun w => !goodWord w), w ∈ [Cond.castable "java/util/NoSuchElementException" "java/util/NoSuchElementException", .declares (Bundle.initS "java/lang/RuntimeException"), .declares (Bundle.initS "java/lang/Exception"), .declares (Bundle.initS "java/lang/Throwable")] := by decide +kernel
theorem zw_vxo : ∀ w ∈ Cond.classLink RX9 145 "java/util/NoSuchElementException" :: Cond.initialized "java/util/NoSuchElementException" :: zatS RX9 149, vx_ot w = true := by decide +kernel
