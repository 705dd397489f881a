/-! the law's cases by function -/
def lvN : SL := [(0, 3, 0, (0, [])), (1, 2, 0, (0, [])), (2, 2, 1, (0, [])), (3, 2, 2, (0, [])), (4, 0, 0, (0, [(0, 1)]))]
abbrev lS0 : List CN := [(6, 0, 0, [(0, 0, (1, [(0, 1)]))]), (11, 0, 0, [(0, 0, (1, [(0, 1)]))]), (5, 7, 0, [(1, 0, (0, [(1, 1)])), (0, 0, (32, []))]), (6, 0, 0, [(0, 0, (2, [(0, 1)]))]), (11, 0, 0, [(0, 0, (2, [(0, 1)]))]), (5, 5, 0, [(1, 0, (0, [(3, 1)])), (1, 0, (4294967295, []))]), (5, 6, 0, [(1, 0, (0, [(2, 1)])), (1, 0, (0, [(4, 1)]))]), (6, 0, 0, [(0, 0, (3, [(0, 1)]))]), (11, 0, 0, [(0, 0, (3, [(0, 1)]))]), (5, 7, 0, [(1, 0, (0, [(6, 1)])), (0, 0, (32, []))]), (6, 0, 0, [(0, 0, (4, [(0, 1)]))]), (11, 0, 0, [(0, 0, (4, [(0, 1)]))]), (5, 5, 0, [(1, 0, (0, [(8, 1)])), (1, 0, (4294967295, []))]), (5, 6, 0, [(1, 0, (0, [(7, 1)])), (1, 0, (0, [(9, 1)]))]), (6, 0, 0, [(0, 0, (5, [(0, 1)]))]), (11, 0, 0, [(0, 0, (5, [(0, 1)]))]), (5, 7, 0, [(1, 0, (0, [(11, 1)])), (0, 0, (32, []))]), (6, 0, 0, [(0, 0, (6, [(0, 1)]))]), (11, 0, 0, [(0, 0, (6, [(0, 1)]))]), (5, 5, 0, [(1, 0, (0, [(13, 1)])), (1, 0, (4294967295, []))]), (5, 6, 0, [(1, 0, (0, [(12, 1)])), (1, 0, (0, [(14, 1)]))]), (8, 148, 1, [(2, 0, (0, [])), (1, 0, (0, [(5, 1)])), (1, 0, (0, [(10, 1)])), (1, 0, (0, [(15, 1)]))]), (6, 0, 0, [(0, 0, (1, [(0, 1)]))]), (11, 0, 0, [(0, 0, (1, [(0, 1)]))]), (5, 7, 0, [(1, 0, (0, [(17, 1)])), (0, 0, (32, []))]), (6, 0, 0, [(0, 0, (2, [(0, 1)]))]), (11, 0, 0, [(0, 0, (2, [(0, 1)]))]), (5, 5, 0, [(1, 0, (0, [(19, 1)])), (1, 0, (4294967295, []))]), (5, 6, 0, [(1, 0, (0, [(18, 1)])), (1, 0, (0, [(20, 1)]))]), (6, 0, 0, [(0, 0, (3, [(0, 1)]))]), (11, 0, 0, [(0, 0, (3, [(0, 1)]))]), (5, 7, 0, [(1, 0, (0, [(22, 1)])), (0, 0, (32, []))]), (6, 0, 0, [(0, 0, (4, [(0, 1)]))]), (11, 0, 0, [(0, 0, (4, [(0, 1)]))]), (5, 5, 0, [(1, 0, (0, [(24, 1)])), (1, 0, (4294967295, []))]), (5, 6, 0, [(1, 0, (0, [(23, 1)])), (1, 0, (0, [(25, 1)]))]), (6, 0, 0, [(0, 0, (5, [(0, 1)]))]), (11, 0, 0, [(0, 0, (5, [(0, 1)]))]), (5, 7, 0, [(1, 0, (0, [(27, 1)])), (0, 0, (32, []))]), (6, 0, 0, [(0, 0, (6, [(0, 1)]))]), (11, 0, 0, [(0, 0, (6, [(0, 1)]))]), (5, 5, 0, [(1, 0, (0, [(29, 1)])), (1, 0, (4294967295, []))]), (5, 6, 0, [(1, 0, (0, [(28, 1)])), (1, 0, (0, [(30, 1)]))]), (8, 231, 1, [(2, 1, (0, [])), (1, 0, (0, [(21, 1)])), (1, 0, (0, [(26, 1)])), (1, 0, (0, [(31, 1)]))]), (6, 0, 0, [(0, 0, (7, [(0, 1)]))]), (9, 23, 0, [(0, 0, (7, [(0, 1)]))])]
theorem lS0_ok : cchk1 tm tc tf [(23, lvN)] 0 1000 (176, lvN, 1, lS0) = true := by decide +kernel
abbrev lS1 : List CN := [(6, 0, 0, [(0, 0, (1, [(0, 1)]))]), (11, 0, 0, [(0, 0, (1, [(0, 1)]))]), (6, 0, 0, [(0, 0, (2, [(0, 1)]))]), (11, 0, 0, [(0, 0, (2, [(0, 1)]))]), (6, 0, 0, [(0, 0, (3, [(0, 1)]))]), (11, 0, 0, [(0, 0, (3, [(0, 1)]))]), (4, 0, 14, [(0, 0, (0, [(3, 1)]))]), (8, 144, 1, [(2, 0, (0, [])), (0, 0, (0, [(1, 1)])), (0, 0, (0, [(2, 1)])), (0, 0, (0, []))]), (6, 0, 0, [(0, 0, (1, [(0, 1)]))]), (11, 0, 0, [(0, 0, (1, [(0, 1)]))]), (6, 0, 0, [(0, 0, (2, [(0, 1)]))]), (11, 0, 0, [(0, 0, (2, [(0, 1)]))]), (6, 0, 0, [(0, 0, (3, [(0, 1)]))]), (11, 0, 0, [(0, 0, (3, [(0, 1)]))]), (4, 0, 3, [(0, 0, (0, [(7, 1)]))]), (8, 229, 1, [(2, 1, (0, [])), (0, 0, (0, [(5, 1)])), (0, 0, (0, [(6, 1)])), (0, 0, (0, []))]), (6, 0, 0, [(0, 0, (7, [(0, 1)]))]), (9, 23, 0, [(0, 0, (7, [(0, 1)]))]), (8, 229, 1, [(2, 1, (0, [])), (0, 0, (0, [(5, 1)])), (0, 0, (0, [(6, 1)])), (0, 0, (1, []))]), (6, 0, 0, [(0, 0, (7, [(0, 1)]))]), (9, 23, 0, [(0, 0, (7, [(0, 1)]))]), (8, 144, 1, [(2, 0, (0, [])), (0, 0, (0, [(1, 1)])), (0, 0, (0, [(2, 1)])), (0, 0, (1, []))]), (6, 0, 0, [(0, 0, (1, [(0, 1)]))]), (11, 0, 0, [(0, 0, (1, [(0, 1)]))]), (6, 0, 0, [(0, 0, (2, [(0, 1)]))]), (11, 0, 0, [(0, 0, (2, [(0, 1)]))]), (6, 0, 0, [(0, 0, (3, [(0, 1)]))]), (11, 0, 0, [(0, 0, (3, [(0, 1)]))]), (4, 0, 3, [(0, 0, (0, [(7, 1)]))]), (8, 229, 1, [(2, 1, (0, [])), (0, 0, (0, [(5, 1)])), (0, 0, (0, [(6, 1)])), (0, 0, (0, []))]), (6, 0, 0, [(0, 0, (7, [(0, 1)]))]), (9, 23, 0, [(0, 0, (7, [(0, 1)]))]), (8, 229, 1, [(2, 1, (0, [])), (0, 0, (0, [(5, 1)])), (0, 0, (0, [(6, 1)])), (0, 0, (1, []))]), (6, 0, 0, [(0, 0, (7, [(0, 1)]))]), (9, 23, 0, [(0, 0, (7, [(0, 1)]))])]
theorem lS1_ok : cchk1 tm tc tf [(23, lvN)] 0 1000 (323, lvN, 1, lS1) = true := by decide +kernel
abbrev lS4 : List CN := [(6, 0, 0, [(0, 0, (1, [(0, 1)]))]), (11, 0, 0, [(0, 0, (1, [(0, 1)]))]), (6, 0, 0, [(0, 0, (2, [(0, 1)]))]), (11, 0, 0, [(0, 0, (2, [(0, 1)]))]), (6, 0, 0, [(0, 0, (3, [(0, 1)]))]), (11, 0, 0, [(0, 0, (3, [(0, 1)]))]), (6, 0, 0, [(0, 0, (4, [(0, 1)]))]), (11, 0, 0, [(0, 0, (4, [(0, 1)]))]), (6, 0, 0, [(0, 0, (5, [(0, 1)]))]), (11, 0, 0, [(0, 0, (5, [(0, 1)]))]), (8, 136, 1, [(2, 0, (0, [])), (0, 0, (0, [(1, 1)])), (0, 0, (0, [(2, 1)])), (0, 0, (0, [(3, 1)])), (0, 0, (0, [(4, 1)])), (0, 0, (0, [(5, 1)]))]), (6, 0, 0, [(0, 0, (1, [(0, 1)]))]), (11, 0, 0, [(0, 0, (1, [(0, 1)]))]), (6, 0, 0, [(0, 0, (2, [(0, 1)]))]), (11, 0, 0, [(0, 0, (2, [(0, 1)]))]), (6, 0, 0, [(0, 0, (3, [(0, 1)]))]), (11, 0, 0, [(0, 0, (3, [(0, 1)]))]), (6, 0, 0, [(0, 0, (4, [(0, 1)]))]), (11, 0, 0, [(0, 0, (4, [(0, 1)]))]), (6, 0, 0, [(0, 0, (5, [(0, 1)]))]), (11, 0, 0, [(0, 0, (5, [(0, 1)]))]), (8, 225, 1, [(2, 1, (0, [])), (0, 0, (0, [(7, 1)])), (0, 0, (0, [(8, 1)])), (0, 0, (0, [(9, 1)])), (0, 0, (0, [(10, 1)])), (0, 0, (0, [(11, 1)]))]), (6, 0, 0, [(0, 0, (7, [(0, 1)]))]), (9, 23, 0, [(0, 0, (7, [(0, 1)]))])]
theorem lS4_ok : cchk1 tm tc tf [(23, lvN)] 0 1000 (462, lvN, 1, lS4) = true := by decide +kernel
abbrev lS5 : List CN := [(6, 0, 0, [(0, 0, (1, [(0, 1)]))]), (11, 0, 0, [(0, 0, (1, [(0, 1)]))]), (6, 0, 0, [(0, 0, (2, [(0, 1)]))]), (11, 0, 0, [(0, 0, (2, [(0, 1)]))]), (6, 0, 0, [(0, 0, (3, [(0, 1)]))]), (11, 0, 0, [(0, 0, (3, [(0, 1)]))]), (6, 0, 0, [(0, 0, (4, [(0, 1)]))]), (11, 0, 0, [(0, 0, (4, [(0, 1)]))]), (8, 132, 1, [(2, 0, (0, [])), (0, 0, (0, [(1, 1)])), (0, 0, (0, [(2, 1)])), (0, 0, (0, [(3, 1)])), (0, 0, (0, [(4, 1)]))]), (6, 0, 0, [(0, 0, (1, [(0, 1)]))]), (11, 0, 0, [(0, 0, (1, [(0, 1)]))]), (6, 0, 0, [(0, 0, (2, [(0, 1)]))]), (11, 0, 0, [(0, 0, (2, [(0, 1)]))]), (6, 0, 0, [(0, 0, (3, [(0, 1)]))]), (11, 0, 0, [(0, 0, (3, [(0, 1)]))]), (6, 0, 0, [(0, 0, (4, [(0, 1)]))]), (11, 0, 0, [(0, 0, (4, [(0, 1)]))]), (8, 223, 1, [(2, 1, (0, [])), (0, 0, (0, [(6, 1)])), (0, 0, (0, [(7, 1)])), (0, 0, (0, [(8, 1)])), (0, 0, (0, [(9, 1)]))]), (6, 0, 0, [(0, 0, (7, [(0, 1)]))]), (9, 23, 0, [(0, 0, (7, [(0, 1)]))])]
theorem lS5_ok : cchk1 tm tc tf [(23, lvN)] 0 1000 (535, lvN, 1, lS5) = true := by decide +kernel
abbrev lS6 : List CN := [(6, 0, 0, [(0, 0, (1, [(0, 1)]))]), (11, 0, 0, [(0, 0, (1, [(0, 1)]))]), (8, 130, 1, [(2, 0, (0, [])), (0, 0, (0, [(1, 1)]))]), (6, 0, 0, [(0, 0, (1, [(0, 1)]))]), (11, 0, 0, [(0, 0, (1, [(0, 1)]))]), (8, 222, 1, [(2, 1, (0, [])), (0, 0, (0, [(3, 1)]))]), (6, 0, 0, [(0, 0, (7, [(0, 1)]))]), (9, 23, 0, [(0, 0, (7, [(0, 1)]))])]
theorem lS6_ok : cchk1 tm tc tf [(23, lvN)] 0 1000 (596, lvN, 1, lS6) = true := by decide +kernel
abbrev lS7 : List CN := [(6, 0, 0, [(0, 0, (1, [(0, 1)]))]), (11, 0, 0, [(0, 0, (1, [(0, 1)]))]), (6, 0, 0, [(0, 0, (2, [(0, 1)]))]), (11, 0, 0, [(0, 0, (2, [(0, 1)]))]), (8, 126, 1, [(2, 0, (0, [])), (0, 0, (0, [(1, 1)])), (0, 0, (0, [(2, 1)]))]), (6, 0, 0, [(0, 0, (1, [(0, 1)]))]), (11, 0, 0, [(0, 0, (1, [(0, 1)]))]), (6, 0, 0, [(0, 0, (2, [(0, 1)]))]), (11, 0, 0, [(0, 0, (2, [(0, 1)]))]), (8, 221, 1, [(2, 1, (0, [])), (0, 0, (0, [(4, 1)])), (0, 0, (0, [(5, 1)]))]), (6, 0, 0, [(0, 0, (7, [(0, 1)]))]), (9, 23, 0, [(0, 0, (7, [(0, 1)]))])]
theorem lS7_ok : cchk1 tm tc tf [(23, lvN)] 0 1000 (621, lvN, 1, lS7) = true := by decide +kernel
abbrev lS11 : List CN := [(6, 0, 0, [(0, 0, (1, [(0, 1)]))]), (11, 0, 0, [(0, 0, (1, [(0, 1)]))]), (6, 0, 0, [(0, 0, (2, [(0, 1)]))]), (11, 0, 0, [(0, 0, (2, [(0, 1)]))]), (8, 116, 1, [(2, 0, (0, [])), (0, 0, (0, [(1, 1)])), (0, 0, (0, [(2, 1)]))]), (6, 0, 0, [(0, 0, (1, [(0, 1)]))]), (11, 0, 0, [(0, 0, (1, [(0, 1)]))]), (6, 0, 0, [(0, 0, (2, [(0, 1)]))]), (11, 0, 0, [(0, 0, (2, [(0, 1)]))]), (8, 215, 1, [(2, 1, (0, [])), (0, 0, (0, [(4, 1)])), (0, 0, (0, [(5, 1)]))]), (6, 0, 0, [(0, 0, (7, [(0, 1)]))]), (9, 23, 0, [(0, 0, (7, [(0, 1)]))])]
theorem lS11_ok : cchk1 tm tc tf [(23, lvN)] 0 1000 (784, lvN, 1, lS11) = true := by decide +kernel
abbrev lS12 : List CN := [(6, 0, 0, [(0, 0, (1, [(0, 1)]))]), (11, 0, 0, [(0, 0, (1, [(0, 1)]))]), (8, 115, 1, [(2, 0, (0, [])), (0, 0, (0, [(1, 1)]))]), (6, 0, 0, [(0, 0, (1, [(0, 1)]))]), (11, 0, 0, [(0, 0, (1, [(0, 1)]))]), (8, 214, 1, [(2, 1, (0, [])), (0, 0, (0, [(3, 1)]))]), (6, 0, 0, [(0, 0, (7, [(0, 1)]))]), (9, 23, 0, [(0, 0, (7, [(0, 1)]))])]
theorem lS12_ok : cchk1 tm tc tf [(23, lvN)] 0 1000 (821, lvN, 1, lS12) = true := by decide +kernel
abbrev lS13 : List CN := [(6, 0, 0, [(0, 0, (1, [(0, 1)]))]), (11, 0, 0, [(0, 0, (1, [(0, 1)]))]), (6, 0, 0, [(0, 0, (2, [(0, 1)]))]), (11, 0, 0, [(0, 0, (2, [(0, 1)]))]), (8, 112, 1, [(2, 0, (0, [])), (0, 0, (0, [(1, 1)])), (0, 0, (0, [(2, 1)]))]), (6, 0, 0, [(0, 0, (1, [(0, 1)]))]), (11, 0, 0, [(0, 0, (1, [(0, 1)]))]), (6, 0, 0, [(0, 0, (2, [(0, 1)]))]), (11, 0, 0, [(0, 0, (2, [(0, 1)]))]), (8, 213, 1, [(2, 1, (0, [])), (0, 0, (0, [(4, 1)])), (0, 0, (0, [(5, 1)]))]), (6, 0, 0, [(0, 0, (7, [(0, 1)]))]), (9, 23, 0, [(0, 0, (7, [(0, 1)]))])]
theorem lS13_ok : cchk1 tm tc tf [(23, lvN)] 0 1000 (846, lvN, 1, lS13) = true := by decide +kernel
abbrev lS14 : List CN := [(6, 0, 0, [(0, 0, (1, [(0, 1)]))]), (11, 0, 0, [(0, 0, (1, [(0, 1)]))]), (6, 0, 0, [(0, 0, (2, [(0, 1)]))]), (11, 0, 0, [(0, 0, (2, [(0, 1)]))]), (8, 109, 1, [(2, 0, (0, [])), (0, 0, (0, [(1, 1)])), (0, 0, (0, [(2, 1)]))]), (6, 0, 0, [(0, 0, (1, [(0, 1)]))]), (11, 0, 0, [(0, 0, (1, [(0, 1)]))]), (6, 0, 0, [(0, 0, (2, [(0, 1)]))]), (11, 0, 0, [(0, 0, (2, [(0, 1)]))]), (8, 212, 1, [(2, 1, (0, [])), (0, 0, (0, [(4, 1)])), (0, 0, (0, [(5, 1)]))]), (6, 0, 0, [(0, 0, (7, [(0, 1)]))]), (9, 23, 0, [(0, 0, (7, [(0, 1)]))])]
theorem lS14_ok : cchk1 tm tc tf [(23, lvN)] 0 1000 (883, lvN, 1, lS14) = true := by decide +kernel
abbrev lS15 : List CN := [(6, 0, 0, [(0, 0, (1, [(0, 1)]))]), (11, 0, 0, [(0, 0, (1, [(0, 1)]))]), (6, 0, 0, [(0, 0, (2, [(0, 1)]))]), (11, 0, 0, [(0, 0, (2, [(0, 1)]))]), (8, 107, 1, [(2, 0, (0, [])), (0, 0, (0, [(1, 1)])), (0, 0, (0, [(2, 1)]))]), (6, 0, 0, [(0, 0, (1, [(0, 1)]))]), (11, 0, 0, [(0, 0, (1, [(0, 1)]))]), (6, 0, 0, [(0, 0, (2, [(0, 1)]))]), (11, 0, 0, [(0, 0, (2, [(0, 1)]))]), (8, 210, 1, [(2, 1, (0, [])), (0, 0, (0, [(4, 1)])), (0, 0, (0, [(5, 1)]))]), (6, 0, 0, [(0, 0, (7, [(0, 1)]))]), (9, 23, 0, [(0, 0, (7, [(0, 1)]))])]
theorem lS15_ok : cchk1 tm tc tf [(23, lvN)] 0 1000 (920, lvN, 1, lS15) = true := by decide +kernel
abbrev lS16 : List CN := [(6, 0, 0, [(0, 0, (1, [(0, 1)]))]), (11, 0, 0, [(0, 0, (1, [(0, 1)]))]), (6, 0, 0, [(0, 0, (2, [(0, 1)]))]), (11, 0, 0, [(0, 0, (2, [(0, 1)]))]), (8, 102, 1, [(2, 0, (0, [])), (0, 0, (0, [(1, 1)])), (0, 0, (0, [(2, 1)]))]), (6, 0, 0, [(0, 0, (1, [(0, 1)]))]), (11, 0, 0, [(0, 0, (1, [(0, 1)]))]), (6, 0, 0, [(0, 0, (2, [(0, 1)]))]), (11, 0, 0, [(0, 0, (2, [(0, 1)]))]), (8, 208, 1, [(2, 1, (0, [])), (0, 0, (0, [(4, 1)])), (0, 0, (0, [(5, 1)]))]), (6, 0, 0, [(0, 0, (7, [(0, 1)]))]), (9, 23, 0, [(0, 0, (7, [(0, 1)]))])]
theorem lS16_ok : cchk1 tm tc tf [(23, lvN)] 0 1000 (957, lvN, 1, lS16) = true := by decide +kernel
abbrev lS17 : List CN := [(6, 0, 0, [(0, 0, (1, [(0, 1)]))]), (11, 0, 0, [(0, 0, (1, [(0, 1)]))]), (8, 99, 1, [(2, 0, (0, [])), (0, 0, (0, [(1, 1)]))]), (6, 0, 0, [(0, 0, (1, [(0, 1)]))]), (11, 0, 0, [(0, 0, (1, [(0, 1)]))]), (8, 206, 1, [(2, 1, (0, [])), (0, 0, (0, [(3, 1)]))]), (4, 0, 2, [(0, 0, (0, [(2, 1), (4, -1)]))]), (6, 0, 0, [(0, 0, (7, [(0, 1)]))]), (9, 23, 0, [(0, 0, (7, [(0, 1)]))]), (10, 1, 0, [(0, 0, (0, []))])]
theorem lS17_ok : cchk1 tm tc tf [(23, lvN)] 0 1000 (994, lvN, 1, lS17) = true := by decide +kernel
abbrev lS18 : List CN := [(8, 89, 1, [(2, 0, (0, []))]), (8, 232, 1, [(2, 1, (0, []))]), (6, 0, 0, [(0, 0, (7, [(0, 1)]))]), (9, 23, 0, [(0, 0, (7, [(0, 1)]))])]
theorem lS18_ok : cchk1 tm tc tf [(23, lvN)] 0 1000 (1019, lvN, 1, lS18) = true := by decide +kernel
def wLg (a b : Int) : Int := cfn 6 (cfn 7 a 32) (cfn 5 b 4294967295)
def lE (EX : SEx) (l : Launch) (dC : Nat → ClassId) (dI : Nat → Nat → Nat) (cA : Nat → ClassId) (ad : SAd) (kc : Nat) (as : List CA) (M : SMem) (post : List Int → SMem → Prop) : Prop := cBG tm tf EX l dC dI cA ad 0 32 kc as M post ∧ ∀ rr M', post rr M' → (∀ i, M' 107 0 i = M 107 0 i) ∧ M' 108 0 0 = M 108 0 0
theorem wUp_eq {T D H G S L : Nat → Int} {n : Nat} {a g s r : Int} {D1 H1 G1 S1 L1 D2 H2 G2 S2 L2 : Nat → Int} (h1 : wUp T D H G S L n a g s r D1 H1 G1 S1 L1) (h2 : wUp T D H G S L n a g s r D2 H2 G2 S2 L2) : D1 = D2 ∧ H1 = H2 ∧ G1 = G2 ∧ S1 = S2 ∧ L1 = L2 := by
  by_cases hr : r = 0
  · obtain ⟨a1, a2, a3, a4, a5⟩ := h1.1 hr
    obtain ⟨b1, b2, b3, b4, b5⟩ := h2.1 hr
    exact ⟨a1.trans b1.symm, a2.trans b2.symm, a3.trans b3.symm, a4.trans b4.symm, a5.trans b5.symm⟩
  · obtain ⟨a1, a2, a3, a4, a5⟩ := h1.2 hr
    obtain ⟨b1, b2, b3, b4, b5⟩ := h2.2 hr
    exact ⟨a1.trans b1.symm, a2.trans b2.symm, a3.trans b3.symm, a4.trans b4.symm, a5.trans b5.symm⟩
/-- the widths, behind a name that is told -/
theorem wNx_wid {M MM : SMem} {n : Nat} {a g s r : Int} (hI : sI tg M) (hw : ∀ i, i < 8 → M 62 0 i = wSm (M 63 0) (8 * i) (M 61 0 i).toNat) (h : wNx M n a g s r MM) : ∀ i, i < 8 → MM 62 0 i = wSm (MM 63 0) (8 * i) (MM 61 0 i).toNat := by
  obtain ⟨i1, f1, hR, hU, u1, u2⟩ := h
  intro i hi
  by_cases hr : r = 0
  · obtain ⟨-, -, -, a4, a5⟩ := hU.1 hr
    have ht : wTx 0 (M 57 0) (wf (M 57 0) n) (wu (M 57 0) n) := by
      rcases hR with ⟨q, -⟩ | ⟨-, ⟨q, -⟩ | ⟨q, -⟩⟩
      · omega
      · omega
      · exact q
    have t1 := ht.1
    have t2 := ht.2.1
    rw [u1 hr, a4, a5]
    by_cases hk : i = a.toNat
    · rw [hk, wSt_at, wSt_at]
      have e1 : ((wu (M 57 0) n : Int) - (wf (M 57 0) n : Int)).toNat = wu (M 57 0) n - wf (M 57 0) n := by omega
      rw [e1]
      refine wSm_congr _ (fun k hk2 => ?_)
      unfold wPt
      rw [if_pos (by omega), show wf (M 57 0) n + (8 * a.toNat + k - 8 * a.toNat) = wf (M 57 0) n + k by omega]
    · rw [wSt_ne hk, wSt_ne hk, hw i hi]
      have hb := wIb (f := 61) (i := i) (lo := 0) (hi := 8) hI 0 rfl
      refine wSm_congr _ (fun k hk2 => ?_)
      unfold wPt
      rw [if_neg (by omega)]
  · obtain ⟨-, -, -, a4, a5⟩ := hU.2 hr
    rw [u2 hr, a4, a5]
    exact hw i hi
theorem d_op2 {E : Nat → List CA → SMem → (List Int → SMem → Prop) → Prop} {Qr : List Int → SMem → Prop} {C : Nat → List Int → SMem → Prop} {n : Nat} {r : List CN} {v : List Int} {M : SMem} {a b : Nat} {x y : SV} (p q : Int) (h1 : cE2 v x = p) (h2 : cE2 v y = q) (h : cden E Qr C n r (v ++ [cfn a p q]) M) : cden E Qr C (n + 1) ((5, a, b, [x, y]) :: r) v M := by
  subst h1 h2
  exact h
section LCS
variable {EX : SEx} {l : Launch} {dC : Nat → ClassId} {dI : Nat → Nat → Nat} {cA : Nat → ClassId} {ad : SAd} {L : Nat} {M : SMem} {i n : Nat}
/-- from a case to the loop's head -/
theorem cLaw {p : Program} {e : Env} {R : Room} {s : State} {m : MethodId} {args : Array Value} {below : List Frame} {meth : Method} {c : Code} {Q : State → Prop} {A : Nat → Prop} {scr nc ns f Fd pc : Nat} {xs : Nat → Int32} {Lc : List CN} {ws : va_W} {H : Heap} {locs : List Loc} {ls : Array Slot} {clv : ZL} {v : List Int} {C : List Int → SMem → Prop} (hp : cPl tm tc tf EX) (hchk : cchk1 tm tc tf [(23, lvN)] 0 f (pc, lvN, 1, Lc) = true) (F : sF 33 (RL, yL_law, cL_law, 7, some .boolean, 50, 5000) EX p R s m args c dC dI cA A) (hX : va_X scr L xs s s.heap) (hbl : scr < s.heap.size) (hbA : ¬ A scr) (hnc : nc ≤ R.cells) (hns : ns ≤ R.slots)
    (hC : ∀ (v : List Int) (M : SMem) (ws : va_W) (H : Heap) (locs : List Loc) (ls : Array Slot) (clv : ZL), (M 108 0 0 = (L : Int) ∧ ∀ j, j < L → M 107 0 j = (xs j).toInt) → sH tf ad M cA ws → va_P (dC, dI) vwCl ws H → va_D A ws → va_S A s.heap H locs → lv_has ls 7 clv → sls tf scr (cen v) ad lvN clv → C v M → W p l e R s m args below meth c H locs nc ns Q (F0 m 23 ls []))
    (hv : v.length = 1) (hS0 : M 108 0 0 = (L : Int) ∧ ∀ j, j < L → M 107 0 j = (xs j).toInt) (hH : sH tf ad M cA ws) (hP : va_P (dC, dI) vwCl ws H) (hD : va_D A ws) (hS : va_S A s.heap H locs) (hl : lv_has ls 7 clv) (q6 : sls tf scr (cen v) ad lvN clv) (hd : cden (lE EX l dC dI cA ad) (fun _ _ => False) (fun pc v M => pc = 23 ∧ C v M) Fd Lc v M) : W p l e R s m args below meth c H locs nc ns Q (F0 m pc ls []) := by
  obtain ⟨hEX, hI, hk9, hcl, htab⟩ := hp
  unfold cchk1 at hchk
  cases hst : cstp tm tc tf [(23, lvN)] true 0 (cgo tm tc tf [(23, lvN)] 0 f) 1 pc lvN [] with
  | none => simp only [hst] at hchk; cases hchk
  | some L2 =>
    simp only [hst] at hchk
    have eL := clq_ok cnbeq_ok hchk
    have eL : L2 = Lc := eL
    rw [← eL] at hd
    have hSx : ∀ (M : SMem) (f j i : Nat) (z : Int), f < tf.length → (M 108 0 0 = (L : Int) ∧ ∀ j, j < L → M 107 0 j = (xs j).toInt) → (supd M f j i z 108 0 0 = (L : Int) ∧ ∀ j', j' < L → supd M f j i z 107 0 j' = (xs j').toInt) := by
      intro M f j i z hf h
      have hf : f < 107 := by
        have e : tf.length ≤ 107 := by decide +kernel
        omega
      refine ⟨by rw [supd_f (by omega)]; exact h.1, fun j' hj => by rw [supd_f (by omega)]; exact h.2 j' hj⟩
    have hSxE : ∀ kc as M post, lE EX l dC dI cA ad kc as M post → (M 108 0 0 = (L : Int) ∧ ∀ j, j < L → M 107 0 j = (xs j).toInt) → ∀ rr M', post rr M' → (M' 108 0 0 = (L : Int) ∧ ∀ j, j < L → M' 107 0 j = (xs j).toInt) := by
      intro kc as M post hE h rr M' hpo
      obtain ⟨z1, z2⟩ := hE.2 rr M' hpo
      exact ⟨by rw [z2]; exact h.1, fun j hj => by rw [z1]; exact h.2 j hj⟩
    have hC9 : ∀ (pc : Nat) (T : SL), cfind pc [(23, lvN)] = some T → ∀ (v : List Int) (M : SMem) (ws : va_W) (H : Heap) (locs : List Loc) (ls : Array Slot) (clv : ZL), (M 108 0 0 = (L : Int) ∧ ∀ j, j < L → M 107 0 j = (xs j).toInt) → sH tf ad M cA ws → va_P (dC, dI) vwCl ws H → va_D A ws → va_S A s.heap H locs → lv_has ls 7 clv → sls tf scr (cen v) ad T clv → (pc = 23 ∧ C v M) → W p l e R s m args below meth c H locs nc ns Q (F0 m pc ls []) := by
      intro pc T hf v M ws H locs ls clv h1 h2 h3 h4 h5 h6 h7 h8
      obtain ⟨rfl, h8⟩ := h8
      cases hf
      exact hC v M ws H locs ls clv h1 h2 h3 h4 h5 h6 h7 h8
    have hgo := cgo_ok (k := 0) (E := lE EX l dC dI cA ad) (Qr := fun _ _ => False) (scrS := 0) (nc := nc) (ns := ns) (e := e) (below := below) (meth := meth) (Q := Q) (Sx := fun M => M 108 0 0 = (L : Int) ∧ ∀ j, j < L → M 107 0 j = (xs j).toInt) (scr := scr) (cu := [(23, lvN)]) (zc := tc) hEX hI hk9 hcl htab hSx hSxE (fun _ _ _ _ h => h.1) F rfl rfl hnc hns (fun _ => ⟨L, xs, hX, hbl, hbA, fun M h => h⟩) hC9 (fun _ _ _ _ _ _ _ _ _ _ h => h.elim) f
    exact cstp_ok (k := 0) (E := lE EX l dC dI cA ad) (Qr := fun _ _ => False) (scrS := 0) (nc := nc) (ns := ns) (e := e) (below := below) (meth := meth) (Q := Q) (Sx := fun M => M 108 0 0 = (L : Int) ∧ ∀ j, j < L → M 107 0 j = (xs j).toInt) (scr := scr) (cu := [(23, lvN)]) (zc := tc) hEX hI hk9 hcl htab hSx hSxE (fun _ _ _ _ h => h.1) F rfl rfl hnc hns (fun _ => ⟨L, xs, hX, hbl, hbA, fun M h => h⟩) hC9 (fun _ _ _ _ _ _ _ _ _ _ h => h.elim) hgo hst Fd v M ws H locs ls clv [] hv hS0 hH hP hD hS hl q6 trivial hd
set_option maxHeartbeats 4000000 in
theorem lc0 (hp : cPl tm tc tf EX) (hI : sI tg M) (hR : Rn M) (h3 : M 3 0 1 = (n : Int)) (h1 : M 1 0 2 = (n : Int)) (h9 : n ≤ 1000) (hL : M 108 0 0 = (L : Int)) (hi : i + 7 ≤ L) (hL9 : L ≤ 3584) : cden (lE EX l dC dI cA ad) (fun _ _ => False) (fun pc v M2 => pc = 23 ∧ v = [((i + 7 : Nat) : Int)] ∧ Rz M M2 ∧ (∀ k, M2 7 0 k = M 7 0 k) ∧ (∀ f, f ∈ lSZ → M2 f = M f) ∧ ∀ k, k ∈ [28, 32, 34] → M2 1 0 k = M 1 0 k) 100 lS0 [(i : Int)] M := by
  obtain ⟨g1, g2, g3, g4, g5, g6, g7⟩ := hR
  refine d_rng (by simp only [clo, chi, cE2, sev, svl, cen, List.cons_append, List.nil_append]; omega) ?_
  refine d_scr (i + 1) (by simp only [cE2, sev, svl, cen, List.cons_append, List.nil_append]; omega) (by rw [hL]; omega) ?_
  refine d_op2 (M 107 0 (i + 1)) 32 (by simp [cE2, sev, svl, cen]) (by simp [cE2, sev, svl]) ?_
  refine d_rng (by simp only [clo, chi, cE2, sev, svl, cen, List.cons_append, List.nil_append]; omega) ?_
  refine d_scr (i + 2) (by simp only [cE2, sev, svl, cen, List.cons_append, List.nil_append]; omega) (by rw [hL]; omega) ?_
  refine d_op2 (M 107 0 (i + 2)) 4294967295 (by simp [cE2, sev, svl, cen]) (by simp [cE2, sev, svl]) ?_
  refine d_op2 (cfn 7 (M 107 0 (i + 1)) 32) (cfn 5 (M 107 0 (i + 2)) 4294967295) (by simp [cE2, sev, svl, cen]) (by simp [cE2, sev, svl, cen]) ?_
  refine d_rng (by simp only [clo, chi, cE2, sev, svl, cen, List.cons_append, List.nil_append]; omega) ?_
  refine d_scr (i + 3) (by simp only [cE2, sev, svl, cen, List.cons_append, List.nil_append]; omega) (by rw [hL]; omega) ?_
  refine d_op2 (M 107 0 (i + 3)) 32 (by simp [cE2, sev, svl, cen]) (by simp [cE2, sev, svl]) ?_
  refine d_rng (by simp only [clo, chi, cE2, sev, svl, cen, List.cons_append, List.nil_append]; omega) ?_
  refine d_scr (i + 4) (by simp only [cE2, sev, svl, cen, List.cons_append, List.nil_append]; omega) (by rw [hL]; omega) ?_
  refine d_op2 (M 107 0 (i + 4)) 4294967295 (by simp [cE2, sev, svl, cen]) (by simp [cE2, sev, svl]) ?_
  refine d_op2 (cfn 7 (M 107 0 (i + 3)) 32) (cfn 5 (M 107 0 (i + 4)) 4294967295) (by simp [cE2, sev, svl, cen]) (by simp [cE2, sev, svl, cen]) ?_
  refine d_rng (by simp only [clo, chi, cE2, sev, svl, cen, List.cons_append, List.nil_append]; omega) ?_
  refine d_scr (i + 5) (by simp only [cE2, sev, svl, cen, List.cons_append, List.nil_append]; omega) (by rw [hL]; omega) ?_
  refine d_op2 (M 107 0 (i + 5)) 32 (by simp [cE2, sev, svl, cen]) (by simp [cE2, sev, svl]) ?_
  refine d_rng (by simp only [clo, chi, cE2, sev, svl, cen, List.cons_append, List.nil_append]; omega) ?_
  refine d_scr (i + 6) (by simp only [cE2, sev, svl, cen, List.cons_append, List.nil_append]; omega) (by rw [hL]; omega) ?_
  refine d_op2 (M 107 0 (i + 6)) 4294967295 (by simp [cE2, sev, svl, cen]) (by simp [cE2, sev, svl]) ?_
  refine d_op2 (cfn 7 (M 107 0 (i + 5)) 32) (cfn 5 (M 107 0 (i + 6)) 4294967295) (by simp [cE2, sev, svl, cen]) (by simp [cE2, sev, svl, cen]) ?_
  refine d_call ⟨b_feed (d := 29) hp (x := wLg (M 107 0 (i + 1)) (M 107 0 (i + 2))) (y := wLg (M 107 0 (i + 3)) (M 107 0 (i + 4))) (z := wLg (M 107 0 (i + 5)) (M 107 0 (i + 6))) hI h3 h9, fun rr M9 q => ⟨fun i => q.2.2.1 107 0 i (by omega) (by omega), q.2.2.1 108 0 0 (by omega) (by omega)⟩⟩ (by simp [cAs, cE2, sev, svl, cen, wLg]) ?_
  rintro rr M1 ⟨rfl, t1⟩
  refine ⟨rfl, ?_⟩
  generalize hq : wTk (wBx (wLg (M 107 0 (i + 5)) (M 107 0 (i + 6)))) (wTk (wBx (wLg (M 107 0 (i + 3)) (M 107 0 (i + 4)))) (wTk (wBx (wLg (M 107 0 (i + 1)) (M 107 0 (i + 2)))) (M 57 0, n) 8) 8) 8 = q at t1 ⊢
  obtain ⟨i1, f1, u57, u31, uq⟩ := t1
  have hL1 : M1 108 0 0 = (L : Int) := by rw [f1 108 0 0 (by omega) (by omega), hL]
  have e107 : M1 107 0 = M 107 0 := by
      funext k
      exact f1 107 0 k (by omega) (by omega)
  have e12 : M1 12 0 = M 57 0 := by
      rw [g1]
      funext k
      exact f1 12 0 k (by omega) (by omega)
  refine d_rng (by simp only [clo, chi, cE2, sev, svl, cen, List.cons_append, List.nil_append]; omega) ?_
  refine d_scr (i + 1) (by simp only [cE2, sev, svl, cen, List.cons_append, List.nil_append]; omega) (by rw [hL1]; omega) ?_
  refine d_op2 (M1 107 0 (i + 1)) 32 (by simp [cE2, sev, svl, cen]) (by simp [cE2, sev, svl]) ?_
  refine d_rng (by simp only [clo, chi, cE2, sev, svl, cen, List.cons_append, List.nil_append]; omega) ?_
  refine d_scr (i + 2) (by simp only [cE2, sev, svl, cen, List.cons_append, List.nil_append]; omega) (by rw [hL1]; omega) ?_
  refine d_op2 (M1 107 0 (i + 2)) 4294967295 (by simp [cE2, sev, svl, cen]) (by simp [cE2, sev, svl]) ?_
  refine d_op2 (cfn 7 (M1 107 0 (i + 1)) 32) (cfn 5 (M1 107 0 (i + 2)) 4294967295) (by simp [cE2, sev, svl, cen]) (by simp [cE2, sev, svl, cen]) ?_
  refine d_rng (by simp only [clo, chi, cE2, sev, svl, cen, List.cons_append, List.nil_append]; omega) ?_
  refine d_scr (i + 3) (by simp only [cE2, sev, svl, cen, List.cons_append, List.nil_append]; omega) (by rw [hL1]; omega) ?_
  refine d_op2 (M1 107 0 (i + 3)) 32 (by simp [cE2, sev, svl, cen]) (by simp [cE2, sev, svl]) ?_
  refine d_rng (by simp only [clo, chi, cE2, sev, svl, cen, List.cons_append, List.nil_append]; omega) ?_
  refine d_scr (i + 4) (by simp only [cE2, sev, svl, cen, List.cons_append, List.nil_append]; omega) (by rw [hL1]; omega) ?_
  refine d_op2 (M1 107 0 (i + 4)) 4294967295 (by simp [cE2, sev, svl, cen]) (by simp [cE2, sev, svl]) ?_
  refine d_op2 (cfn 7 (M1 107 0 (i + 3)) 32) (cfn 5 (M1 107 0 (i + 4)) 4294967295) (by simp [cE2, sev, svl, cen]) (by simp [cE2, sev, svl, cen]) ?_
  refine d_rng (by simp only [clo, chi, cE2, sev, svl, cen, List.cons_append, List.nil_append]; omega) ?_
  refine d_scr (i + 5) (by simp only [cE2, sev, svl, cen, List.cons_append, List.nil_append]; omega) (by rw [hL1]; omega) ?_
  refine d_op2 (M1 107 0 (i + 5)) 32 (by simp [cE2, sev, svl, cen]) (by simp [cE2, sev, svl]) ?_
  refine d_rng (by simp only [clo, chi, cE2, sev, svl, cen, List.cons_append, List.nil_append]; omega) ?_
  refine d_scr (i + 6) (by simp only [cE2, sev, svl, cen, List.cons_append, List.nil_append]; omega) (by rw [hL1]; omega) ?_
  refine d_op2 (M1 107 0 (i + 6)) 4294967295 (by simp [cE2, sev, svl, cen]) (by simp [cE2, sev, svl]) ?_
  refine d_op2 (cfn 7 (M1 107 0 (i + 5)) 32) (cfn 5 (M1 107 0 (i + 6)) 4294967295) (by simp [cE2, sev, svl, cen]) (by simp [cE2, sev, svl, cen]) ?_
  refine d_call ⟨m_feed (d := 30) hp (x := wLg (M1 107 0 (i + 1)) (M1 107 0 (i + 2))) (y := wLg (M1 107 0 (i + 3)) (M1 107 0 (i + 4))) (z := wLg (M1 107 0 (i + 5)) (M1 107 0 (i + 6))) i1 (by rw [f1 1 0 2 (by omega) (by omega)]; exact h1) h9, fun rr M9 q => ⟨fun i => q.2.2.1 107 0 i (by omega) (by omega), q.2.2.1 108 0 0 (by omega) (by omega)⟩⟩ (by simp [cAs, cE2, sev, svl, cen, wLg]) ?_
  rintro rr M2 ⟨rfl, t2⟩
  refine ⟨rfl, ?_⟩
  have hq2 : wTk (wBm (wLg (M1 107 0 (i + 5)) (M1 107 0 (i + 6)))) (wTk (wBm (wLg (M1 107 0 (i + 3)) (M1 107 0 (i + 4)))) (wTk (wBm (wLg (M1 107 0 (i + 1)) (M1 107 0 (i + 2)))) (M1 12 0, n) 8) 8) 8 = q := by
      rw [← hq, e107, e12]
      rw [wTk_congr 8 (fun k hk => (wB_eq (wLg (M 107 0 (i + 1)) (M 107 0 (i + 2))) hk).symm), wTk_congr 8 (fun k hk => (wB_eq (wLg (M 107 0 (i + 3)) (M 107 0 (i + 4))) hk).symm), wTk_congr 8 (fun k hk => (wB_eq (wLg (M 107 0 (i + 5)) (M 107 0 (i + 6))) hk).symm)]
  rw [hq2] at t2 ⊢
  obtain ⟨i2, f2, v12, v12n, vq⟩ := t2
  refine d_rng (by simp only [clo, chi, cE2, sev, svl, cen, List.cons_append, List.nil_append]; omega) ?_
  refine d_cut [((i + 7 : Nat) : Int)] (by simp [cE2, sev, svl, cen] <;> omega) ⟨rfl, rfl, ⟨i2, ?_, ?_, fun f j k z => ?_⟩, fun k => ?_, fun f hf => ?_, fun k hk => ?_⟩
  · have r57 : M2 57 0 = q.1 := by
      rw [← u57]
      funext k
      exact f2 57 0 k (by omega) (by omega)
    have r : ∀ f, f ≠ 1 → f ≠ 3 → f ≠ 12 → f ≠ 57 → M2 f 0 = M f 0 := fun f z1 z2 z3 z4 => by
      funext k
      rw [f2 f 0 k z3 (fun z => z1 z.1), f1 f 0 k z4 (fun z => z2 z.1)]
    unfold Rn
    rw [r57, v12, r 58 (by omega) (by omega) (by omega) (by omega), r 59 (by omega) (by omega) (by omega) (by omega), r 60 (by omega) (by omega) (by omega) (by omega), r 61 (by omega) (by omega) (by omega) (by omega), r 62 (by omega) (by omega) (by omega) (by omega), r 63 (by omega) (by omega) (by omega) (by omega), r 17 (by omega) (by omega) (by omega) (by omega), r 18 (by omega) (by omega) (by omega) (by omega), r 19 (by omega) (by omega) (by omega) (by omega), r 20 (by omega) (by omega) (by omega) (by omega), r 21 (by omega) (by omega) (by omega) (by omega)]
    exact ⟨rfl, g2, g3, g4, g5, g6, g7⟩
  · rw [v12n, f2 3 0 1 (by omega) (by omega), u31]
  · simp only [lDL, List.mem_cons, List.not_mem_nil, or_false, not_or] at z
    rw [f2 f j k (by omega) (by omega), f1 f j k (by omega) (by omega)]
  · rw [f2 7 0 k (by omega) (by omega), f1 7 0 k (by omega) (by omega)]
  · funext j k
    simp only [lSZ, List.mem_cons, List.not_mem_nil, or_false] at hf
    rw [f2 f j k (by omega) (by omega), f1 f j k (by omega) (by omega)]
  · simp only [List.mem_cons, List.not_mem_nil, or_false] at hk
    rw [f2 1 0 k (by omega) (by omega), f1 1 0 k (by omega) (by omega)]
theorem lw0 (hp : cPl tm tc tf EX) (hB : sBu EX l dC dI cA ad) (hI : sI tg M) (hR : Rs M) (hX : sX M) (h3 : M 3 0 1 = (n : Int)) (h1 : M 1 0 2 = (n : Int)) (h9 : n ≤ 1000) (hL : M 108 0 0 = (L : Int)) (hi : i + 7 ≤ L) (hL9 : L ≤ 3584) : cden (lE EX l dC dI cA ad) (fun _ _ => False) (fun pc v M2 => pc = 23 ∧ v = [((i + 7 : Nat) : Int)] ∧ Rqs M M2) 100 lS0 [(i : Int)] M := by
  exact cden_mono (fun p v M2 h => ⟨h.1, h.2.1, Rs_keep hR (Rq_of hR.1.2 hX h.2.2.1) h.2.2.2.2.1 h.2.2.2.1 h.2.2.2.2.2⟩) (lc0 hp hI hR.1.1 h3 h1 h9 hL hi hL9)
set_option maxHeartbeats 4000000 in
theorem lw1 (hp : cPl tm tc tf EX) (hB : sBu EX l dC dI cA ad) (hI : sI tg M) (hR : Rs M) (hX : sX M) (h3 : M 3 0 1 = (n : Int)) (h1 : M 1 0 2 = (n : Int)) (h9 : n ≤ 1000) (hL : M 108 0 0 = (L : Int)) (hi : i + 7 ≤ L) (hL9 : L ≤ 3584) : cden (lE EX l dC dI cA ad) (fun _ _ => False) (fun pc v M2 => pc = 23 ∧ v = [((i + 7 : Nat) : Int)] ∧ Rqs M M2) 100 lS1 [(i : Int)] M := by
  obtain ⟨g1, g2, g3, g4, g5, g6, g7⟩ := hR.1.1
  refine d_rng (by simp only [clo, chi, cE2, sev, svl, cen, List.cons_append, List.nil_append]; omega) ?_
  refine d_scr (i + 1) (by simp only [cE2, sev, svl, cen, List.cons_append, List.nil_append]; omega) (by rw [hL]; omega) ?_
  refine d_rng (by simp only [clo, chi, cE2, sev, svl, cen, List.cons_append, List.nil_append]; omega) ?_
  refine d_scr (i + 2) (by simp only [cE2, sev, svl, cen, List.cons_append, List.nil_append]; omega) (by rw [hL]; omega) ?_
  refine d_rng (by simp only [clo, chi, cE2, sev, svl, cen, List.cons_append, List.nil_append]; omega) ?_
  refine d_scr (i + 3) (by simp only [cE2, sev, svl, cen, List.cons_append, List.nil_append]; omega) (by rw [hL]; omega) ?_
  have fin : ∀ (s r r' : Int) (M1 M2 : SMem), wNx M n (M 107 0 (i + 1)) (M 107 0 (i + 2)) s r M1 → M1 3 0 1 = 0 → wNm M1 n (M 107 0 (i + 1)) (M 107 0 (i + 2)) s r' M2 → r = r' ∧ Rz M M2 := by
      intro s r r' M1 M2 hx hx3 hm
      have hxw := wNx_wid hI g7 hx
      obtain ⟨i1, f1, hR1, hU1, -, -⟩ := hx
      obtain ⟨i2, f2, hR2, hU2, m2⟩ := hm
      have q : ∀ f, f ∈ [12, 17, 18, 19, 20, 21, 57] → M1 f 0 = M f 0 := fun f hf => by
        funext k
        simp only [List.mem_cons, List.not_mem_nil, or_false] at hf
        exact f1 f 0 k (by omega) (by omega) (by omega) (by omega)
      have q' : ∀ f, f ∈ [12, 57, 58, 59, 60, 61, 62, 63] → M2 f 0 = M1 f 0 := fun f hf => by
        funext k
        simp only [List.mem_cons, List.not_mem_nil, or_false] at hf
        exact f2 f 0 k (by omega) (by omega)
      rw [q 12 (by decide), q 17 (by decide), q 20 (by decide), q 21 (by decide), ← g1, ← g2, ← g5, ← g6] at hR2
      rw [q 12 (by decide), q 17 (by decide), q 18 (by decide), q 19 (by decide), q 20 (by decide), q 21 (by decide), ← g1, ← g2, ← g3, ← g4, ← g5, ← g6] at hU2
      have er := wR_eq hR1 hR2
      subst er
      obtain ⟨d1, d2, d3, d4, d5⟩ := wUp_eq hU1 hU2
      refine ⟨rfl, i2, ?_, ?_, fun f j k z => ?_⟩
      · unfold Rn
        rw [q' 57 (by decide), q' 12 (by decide), q' 58 (by decide), q' 59 (by decide), q' 60 (by decide), q' 61 (by decide), q' 62 (by decide), q' 63 (by decide), q 57 (by decide), q 12 (by decide)]
        exact ⟨g1, d1, d2, d3, d4, d5, hxw⟩
      · rw [m2, f2 3 0 1 (by decide) (by decide), hx3]
      · simp only [lDL, List.mem_cons, List.not_mem_nil, or_false, not_or] at z
        rw [f2 f j k (by omega) (by omega), f1 f j k (by omega) (by omega) (by omega) (by omega)]
  refine d_br (fun h => ?_) (fun h => ?_)
  · refine d_call ⟨b_name2 (d := 28) hp (a := M 107 0 (i + 1)) (g := M 107 0 (i + 2)) (s := 0) hI h3 h9 (by omega), fun rr M9 q => ?_⟩ (by simp [cAs, cE2, sev, svl, cen]) ?_
    · obtain ⟨r, -, q, -⟩ := q
      exact ⟨fun i => q.2.1 107 0 i (by decide) (by decide) (by decide) (by decide), q.2.1 108 0 0 (by decide) (by decide) (by decide) (by decide)⟩
    rintro rr M1 ⟨r, rfl, hx, hx3, hr1, hr2, k1, k2⟩
    refine ⟨rfl, ?_⟩
    have hL1 : M1 108 0 0 = (L : Int) := by rw [hx.2.1 108 0 0 (by decide) (by decide) (by decide) (by decide), hL]
    have e107 : M1 107 0 = M 107 0 := by
      funext k
      exact hx.2.1 107 0 k (by decide) (by decide) (by decide) (by decide)
    refine d_rng (by simp only [clo, chi, cE2, sev, svl, cen, List.cons_append, List.nil_append]; omega) ?_
    refine d_scr (i + 1) (by simp only [cE2, sev, svl, cen, List.cons_append, List.nil_append]; omega) (by rw [hL1]; omega) ?_
    refine d_rng (by simp only [clo, chi, cE2, sev, svl, cen, List.cons_append, List.nil_append]; omega) ?_
    refine d_scr (i + 2) (by simp only [cE2, sev, svl, cen, List.cons_append, List.nil_append]; omega) (by rw [hL1]; omega) ?_
    refine d_rng (by simp only [clo, chi, cE2, sev, svl, cen, List.cons_append, List.nil_append]; omega) ?_
    refine d_scr (i + 3) (by simp only [cE2, sev, svl, cen, List.cons_append, List.nil_append]; omega) (by rw [hL1]; omega) ?_
    rw [e107]
    refine d_br (fun hk9 => ?_) (fun hk9 => ?_)
    · refine d_call ⟨m_name2 (d := 29) hp (a := M 107 0 (i + 1)) (g := M 107 0 (i + 2)) (s := 0) hx.1 (by rw [hx.2.1 1 0 2 (by decide) (by decide) (by decide) (by decide)]; exact h1) h9 (by omega), fun rr M9 q => ?_⟩ (by simp [cAs, cE2, sev, svl, cen]) ?_
      · obtain ⟨r, -, q, -⟩ := q
        exact ⟨fun i => q.2.1 107 0 i (by decide) (by decide), q.2.1 108 0 0 (by decide) (by decide)⟩
      rintro rr M2 ⟨r', rfl, hm, -, -, k3⟩
      refine ⟨rfl, ?_⟩
      obtain ⟨er, hz⟩ := fin 0 r r' M1 M2 hx hx3 hm
      subst er
      have hz := fin_name3 hR hX hz hx hm k1 k2 k3
      refine d_rng (by simp only [clo, chi, cE2, sev, svl, cen, List.cons_append, List.nil_append]; omega) ?_
      exact d_cut [((i + 7 : Nat) : Int)] (by simp [cE2, sev, svl, cen] <;> omega) ⟨rfl, rfl, hz⟩
    · exact absurd (show False by (have hh := h; have hk := hk9; simp only [cCmp, cE2, sev, svl, cen, List.cons_append, List.nil_append] at hh hk; omega)) id
  · refine d_call ⟨b_name2 (d := 28) hp (a := M 107 0 (i + 1)) (g := M 107 0 (i + 2)) (s := 1) hI h3 h9 (by omega), fun rr M9 q => ?_⟩ (by simp [cAs, cE2, sev, svl, cen]) ?_
    · obtain ⟨r, -, q, -⟩ := q
      exact ⟨fun i => q.2.1 107 0 i (by decide) (by decide) (by decide) (by decide), q.2.1 108 0 0 (by decide) (by decide) (by decide) (by decide)⟩
    rintro rr M1 ⟨r, rfl, hx, hx3, hr1, hr2, k1, k2⟩
    refine ⟨rfl, ?_⟩
    have hL1 : M1 108 0 0 = (L : Int) := by rw [hx.2.1 108 0 0 (by decide) (by decide) (by decide) (by decide), hL]
    have e107 : M1 107 0 = M 107 0 := by
      funext k
      exact hx.2.1 107 0 k (by decide) (by decide) (by decide) (by decide)
    refine d_rng (by simp only [clo, chi, cE2, sev, svl, cen, List.cons_append, List.nil_append]; omega) ?_
    refine d_scr (i + 1) (by simp only [cE2, sev, svl, cen, List.cons_append, List.nil_append]; omega) (by rw [hL1]; omega) ?_
    refine d_rng (by simp only [clo, chi, cE2, sev, svl, cen, List.cons_append, List.nil_append]; omega) ?_
    refine d_scr (i + 2) (by simp only [cE2, sev, svl, cen, List.cons_append, List.nil_append]; omega) (by rw [hL1]; omega) ?_
    refine d_rng (by simp only [clo, chi, cE2, sev, svl, cen, List.cons_append, List.nil_append]; omega) ?_
    refine d_scr (i + 3) (by simp only [cE2, sev, svl, cen, List.cons_append, List.nil_append]; omega) (by rw [hL1]; omega) ?_
    rw [e107]
    refine d_br (fun hk9 => ?_) (fun hk9 => ?_)
    · exact absurd (show False by (have hh := h; have hk := hk9; simp only [cCmp, cE2, sev, svl, cen, List.cons_append, List.nil_append] at hh hk; omega)) id
    · refine d_call ⟨m_name2 (d := 29) hp (a := M 107 0 (i + 1)) (g := M 107 0 (i + 2)) (s := 1) hx.1 (by rw [hx.2.1 1 0 2 (by decide) (by decide) (by decide) (by decide)]; exact h1) h9 (by omega), fun rr M9 q => ?_⟩ (by simp [cAs, cE2, sev, svl, cen]) ?_
      · obtain ⟨r, -, q, -⟩ := q
        exact ⟨fun i => q.2.1 107 0 i (by decide) (by decide), q.2.1 108 0 0 (by decide) (by decide)⟩
      rintro rr M2 ⟨r', rfl, hm, -, -, k3⟩
      refine ⟨rfl, ?_⟩
      obtain ⟨er, hz⟩ := fin 1 r r' M1 M2 hx hx3 hm
      subst er
      have hz := fin_name3 hR hX hz hx hm k1 k2 k3
      refine d_rng (by simp only [clo, chi, cE2, sev, svl, cen, List.cons_append, List.nil_append]; omega) ?_
      exact d_cut [((i + 7 : Nat) : Int)] (by simp [cE2, sev, svl, cen] <;> omega) ⟨rfl, rfl, hz⟩
set_option maxHeartbeats 4000000 in
theorem lw4 (hp : cPl tm tc tf EX) (hB : sBu EX l dC dI cA ad) (hI : sI tg M) (hR : Rs M) (hX : sX M) (h3 : M 3 0 1 = (n : Int)) (h1 : M 1 0 2 = (n : Int)) (h9 : n ≤ 1000) (hL : M 108 0 0 = (L : Int)) (hi : i + 7 ≤ L) (hL9 : L ≤ 3584) : cden (lE EX l dC dI cA ad) (fun _ _ => False) (fun pc v M2 => pc = 23 ∧ v = [((i + 7 : Nat) : Int)] ∧ Rqs M M2) 100 lS4 [(i : Int)] M := by
  have hl : M 3 0 1 = M 1 0 2 := by rw [h3, h1]
  refine d_rng (by simp only [clo, chi, cE2, sev, svl, cen, List.cons_append, List.nil_append]; omega) ?_
  refine d_scr (i + 1) (by simp only [cE2, sev, svl, cen, List.cons_append, List.nil_append]; omega) (by rw [hL]; omega) ?_
  refine d_rng (by simp only [clo, chi, cE2, sev, svl, cen, List.cons_append, List.nil_append]; omega) ?_
  refine d_scr (i + 2) (by simp only [cE2, sev, svl, cen, List.cons_append, List.nil_append]; omega) (by rw [hL]; omega) ?_
  refine d_rng (by simp only [clo, chi, cE2, sev, svl, cen, List.cons_append, List.nil_append]; omega) ?_
  refine d_scr (i + 3) (by simp only [cE2, sev, svl, cen, List.cons_append, List.nil_append]; omega) (by rw [hL]; omega) ?_
  refine d_rng (by simp only [clo, chi, cE2, sev, svl, cen, List.cons_append, List.nil_append]; omega) ?_
  refine d_scr (i + 4) (by simp only [cE2, sev, svl, cen, List.cons_append, List.nil_append]; omega) (by rw [hL]; omega) ?_
  refine d_rng (by simp only [clo, chi, cE2, sev, svl, cen, List.cons_append, List.nil_append]; omega) ?_
  refine d_scr (i + 5) (by simp only [cE2, sev, svl, cen, List.cons_append, List.nil_append]; omega) (by rw [hL]; omega) ?_
  refine d_call ⟨b_place2 (d := 29) hp (a := M 107 0 (i + 1)) (s := M 107 0 (i + 2)) (hh := M 107 0 (i + 3)) (o := M 107 0 (i + 4)) (g := M 107 0 (i + 5)) hI, fun rr M9 q => ?_⟩ (by simp [cAs, cE2, sev, svl, cen]) ?_
  · obtain ⟨r, -, q⟩ := xPlX_of q
    exact ⟨fun k => xPlX_fr q 107 0 k (by decide), xPlX_fr q 108 0 0 (by decide)⟩
  intro rr M1 q
  obtain ⟨r, rfl, hx⟩ := xPlX_of q
  refine ⟨rfl, ?_⟩
  have fr := xPlX_fr hx
  have hL1 : M1 108 0 0 = (L : Int) := by rw [fr 108 0 0 (by decide), hL]
  have e107 : M1 107 0 = M 107 0 := by
    funext k
    exact fr 107 0 k (by decide)
  refine d_rng (by simp only [clo, chi, cE2, sev, svl, cen, List.cons_append, List.nil_append]; omega) ?_
  refine d_scr (i + 1) (by simp only [cE2, sev, svl, cen, List.cons_append, List.nil_append]; omega) (by rw [hL1]; omega) ?_
  refine d_rng (by simp only [clo, chi, cE2, sev, svl, cen, List.cons_append, List.nil_append]; omega) ?_
  refine d_scr (i + 2) (by simp only [cE2, sev, svl, cen, List.cons_append, List.nil_append]; omega) (by rw [hL1]; omega) ?_
  refine d_rng (by simp only [clo, chi, cE2, sev, svl, cen, List.cons_append, List.nil_append]; omega) ?_
  refine d_scr (i + 3) (by simp only [cE2, sev, svl, cen, List.cons_append, List.nil_append]; omega) (by rw [hL1]; omega) ?_
  refine d_rng (by simp only [clo, chi, cE2, sev, svl, cen, List.cons_append, List.nil_append]; omega) ?_
  refine d_scr (i + 4) (by simp only [cE2, sev, svl, cen, List.cons_append, List.nil_append]; omega) (by rw [hL1]; omega) ?_
  refine d_rng (by simp only [clo, chi, cE2, sev, svl, cen, List.cons_append, List.nil_append]; omega) ?_
  refine d_scr (i + 5) (by simp only [cE2, sev, svl, cen, List.cons_append, List.nil_append]; omega) (by rw [hL1]; omega) ?_
  rw [e107]
  refine d_call ⟨m_place (d := 30) hp (a := M 107 0 (i + 1)) (s := M 107 0 (i + 2)) (hh := M 107 0 (i + 3)) (o := M 107 0 (i + 4)) (g := M 107 0 (i + 5)), fun rr M9 q => ?_⟩ (by simp [cAs, cE2, sev, svl, cen]) ?_
  · obtain ⟨r, -, q⟩ := wPlM_of q
    exact ⟨fun k => wPlM_fr q 107 0 k (by decide), wPlM_fr q 108 0 0 (by decide)⟩
  intro rr M2 q
  obtain ⟨r', rfl, hm⟩ := wPlM_of q
  refine ⟨rfl, ?_⟩
  obtain ⟨er, hz⟩ := fin_place3 hR hX hl hx hm
  refine d_rng (by simp only [clo, chi, cE2, sev, svl, cen, List.cons_append, List.nil_append]; omega) ?_
  exact d_cut [((i + 7 : Nat) : Int)] (by simp [cE2, sev, svl, cen] <;> omega) ⟨rfl, rfl, hz⟩
set_option maxHeartbeats 4000000 in
theorem lw5 (hp : cPl tm tc tf EX) (hB : sBu EX l dC dI cA ad) (hI : sI tg M) (hR : Rs M) (hX : sX M) (h3 : M 3 0 1 = (n : Int)) (h1 : M 1 0 2 = (n : Int)) (h9 : n ≤ 1000) (hL : M 108 0 0 = (L : Int)) (hi : i + 7 ≤ L) (hL9 : L ≤ 3584) : cden (lE EX l dC dI cA ad) (fun _ _ => False) (fun pc v M2 => pc = 23 ∧ v = [((i + 7 : Nat) : Int)] ∧ Rqs M M2) 100 lS5 [(i : Int)] M := by
  have hl : M 3 0 1 = M 1 0 2 := by rw [h3, h1]
  refine d_rng (by simp only [clo, chi, cE2, sev, svl, cen, List.cons_append, List.nil_append]; omega) ?_
  refine d_scr (i + 1) (by simp only [cE2, sev, svl, cen, List.cons_append, List.nil_append]; omega) (by rw [hL]; omega) ?_
  refine d_rng (by simp only [clo, chi, cE2, sev, svl, cen, List.cons_append, List.nil_append]; omega) ?_
  refine d_scr (i + 2) (by simp only [cE2, sev, svl, cen, List.cons_append, List.nil_append]; omega) (by rw [hL]; omega) ?_
  refine d_rng (by simp only [clo, chi, cE2, sev, svl, cen, List.cons_append, List.nil_append]; omega) ?_
  refine d_scr (i + 3) (by simp only [cE2, sev, svl, cen, List.cons_append, List.nil_append]; omega) (by rw [hL]; omega) ?_
  refine d_rng (by simp only [clo, chi, cE2, sev, svl, cen, List.cons_append, List.nil_append]; omega) ?_
  refine d_scr (i + 4) (by simp only [cE2, sev, svl, cen, List.cons_append, List.nil_append]; omega) (by rw [hL]; omega) ?_
  refine d_call ⟨b_cut2 (d := 29) hp (a := M 107 0 (i + 1)) (hd := M 107 0 (i + 2)) (dv := M 107 0 (i + 3)) (n := M 107 0 (i + 4)) (sz := (M 64 (M 107 0 (i + 1)).toNat 5).toNat) hI (wSzX hI _), fun rr M9 q => ?_⟩ (by simp [cAs, cE2, sev, svl, cen]) ?_
  · obtain ⟨r, -, q⟩ := xCuX_of q
    exact ⟨fun k => xCuX_fr q 107 0 k (by decide), xCuX_fr q 108 0 0 (by decide)⟩
  intro rr M1 q
  obtain ⟨r, rfl, hx⟩ := xCuX_of q
  refine ⟨rfl, ?_⟩
  have fr := xCuX_fr hx
  have hL1 : M1 108 0 0 = (L : Int) := by rw [fr 108 0 0 (by decide), hL]
  have e107 : M1 107 0 = M 107 0 := by
    funext k
    exact fr 107 0 k (by decide)
  refine d_rng (by simp only [clo, chi, cE2, sev, svl, cen, List.cons_append, List.nil_append]; omega) ?_
  refine d_scr (i + 1) (by simp only [cE2, sev, svl, cen, List.cons_append, List.nil_append]; omega) (by rw [hL1]; omega) ?_
  refine d_rng (by simp only [clo, chi, cE2, sev, svl, cen, List.cons_append, List.nil_append]; omega) ?_
  refine d_scr (i + 2) (by simp only [cE2, sev, svl, cen, List.cons_append, List.nil_append]; omega) (by rw [hL1]; omega) ?_
  refine d_rng (by simp only [clo, chi, cE2, sev, svl, cen, List.cons_append, List.nil_append]; omega) ?_
  refine d_scr (i + 3) (by simp only [cE2, sev, svl, cen, List.cons_append, List.nil_append]; omega) (by rw [hL1]; omega) ?_
  refine d_rng (by simp only [clo, chi, cE2, sev, svl, cen, List.cons_append, List.nil_append]; omega) ?_
  refine d_scr (i + 4) (by simp only [cE2, sev, svl, cen, List.cons_append, List.nil_append]; omega) (by rw [hL1]; omega) ?_
  rw [e107]
  have i1 : sI tg M1 := hx.1.1
  have e27 : M1 27 = M 27 := by
    funext j k
    exact fr 27 j k (by decide)
  have hX1 : sX M1 := sX_congr (by funext j k; exact fr 29 j k (by decide)) e27 (by funext j k; exact fr 50 j k (by decide)) hX
  have hx2 : ∀ k, 0 ≤ M 107 0 (i + 1) → (M 27 0 (M 107 0 (i + 1)).toNat).toNat ≠ 0 → k + 1 = 6 * (M 107 0 (i + 1)).toNat + (M 27 0 (M 107 0 (i + 1)).toNat).toNat → (M1 29 0 k = 1 ∨ M1 29 0 k = 2) → 2 ≤ (M 27 0 (M 107 0 (i + 1)).toNat).toNat := by
    intro k _ z1 z2 z3
    have w := hX1.1 k
    have b6 := wIb (f := 27) (i := (M 107 0 (i + 1)).toNat) (lo := 0) (hi := 6) hI 0 rfl
    rcases Nat.lt_or_ge (M 27 0 (M 107 0 (i + 1)).toNat).toNat 2 with z4 | z4
    · rw [show k % 6 = 0 by omega] at w
      unfold sD1 at w
      omega
    · exact z4
  refine d_call ⟨m_cut (d := 29) hp (a := M 107 0 (i + 1)) (hd := M 107 0 (i + 2)) (dv := M 107 0 (i + 3)) (n := M 107 0 (i + 4)) (sz := (M 27 0 (M 107 0 (i + 1)).toNat).toNat) i1 (by rw [e27]; exact wSz hI _) hx2, fun rr M9 q => ?_⟩ (by simp [cAs, cE2, sev, svl, cen]) ?_
  · obtain ⟨r, -, q⟩ := wCuM_of q
    exact ⟨fun k => wCuM_fr q 107 0 k (by decide), wCuM_fr q 108 0 0 (by decide)⟩
  intro rr M2 q
  obtain ⟨r', rfl, hm⟩ := wCuM_of q
  refine ⟨rfl, ?_⟩
  obtain ⟨er, hz⟩ := fin_cut3 hI hR hX hl hx hm
  refine d_rng (by simp only [clo, chi, cE2, sev, svl, cen, List.cons_append, List.nil_append]; omega) ?_
  exact d_cut [((i + 7 : Nat) : Int)] (by simp [cE2, sev, svl, cen] <;> omega) ⟨rfl, rfl, hz⟩
set_option maxHeartbeats 4000000 in
theorem lw6 (hp : cPl tm tc tf EX) (hB : sBu EX l dC dI cA ad) (hI : sI tg M) (hR : Rs M) (hX : sX M) (h3 : M 3 0 1 = (n : Int)) (h1 : M 1 0 2 = (n : Int)) (h9 : n ≤ 1000) (hL : M 108 0 0 = (L : Int)) (hi : i + 7 ≤ L) (hL9 : L ≤ 3584) : cden (lE EX l dC dI cA ad) (fun _ _ => False) (fun pc v M2 => pc = 23 ∧ v = [((i + 7 : Nat) : Int)] ∧ Rqs M M2) 100 lS6 [(i : Int)] M := by
  have hl : M 3 0 1 = M 1 0 2 := by rw [h3, h1]
  refine d_rng (by simp only [clo, chi, cE2, sev, svl, cen, List.cons_append, List.nil_append]; omega) ?_
  refine d_scr (i + 1) (by simp only [cE2, sev, svl, cen, List.cons_append, List.nil_append]; omega) (by rw [hL]; omega) ?_
  refine d_call ⟨b_clean2 (d := 29) hp (a := M 107 0 (i + 1)) (sz := (M 64 (M 107 0 (i + 1)).toNat 5).toNat) hI (wSzX hI _), fun rr M9 q => ?_⟩ (by simp [cAs, cE2, sev, svl, cen]) ?_
  · obtain ⟨r, -, q⟩ := xClX_of q
    exact ⟨fun k => xClX_fr q 107 0 k (by decide), xClX_fr q 108 0 0 (by decide)⟩
  intro rr M1 q
  obtain ⟨r, rfl, hx⟩ := xClX_of q
  refine ⟨rfl, ?_⟩
  have fr := xClX_fr hx
  have hL1 : M1 108 0 0 = (L : Int) := by rw [fr 108 0 0 (by decide), hL]
  have e107 : M1 107 0 = M 107 0 := by
    funext k
    exact fr 107 0 k (by decide)
  refine d_rng (by simp only [clo, chi, cE2, sev, svl, cen, List.cons_append, List.nil_append]; omega) ?_
  refine d_scr (i + 1) (by simp only [cE2, sev, svl, cen, List.cons_append, List.nil_append]; omega) (by rw [hL1]; omega) ?_
  rw [e107]
  have i1 : sI tg M1 := hx.1.1
  have e27 : M1 27 = M 27 := by
    funext j k
    exact fr 27 j k (by decide)
  refine d_call ⟨m_clean (d := 29) hp (a := M 107 0 (i + 1)) (sz := (M 27 0 (M 107 0 (i + 1)).toNat).toNat) i1 (by rw [e27]; exact wSz hI _), fun rr M9 q => ?_⟩ (by simp [cAs, cE2, sev, svl, cen]) ?_
  · obtain ⟨r, -, q⟩ := wClM_of q
    exact ⟨fun k => wClM_fr q 107 0 k (by decide), wClM_fr q 108 0 0 (by decide)⟩
  intro rr M2 q
  obtain ⟨r', rfl, hm⟩ := wClM_of q
  refine ⟨rfl, ?_⟩
  obtain ⟨er, hz⟩ := fin_clean3 hI hR hX hl hx hm
  refine d_rng (by simp only [clo, chi, cE2, sev, svl, cen, List.cons_append, List.nil_append]; omega) ?_
  exact d_cut [((i + 7 : Nat) : Int)] (by simp [cE2, sev, svl, cen] <;> omega) ⟨rfl, rfl, hz⟩
set_option maxHeartbeats 4000000 in
theorem lw7 (hp : cPl tm tc tf EX) (hB : sBu EX l dC dI cA ad) (hI : sI tg M) (hR : Rs M) (hX : sX M) (h3 : M 3 0 1 = (n : Int)) (h1 : M 1 0 2 = (n : Int)) (h9 : n ≤ 1000) (hL : M 108 0 0 = (L : Int)) (hi : i + 7 ≤ L) (hL9 : L ≤ 3584) : cden (lE EX l dC dI cA ad) (fun _ _ => False) (fun pc v M2 => pc = 23 ∧ v = [((i + 7 : Nat) : Int)] ∧ Rqs M M2) 100 lS7 [(i : Int)] M := by
  have hl : M 3 0 1 = M 1 0 2 := by rw [h3, h1]
  refine d_rng (by simp only [clo, chi, cE2, sev, svl, cen, List.cons_append, List.nil_append]; omega) ?_
  refine d_scr (i + 1) (by simp only [cE2, sev, svl, cen, List.cons_append, List.nil_append]; omega) (by rw [hL]; omega) ?_
  refine d_rng (by simp only [clo, chi, cE2, sev, svl, cen, List.cons_append, List.nil_append]; omega) ?_
  refine d_scr (i + 2) (by simp only [cE2, sev, svl, cen, List.cons_append, List.nil_append]; omega) (by rw [hL]; omega) ?_
  refine d_call ⟨b_traces2 (d := 26) hp (a := M 107 0 (i + 1)) (b := M 107 0 (i + 2)) hI h3 h9, fun rr M9 q => ?_⟩ (by simp [cAs, cE2, sev, svl, cen]) ?_
  · obtain ⟨r, -, q⟩ := (show ∃ r : Int, rr = [r] ∧ xTcX M n (M 107 0 (i + 1)) (M 107 0 (i + 2)) r M9 from xTcX_of q)
    exact ⟨fun k => xTcX_fr q 107 0 k (by decide), xTcX_fr q 108 0 0 (by decide)⟩
  intro rr M1 q
  obtain ⟨r, rfl, hx⟩ := (show ∃ r : Int, rr = [r] ∧ xTcX M n (M 107 0 (i + 1)) (M 107 0 (i + 2)) r M1 from xTcX_of q)
  refine ⟨rfl, ?_⟩
  have fr := xTcX_fr hx
  have hL1 : M1 108 0 0 = (L : Int) := by rw [fr 108 0 0 (by decide), hL]
  have e107 : M1 107 0 = M 107 0 := by
    funext k
    exact fr 107 0 k (by decide)
  refine d_rng (by simp only [clo, chi, cE2, sev, svl, cen, List.cons_append, List.nil_append]; omega) ?_
  refine d_scr (i + 1) (by simp only [cE2, sev, svl, cen, List.cons_append, List.nil_append]; omega) (by rw [hL1]; omega) ?_
  refine d_rng (by simp only [clo, chi, cE2, sev, svl, cen, List.cons_append, List.nil_append]; omega) ?_
  refine d_scr (i + 2) (by simp only [cE2, sev, svl, cen, List.cons_append, List.nil_append]; omega) (by rw [hL1]; omega) ?_
  rw [e107]
  have i1 : sI tg M1 := hx.1.1
  refine d_call ⟨m_traces2 (d := 27) hp (a := M 107 0 (i + 1)) (b := M 107 0 (i + 2)) i1 (by rw [fr 1 0 2 (by decide)]; exact h1) h9, fun rr M9 q => ?_⟩ (by simp [cAs, cE2, sev, svl, cen]) ?_
  · obtain ⟨r, -, q⟩ := (show ∃ r : Int, rr = [r] ∧ xTcM M1 n (M 107 0 (i + 1)) (M 107 0 (i + 2)) r M9 from xTcM_of q)
    exact ⟨fun k => xTcM_fr q 107 0 k (by decide), xTcM_fr q 108 0 0 (by decide)⟩
  intro rr M2 q
  obtain ⟨r', rfl, hm⟩ := (show ∃ r : Int, rr = [r] ∧ xTcM M1 n (M 107 0 (i + 1)) (M 107 0 (i + 2)) r M2 from xTcM_of q)
  refine ⟨rfl, ?_⟩
  obtain ⟨er, hz⟩ := fin_traces3 hI hR hX hx hm
  refine d_rng (by simp only [clo, chi, cE2, sev, svl, cen, List.cons_append, List.nil_append]; omega) ?_
  exact d_cut [((i + 7 : Nat) : Int)] (by simp [cE2, sev, svl, cen] <;> omega) ⟨rfl, rfl, hz⟩
set_option maxHeartbeats 4000000 in
theorem lw11 (hp : cPl tm tc tf EX) (hB : sBu EX l dC dI cA ad) (hI : sI tg M) (hR : Rs M) (hX : sX M) (h3 : M 3 0 1 = (n : Int)) (h1 : M 1 0 2 = (n : Int)) (h9 : n ≤ 1000) (hL : M 108 0 0 = (L : Int)) (hi : i + 7 ≤ L) (hL9 : L ≤ 3584) : cden (lE EX l dC dI cA ad) (fun _ _ => False) (fun pc v M2 => pc = 23 ∧ v = [((i + 7 : Nat) : Int)] ∧ Rqs M M2) 100 lS11 [(i : Int)] M := by
  have hl : M 3 0 1 = M 1 0 2 := by rw [h3, h1]
  refine d_rng (by simp only [clo, chi, cE2, sev, svl, cen, List.cons_append, List.nil_append]; omega) ?_
  refine d_scr (i + 1) (by simp only [cE2, sev, svl, cen, List.cons_append, List.nil_append]; omega) (by rw [hL]; omega) ?_
  refine d_rng (by simp only [clo, chi, cE2, sev, svl, cen, List.cons_append, List.nil_append]; omega) ?_
  refine d_scr (i + 2) (by simp only [cE2, sev, svl, cen, List.cons_append, List.nil_append]; omega) (by rw [hL]; omega) ?_
  refine d_call ⟨b_dated2 (d := 30) hp (a := M 107 0 (i + 1)) (x := M 107 0 (i + 2)), fun rr M9 q => ⟨fun k => (datX_fr q).2 107 0 k (by decide) (by decide), (datX_fr q).2 108 0 0 (by decide) (by decide)⟩⟩ (by simp [cAs, cE2, sev, svl, cen]) ?_
  intro rr M1 hx
  obtain ⟨⟨r, er⟩, fr⟩ := datX_fr hx
  subst er
  refine ⟨rfl, ?_⟩
  have hL1 : M1 108 0 0 = (L : Int) := by rw [fr 108 0 0 (by decide) (by decide), hL]
  have e107 : M1 107 0 = M 107 0 := by
    funext k
    exact fr 107 0 k (by decide) (by decide)
  refine d_rng (by simp only [clo, chi, cE2, sev, svl, cen, List.cons_append, List.nil_append]; omega) ?_
  refine d_scr (i + 1) (by simp only [cE2, sev, svl, cen, List.cons_append, List.nil_append]; omega) (by rw [hL1]; omega) ?_
  refine d_rng (by simp only [clo, chi, cE2, sev, svl, cen, List.cons_append, List.nil_append]; omega) ?_
  refine d_scr (i + 2) (by simp only [cE2, sev, svl, cen, List.cons_append, List.nil_append]; omega) (by rw [hL1]; omega) ?_
  rw [e107]
  refine d_call ⟨m_dated (d := 30) hp (a := M 107 0 (i + 1)) (x := M 107 0 (i + 2)), fun rr M9 q => ⟨fun k => (datM_fr q).2 107 0 k (by decide) (by decide), (datM_fr q).2 108 0 0 (by decide) (by decide)⟩⟩ (by simp [cAs, cE2, sev, svl, cen]) ?_
  intro rr M2 hm
  obtain ⟨⟨r', er⟩, -⟩ := datM_fr hm
  subst er
  refine ⟨rfl, ?_⟩
  obtain ⟨-, hz⟩ := fin_dated hI hX hl hR hx hm
  refine d_rng (by simp only [clo, chi, cE2, sev, svl, cen, List.cons_append, List.nil_append]; omega) ?_
  exact d_cut [((i + 7 : Nat) : Int)] (by simp [cE2, sev, svl, cen] <;> omega) ⟨rfl, rfl, hz⟩
set_option maxHeartbeats 4000000 in
theorem lw12 (hp : cPl tm tc tf EX) (hB : sBu EX l dC dI cA ad) (hI : sI tg M) (hR : Rs M) (hX : sX M) (h3 : M 3 0 1 = (n : Int)) (h1 : M 1 0 2 = (n : Int)) (h9 : n ≤ 1000) (hL : M 108 0 0 = (L : Int)) (hi : i + 7 ≤ L) (hL9 : L ≤ 3584) : cden (lE EX l dC dI cA ad) (fun _ _ => False) (fun pc v M2 => pc = 23 ∧ v = [((i + 7 : Nat) : Int)] ∧ Rqs M M2) 100 lS12 [(i : Int)] M := by
  have hl : M 3 0 1 = M 1 0 2 := by rw [h3, h1]
  refine d_rng (by simp only [clo, chi, cE2, sev, svl, cen, List.cons_append, List.nil_append]; omega) ?_
  refine d_scr (i + 1) (by simp only [cE2, sev, svl, cen, List.cons_append, List.nil_append]; omega) (by rw [hL]; omega) ?_
  refine d_call ⟨b_storiesX (d := 22) hp (w := M 107 0 (i + 1)) hI (sWf_of hI hR.1 hX) hR.2.2.1, fun rr M9 q => ⟨fun k => q.1.2.2.2 107 0 k (by decide) (by decide), q.1.2.2.2 108 0 0 (by decide) (by decide)⟩⟩ (by simp [cAs, cE2, sev, svl, cen]) ?_
  rintro rr M1 ⟨kx, r, rfl, hx⟩
  refine ⟨rfl, ?_⟩
  have fr := kx.2.2.2
  obtain ⟨i1, x1, zw, zm, e33, km⟩ := Rs_mid hI hX hR kx
  have hL1 : M1 108 0 0 = (L : Int) := by rw [fr 108 0 0 (by decide) (by decide), hL]
  have e107 : M1 107 0 = M 107 0 := by
    funext k
    exact fr 107 0 k (by decide) (by decide)
  refine d_rng (by simp only [clo, chi, cE2, sev, svl, cen, List.cons_append, List.nil_append]; omega) ?_
  refine d_scr (i + 1) (by simp only [cE2, sev, svl, cen, List.cons_append, List.nil_append]; omega) (by rw [hL1]; omega) ?_
  rw [e107]
  refine d_call ⟨m_stories (d := 14) hp (Z := sZ M) (dt := M 6 0) (w := M 107 0 (i + 1)) i1 x1 zw zm e33 km, fun rr M9 q => ⟨fun k => q.1.2.1 107 0 k (by decide) (by decide) (by decide) (by omega), q.1.2.1 108 0 0 (by decide) (by decide) (by decide) (by omega)⟩⟩ (by simp [cAs, cE2, sev, svl, cen]) ?_
  rintro rr M2 ⟨k2, r', rfl, hm⟩
  refine ⟨rfl, ?_⟩
  have hz := Rs_ask hX hl hR kx (sRD_of k2)
  refine d_rng (by simp only [clo, chi, cE2, sev, svl, cen, List.cons_append, List.nil_append]; omega) ?_
  exact d_cut [((i + 7 : Nat) : Int)] (by simp [cE2, sev, svl, cen] <;> omega) ⟨rfl, rfl, hz⟩
set_option maxHeartbeats 4000000 in
theorem lw13 (hp : cPl tm tc tf EX) (hB : sBu EX l dC dI cA ad) (hI : sI tg M) (hR : Rs M) (hX : sX M) (h3 : M 3 0 1 = (n : Int)) (h1 : M 1 0 2 = (n : Int)) (h9 : n ≤ 1000) (hL : M 108 0 0 = (L : Int)) (hi : i + 7 ≤ L) (hL9 : L ≤ 3584) : cden (lE EX l dC dI cA ad) (fun _ _ => False) (fun pc v M2 => pc = 23 ∧ v = [((i + 7 : Nat) : Int)] ∧ Rqs M M2) 100 lS13 [(i : Int)] M := by
  have hl : M 3 0 1 = M 1 0 2 := by rw [h3, h1]
  refine d_rng (by simp only [clo, chi, cE2, sev, svl, cen, List.cons_append, List.nil_append]; omega) ?_
  refine d_scr (i + 1) (by simp only [cE2, sev, svl, cen, List.cons_append, List.nil_append]; omega) (by rw [hL]; omega) ?_
  refine d_rng (by simp only [clo, chi, cE2, sev, svl, cen, List.cons_append, List.nil_append]; omega) ?_
  refine d_scr (i + 2) (by simp only [cE2, sev, svl, cen, List.cons_append, List.nil_append]; omega) (by rw [hL]; omega) ?_
  refine d_call ⟨b_storyX (d := 22) hp (k := M 107 0 (i + 1)) (a := M 107 0 (i + 2)) hI (sWf_of hI hR.1 hX) hR.2.2.1, fun rr M9 q => ⟨fun k => q.1.2.2.2 107 0 k (by decide) (by decide), q.1.2.2.2 108 0 0 (by decide) (by decide)⟩⟩ (by simp [cAs, cE2, sev, svl, cen]) ?_
  rintro rr M1 ⟨kx, r, rfl, hx⟩
  refine ⟨rfl, ?_⟩
  have fr := kx.2.2.2
  obtain ⟨i1, x1, zw, zm, e33, km⟩ := Rs_mid hI hX hR kx
  have hL1 : M1 108 0 0 = (L : Int) := by rw [fr 108 0 0 (by decide) (by decide), hL]
  have e107 : M1 107 0 = M 107 0 := by
    funext k
    exact fr 107 0 k (by decide) (by decide)
  refine d_rng (by simp only [clo, chi, cE2, sev, svl, cen, List.cons_append, List.nil_append]; omega) ?_
  refine d_scr (i + 1) (by simp only [cE2, sev, svl, cen, List.cons_append, List.nil_append]; omega) (by rw [hL1]; omega) ?_
  refine d_rng (by simp only [clo, chi, cE2, sev, svl, cen, List.cons_append, List.nil_append]; omega) ?_
  refine d_scr (i + 2) (by simp only [cE2, sev, svl, cen, List.cons_append, List.nil_append]; omega) (by rw [hL1]; omega) ?_
  rw [e107]
  refine d_call ⟨m_story (d := 14) hp (Z := sZ M) (dt := M 6 0) (k := M 107 0 (i + 1)) (a := M 107 0 (i + 2)) i1 x1 zw zm e33 km, fun rr M9 q => ⟨fun k => q.1.2.1 107 0 k (by decide) (by decide) (by decide) (by omega), q.1.2.1 108 0 0 (by decide) (by decide) (by decide) (by omega)⟩⟩ (by simp [cAs, cE2, sev, svl, cen]) ?_
  rintro rr M2 ⟨k2, r', rfl, hm⟩
  refine ⟨rfl, ?_⟩
  have hz := Rs_ask hX hl hR kx (sRD_of k2)
  refine d_rng (by simp only [clo, chi, cE2, sev, svl, cen, List.cons_append, List.nil_append]; omega) ?_
  exact d_cut [((i + 7 : Nat) : Int)] (by simp [cE2, sev, svl, cen] <;> omega) ⟨rfl, rfl, hz⟩
set_option maxHeartbeats 4000000 in
theorem lw14 (hp : cPl tm tc tf EX) (hB : sBu EX l dC dI cA ad) (hI : sI tg M) (hR : Rs M) (hX : sX M) (h3 : M 3 0 1 = (n : Int)) (h1 : M 1 0 2 = (n : Int)) (h9 : n ≤ 1000) (hL : M 108 0 0 = (L : Int)) (hi : i + 7 ≤ L) (hL9 : L ≤ 3584) : cden (lE EX l dC dI cA ad) (fun _ _ => False) (fun pc v M2 => pc = 23 ∧ v = [((i + 7 : Nat) : Int)] ∧ Rqs M M2) 100 lS14 [(i : Int)] M := by
  have hl : M 3 0 1 = M 1 0 2 := by rw [h3, h1]
  refine d_rng (by simp only [clo, chi, cE2, sev, svl, cen, List.cons_append, List.nil_append]; omega) ?_
  refine d_scr (i + 1) (by simp only [cE2, sev, svl, cen, List.cons_append, List.nil_append]; omega) (by rw [hL]; omega) ?_
  refine d_rng (by simp only [clo, chi, cE2, sev, svl, cen, List.cons_append, List.nil_append]; omega) ?_
  refine d_scr (i + 2) (by simp only [cE2, sev, svl, cen, List.cons_append, List.nil_append]; omega) (by rw [hL]; omega) ?_
  refine d_call ⟨b_oddsX (d := 22) hp (a := M 107 0 (i + 1)) (x := M 107 0 (i + 2)) hI (sWf_of hI hR.1 hX) hR.2.2.1, fun rr M9 q => ⟨fun k => q.1.2.2.2 107 0 k (by decide) (by decide), q.1.2.2.2 108 0 0 (by decide) (by decide)⟩⟩ (by simp [cAs, cE2, sev, svl, cen]) ?_
  rintro rr M1 ⟨kx, r, rfl, hx⟩
  refine ⟨rfl, ?_⟩
  have fr := kx.2.2.2
  obtain ⟨i1, x1, zw, zm, e33, km⟩ := Rs_mid hI hX hR kx
  have hL1 : M1 108 0 0 = (L : Int) := by rw [fr 108 0 0 (by decide) (by decide), hL]
  have e107 : M1 107 0 = M 107 0 := by
    funext k
    exact fr 107 0 k (by decide) (by decide)
  refine d_rng (by simp only [clo, chi, cE2, sev, svl, cen, List.cons_append, List.nil_append]; omega) ?_
  refine d_scr (i + 1) (by simp only [cE2, sev, svl, cen, List.cons_append, List.nil_append]; omega) (by rw [hL1]; omega) ?_
  refine d_rng (by simp only [clo, chi, cE2, sev, svl, cen, List.cons_append, List.nil_append]; omega) ?_
  refine d_scr (i + 2) (by simp only [cE2, sev, svl, cen, List.cons_append, List.nil_append]; omega) (by rw [hL1]; omega) ?_
  rw [e107]
  refine d_call ⟨m_odds (d := 14) hp (Z := sZ M) (dt := M 6 0) (a := M 107 0 (i + 1)) (x := M 107 0 (i + 2)) i1 x1 zw zm e33 km, fun rr M9 q => ⟨fun k => q.1.2.1 107 0 k (by decide) (by decide) (by decide) (by omega), q.1.2.1 108 0 0 (by decide) (by decide) (by decide) (by omega)⟩⟩ (by simp [cAs, cE2, sev, svl, cen]) ?_
  rintro rr M2 ⟨k2, r', rfl, hm⟩
  refine ⟨rfl, ?_⟩
  have hz := Rs_ask hX hl hR kx (sRD_of k2)
  refine d_rng (by simp only [clo, chi, cE2, sev, svl, cen, List.cons_append, List.nil_append]; omega) ?_
  exact d_cut [((i + 7 : Nat) : Int)] (by simp [cE2, sev, svl, cen] <;> omega) ⟨rfl, rfl, hz⟩
set_option maxHeartbeats 4000000 in
theorem lw15 (hp : cPl tm tc tf EX) (hB : sBu EX l dC dI cA ad) (hI : sI tg M) (hR : Rs M) (hX : sX M) (h3 : M 3 0 1 = (n : Int)) (h1 : M 1 0 2 = (n : Int)) (h9 : n ≤ 1000) (hL : M 108 0 0 = (L : Int)) (hi : i + 7 ≤ L) (hL9 : L ≤ 3584) : cden (lE EX l dC dI cA ad) (fun _ _ => False) (fun pc v M2 => pc = 23 ∧ v = [((i + 7 : Nat) : Int)] ∧ Rqs M M2) 100 lS15 [(i : Int)] M := by
  have hl : M 3 0 1 = M 1 0 2 := by rw [h3, h1]
  refine d_rng (by simp only [clo, chi, cE2, sev, svl, cen, List.cons_append, List.nil_append]; omega) ?_
  refine d_scr (i + 1) (by simp only [cE2, sev, svl, cen, List.cons_append, List.nil_append]; omega) (by rw [hL]; omega) ?_
  refine d_rng (by simp only [clo, chi, cE2, sev, svl, cen, List.cons_append, List.nil_append]; omega) ?_
  refine d_scr (i + 2) (by simp only [cE2, sev, svl, cen, List.cons_append, List.nil_append]; omega) (by rw [hL]; omega) ?_
  refine d_call ⟨b_betweenX (d := 22) hp (a := M 107 0 (i + 1)) (b := M 107 0 (i + 2)) hI (sWf_of hI hR.1 hX) hR.2.2.1, fun rr M9 q => ⟨fun k => q.1.2.2.2 107 0 k (by decide) (by decide), q.1.2.2.2 108 0 0 (by decide) (by decide)⟩⟩ (by simp [cAs, cE2, sev, svl, cen]) ?_
  rintro rr M1 ⟨kx, r, rfl, hx⟩
  refine ⟨rfl, ?_⟩
  have fr := kx.2.2.2
  obtain ⟨i1, x1, zw, zm, e33, km⟩ := Rs_mid hI hX hR kx
  have hL1 : M1 108 0 0 = (L : Int) := by rw [fr 108 0 0 (by decide) (by decide), hL]
  have e107 : M1 107 0 = M 107 0 := by
    funext k
    exact fr 107 0 k (by decide) (by decide)
  refine d_rng (by simp only [clo, chi, cE2, sev, svl, cen, List.cons_append, List.nil_append]; omega) ?_
  refine d_scr (i + 1) (by simp only [cE2, sev, svl, cen, List.cons_append, List.nil_append]; omega) (by rw [hL1]; omega) ?_
  refine d_rng (by simp only [clo, chi, cE2, sev, svl, cen, List.cons_append, List.nil_append]; omega) ?_
  refine d_scr (i + 2) (by simp only [cE2, sev, svl, cen, List.cons_append, List.nil_append]; omega) (by rw [hL1]; omega) ?_
  rw [e107]
  refine d_call ⟨m_between (d := 14) hp (Z := sZ M) (dt := M 6 0) (a := M 107 0 (i + 1)) (b := M 107 0 (i + 2)) i1 x1 zw zm e33 km, fun rr M9 q => ⟨fun k => q.1.2.1 107 0 k (by decide) (by decide) (by decide) (by omega), q.1.2.1 108 0 0 (by decide) (by decide) (by decide) (by omega)⟩⟩ (by simp [cAs, cE2, sev, svl, cen]) ?_
  rintro rr M2 ⟨k2, r', rfl, hm⟩
  refine ⟨rfl, ?_⟩
  have hz := Rs_ask hX hl hR kx (sRD_of k2)
  refine d_rng (by simp only [clo, chi, cE2, sev, svl, cen, List.cons_append, List.nil_append]; omega) ?_
  exact d_cut [((i + 7 : Nat) : Int)] (by simp [cE2, sev, svl, cen] <;> omega) ⟨rfl, rfl, hz⟩
set_option maxHeartbeats 4000000 in
theorem lw16 (hp : cPl tm tc tf EX) (hB : sBu EX l dC dI cA ad) (hI : sI tg M) (hR : Rs M) (hX : sX M) (h3 : M 3 0 1 = (n : Int)) (h1 : M 1 0 2 = (n : Int)) (h9 : n ≤ 1000) (hL : M 108 0 0 = (L : Int)) (hi : i + 7 ≤ L) (hL9 : L ≤ 3584) : cden (lE EX l dC dI cA ad) (fun _ _ => False) (fun pc v M2 => pc = 23 ∧ v = [((i + 7 : Nat) : Int)] ∧ Rqs M M2) 100 lS16 [(i : Int)] M := by
  have hl : M 3 0 1 = M 1 0 2 := by rw [h3, h1]
  refine d_rng (by simp only [clo, chi, cE2, sev, svl, cen, List.cons_append, List.nil_append]; omega) ?_
  refine d_scr (i + 1) (by simp only [cE2, sev, svl, cen, List.cons_append, List.nil_append]; omega) (by rw [hL]; omega) ?_
  refine d_rng (by simp only [clo, chi, cE2, sev, svl, cen, List.cons_append, List.nil_append]; omega) ?_
  refine d_scr (i + 2) (by simp only [cE2, sev, svl, cen, List.cons_append, List.nil_append]; omega) (by rw [hL]; omega) ?_
  refine d_call ⟨b_stoodX (d := 22) hp (a := M 107 0 (i + 1)) (b := M 107 0 (i + 2)) hI (sWf_of hI hR.1 hX) hR.2.2.1, fun rr M9 q => ⟨fun k => q.1.2.2.2 107 0 k (by decide) (by decide), q.1.2.2.2 108 0 0 (by decide) (by decide)⟩⟩ (by simp [cAs, cE2, sev, svl, cen]) ?_
  rintro rr M1 ⟨kx, r, rfl, hx⟩
  refine ⟨rfl, ?_⟩
  have fr := kx.2.2.2
  obtain ⟨i1, x1, zw, zm, e33, km⟩ := Rs_mid hI hX hR kx
  have hL1 : M1 108 0 0 = (L : Int) := by rw [fr 108 0 0 (by decide) (by decide), hL]
  have e107 : M1 107 0 = M 107 0 := by
    funext k
    exact fr 107 0 k (by decide) (by decide)
  refine d_rng (by simp only [clo, chi, cE2, sev, svl, cen, List.cons_append, List.nil_append]; omega) ?_
  refine d_scr (i + 1) (by simp only [cE2, sev, svl, cen, List.cons_append, List.nil_append]; omega) (by rw [hL1]; omega) ?_
  refine d_rng (by simp only [clo, chi, cE2, sev, svl, cen, List.cons_append, List.nil_append]; omega) ?_
  refine d_scr (i + 2) (by simp only [cE2, sev, svl, cen, List.cons_append, List.nil_append]; omega) (by rw [hL1]; omega) ?_
  rw [e107]
  refine d_call ⟨m_stood (d := 14) hp (Z := sZ M) (dt := M 6 0) (a := M 107 0 (i + 1)) (b := M 107 0 (i + 2)) i1 x1 zw zm e33 km, fun rr M9 q => ⟨fun k => q.1.2.1 107 0 k (by decide) (by decide) (by decide) (by omega), q.1.2.1 108 0 0 (by decide) (by decide) (by decide) (by omega)⟩⟩ (by simp [cAs, cE2, sev, svl, cen]) ?_
  rintro rr M2 ⟨k2, r', rfl, hm⟩
  refine ⟨rfl, ?_⟩
  have hz := Rs_ask hX hl hR kx (sRD_of k2)
  refine d_rng (by simp only [clo, chi, cE2, sev, svl, cen, List.cons_append, List.nil_append]; omega) ?_
  exact d_cut [((i + 7 : Nat) : Int)] (by simp [cE2, sev, svl, cen] <;> omega) ⟨rfl, rfl, hz⟩
set_option maxHeartbeats 4000000 in
theorem lw17 (hp : cPl tm tc tf EX) (hB : sBu EX l dC dI cA ad) (hI : sI tg M) (hR : Rs M) (hX : sX M) (h3 : M 3 0 1 = (n : Int)) (h1 : M 1 0 2 = (n : Int)) (h9 : n ≤ 1000) (hL : M 108 0 0 = (L : Int)) (hi : i + 7 ≤ L) (hL9 : L ≤ 3584) : cden (lE EX l dC dI cA ad) (fun _ _ => False) (fun pc v M2 => pc = 23 ∧ v = [((i + 7 : Nat) : Int)] ∧ Rqs M M2) 100 lS17 [(i : Int)] M := by
  have hl : M 3 0 1 = M 1 0 2 := by rw [h3, h1]
  refine d_rng (by simp only [clo, chi, cE2, sev, svl, cen, List.cons_append, List.nil_append]; omega) ?_
  refine d_scr (i + 1) (by simp only [cE2, sev, svl, cen, List.cons_append, List.nil_append]; omega) (by rw [hL]; omega) ?_
  refine d_call ⟨b_nextX (d := 22) hp (w := M 107 0 (i + 1)) hI (sWf_of hI hR.1 hX) hR.2.2.1, fun rr M9 q => ⟨fun k => q.1.2.2.2 107 0 k (by decide) (by decide), q.1.2.2.2 108 0 0 (by decide) (by decide)⟩⟩ (by simp [cAs, cE2, sev, svl, cen]) ?_
  rintro rr M1 ⟨kx, r, rfl, hx⟩
  refine ⟨rfl, ?_⟩
  have fr := kx.2.2.2
  obtain ⟨i1, x1, zw, zm, e33, km⟩ := Rs_mid hI hX hR kx
  have hL1 : M1 108 0 0 = (L : Int) := by rw [fr 108 0 0 (by decide) (by decide), hL]
  have e107 : M1 107 0 = M 107 0 := by
    funext k
    exact fr 107 0 k (by decide) (by decide)
  refine d_rng (by simp only [clo, chi, cE2, sev, svl, cen, List.cons_append, List.nil_append]; omega) ?_
  refine d_scr (i + 1) (by simp only [cE2, sev, svl, cen, List.cons_append, List.nil_append]; omega) (by rw [hL1]; omega) ?_
  rw [e107]
  refine d_call ⟨m_next (d := 14) hp (Z := sZ M) (dt := M 6 0) (w := M 107 0 (i + 1)) i1 x1 zw zm e33 km, fun rr M9 q => ⟨fun k => q.1.2.1 107 0 k (by decide) (by decide) (by decide) (by omega), q.1.2.1 108 0 0 (by decide) (by decide) (by decide) (by omega)⟩⟩ (by simp [cAs, cE2, sev, svl, cen]) ?_
  rintro rr M2 ⟨k2, r', rfl, hm⟩
  refine ⟨rfl, ?_⟩
  have hz := Rs_ask hX hl hR kx (sRD_of k2)
  have er : r = r' := by
    have hm := hm _ _ rfl rfl
    revert hx hm
    generalize stN (stS (sZ M) (M 6 0)) (fun k => 0 < (stS (sZ M) (M 6 0)).length ∧ sBz (sZ M) k ∧ M 6 0 k = -1) 6 = N
    intro hx hm
    rcases hx with ⟨z, e⟩ | ⟨z, e⟩ <;> rcases hm with ⟨y, e'⟩ | ⟨y, e'⟩
    · exact e.trans e'.symm
    · exact absurd (show 0 ≤ M 107 0 (i + 1) ∧ M 107 0 (i + 1) < 2 by omega) z
    · have n1 : N = -1 := by omega
      rw [if_pos (Or.inl n1)] at e
      omega
    · by_cases w0 : M 107 0 (i + 1) = 0
      · rw [if_pos (Or.inr w0)] at e
        rw [if_pos w0] at e'
        exact e.trans e'.symm
      · have n2 : ¬ (N = -1 ∨ M 107 0 (i + 1) = 0) := fun q => q.elim y.2 w0
        rw [if_neg n2] at e
        rw [if_neg w0] at e'
        exact e.trans e'.symm
  refine d_br (fun h => ?_) (fun h => ?_)
  · refine d_rng (by simp only [clo, chi, cE2, sev, svl, cen, List.cons_append, List.nil_append]; omega) ?_
    exact d_cut [((i + 7 : Nat) : Int)] (by simp [cE2, sev, svl, cen] <;> omega) ⟨rfl, rfl, hz⟩
  · simp only [cCmp, cE2, sev, svl, cen, List.cons_append, List.nil_append] at h
    omega
set_option maxHeartbeats 4000000 in
theorem lw18 (hp : cPl tm tc tf EX) (hB : sBu EX l dC dI cA ad) (hI : sI tg M) (hR : Rs M) (hX : sX M) (h3 : M 3 0 1 = (n : Int)) (h1 : M 1 0 2 = (n : Int)) (h9 : n ≤ 1000) (hL : M 108 0 0 = (L : Int)) (hi : i + 7 ≤ L) (hL9 : L ≤ 3584) : cden (lE EX l dC dI cA ad) (fun _ _ => False) (fun pc v M2 => pc = 23 ∧ v = [((i + 7 : Nat) : Int)] ∧ Rqs M M2) 100 lS18 [(i : Int)] M := by
  have hl : M 3 0 1 = M 1 0 2 := by rw [h3, h1]
  refine d_call ⟨b_doubtX (d := 10) hp  (fun M hI hX => (hB 10).1 M hI hX) (fun M hI hX => (hB 10).2.1 M hI hX) hI hX (sWf_of hI hR.1 hX) hR.2.2.1, fun rr M9 q => ⟨fun k => q.1.2.2.2 107 0 k (by decide) (by decide), q.1.2.2.2 108 0 0 (by decide) (by decide)⟩⟩ (by simp [cAs, cE2, sev, svl, cen]) ?_
  rintro rr M1 ⟨kx, r, rfl, hx⟩
  refine ⟨rfl, ?_⟩
  have fr := kx.2.2.2
  obtain ⟨i1, x1, zw, zm, e33, km⟩ := Rs_mid hI hX hR kx
  have hL1 : M1 108 0 0 = (L : Int) := by rw [fr 108 0 0 (by decide) (by decide), hL]
  have e107 : M1 107 0 = M 107 0 := by
    funext k
    exact fr 107 0 k (by decide) (by decide)
  refine d_call ⟨m_doubt (d := 11) hp (Z := sZ M) (dt := M 6 0)  (fun M x hI hX hx => (hB 11).2.2 M x hI hX hx) i1 x1 zw zm e33 km, fun rr M9 q => ⟨fun k => q.1.2.1 107 0 k (by decide) (by decide) (by decide) (by omega), q.1.2.1 108 0 0 (by decide) (by decide) (by decide) (by omega)⟩⟩ (by simp [cAs, cE2, sev, svl, cen]) ?_
  rintro rr M2 ⟨k2, r', rfl⟩
  refine ⟨rfl, ?_⟩
  have hz := Rs_ask hX hl hR kx k2
  refine d_rng (by simp only [clo, chi, cE2, sev, svl, cen, List.cons_append, List.nil_append]; omega) ?_
  exact d_cut [((i + 7 : Nat) : Int)] (by simp [cE2, sev, svl, cen] <;> omega) ⟨rfl, rfl, hz⟩
end LCS
