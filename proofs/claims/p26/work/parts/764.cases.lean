/-! the law's cases by function -/
def lvN : SL := [(0, 3, 0, (0, [])), (1, 2, 0, (0, [])), (2, 2, 1, (0, [])), (3, 2, 2, (0, [])), (4, 0, 0, (0, [(0, 1)]))]
abbrev lS0 : List CN := [(6, 0, 0, [(0, 0, (1, [(0, 1)]))]), (11, 0, 0, [(0, 0, (1, [(0, 1)]))]), (5, 7, 0, [(1, 0, (0, [(1, 1)])), (0, 0, (32, []))]), (6, 0, 0, [(0, 0, (2, [(0, 1)]))]), (11, 0, 0, [(0, 0, (2, [(0, 1)]))]), (5, 5, 0, [(1, 0, (0, [(3, 1)])), (1, 0, (4294967295, []))]), (5, 6, 0, [(1, 0, (0, [(2, 1)])), (1, 0, (0, [(4, 1)]))]), (6, 0, 0, [(0, 0, (3, [(0, 1)]))]), (11, 0, 0, [(0, 0, (3, [(0, 1)]))]), (5, 7, 0, [(1, 0, (0, [(6, 1)])), (0, 0, (32, []))]), (6, 0, 0, [(0, 0, (4, [(0, 1)]))]), (11, 0, 0, [(0, 0, (4, [(0, 1)]))]), (5, 5, 0, [(1, 0, (0, [(8, 1)])), (1, 0, (4294967295, []))]), (5, 6, 0, [(1, 0, (0, [(7, 1)])), (1, 0, (0, [(9, 1)]))]), (6, 0, 0, [(0, 0, (5, [(0, 1)]))]), (11, 0, 0, [(0, 0, (5, [(0, 1)]))]), (5, 7, 0, [(1, 0, (0, [(11, 1)])), (0, 0, (32, []))]), (6, 0, 0, [(0, 0, (6, [(0, 1)]))]), (11, 0, 0, [(0, 0, (6, [(0, 1)]))]), (5, 5, 0, [(1, 0, (0, [(13, 1)])), (1, 0, (4294967295, []))]), (5, 6, 0, [(1, 0, (0, [(12, 1)])), (1, 0, (0, [(14, 1)]))]), (8, 148, 1, [(2, 0, (0, [])), (1, 0, (0, [(5, 1)])), (1, 0, (0, [(10, 1)])), (1, 0, (0, [(15, 1)]))]), (6, 0, 0, [(0, 0, (1, [(0, 1)]))]), (11, 0, 0, [(0, 0, (1, [(0, 1)]))]), (5, 7, 0, [(1, 0, (0, [(17, 1)])), (0, 0, (32, []))]), (6, 0, 0, [(0, 0, (2, [(0, 1)]))]), (11, 0, 0, [(0, 0, (2, [(0, 1)]))]), (5, 5, 0, [(1, 0, (0, [(19, 1)])), (1, 0, (4294967295, []))]), (5, 6, 0, [(1, 0, (0, [(18, 1)])), (1, 0, (0, [(20, 1)]))]), (6, 0, 0, [(0, 0, (3, [(0, 1)]))]), (11, 0, 0, [(0, 0, (3, [(0, 1)]))]), (5, 7, 0, [(1, 0, (0, [(22, 1)])), (0, 0, (32, []))]), (6, 0, 0, [(0, 0, (4, [(0, 1)]))]), (11, 0, 0, [(0, 0, (4, [(0, 1)]))]), (5, 5, 0, [(1, 0, (0, [(24, 1)])), (1, 0, (4294967295, []))]), (5, 6, 0, [(1, 0, (0, [(23, 1)])), (1, 0, (0, [(25, 1)]))]), (6, 0, 0, [(0, 0, (5, [(0, 1)]))]), (11, 0, 0, [(0, 0, (5, [(0, 1)]))]), (5, 7, 0, [(1, 0, (0, [(27, 1)])), (0, 0, (32, []))]), (6, 0, 0, [(0, 0, (6, [(0, 1)]))]), (11, 0, 0, [(0, 0, (6, [(0, 1)]))]), (5, 5, 0, [(1, 0, (0, [(29, 1)])), (1, 0, (4294967295, []))]), (5, 6, 0, [(1, 0, (0, [(28, 1)])), (1, 0, (0, [(30, 1)]))]), (8, 231, 1, [(2, 1, (0, [])), (1, 0, (0, [(21, 1)])), (1, 0, (0, [(26, 1)])), (1, 0, (0, [(31, 1)]))]), (6, 0, 0, [(0, 0, (7, [(0, 1)]))]), (9, 23, 0, [(0, 0, (7, [(0, 1)]))])]
theorem lS0_ok : cchk1 tm tc tf [(23, lvN)] 0 1000 (176, lvN, 1, lS0) = true := by decide +kernel
abbrev lS1 : List CN := [(6, 0, 0, [(0, 0, (1, [(0, 1)]))]), (11, 0, 0, [(0, 0, (1, [(0, 1)]))]), (6, 0, 0, [(0, 0, (2, [(0, 1)]))]), (11, 0, 0, [(0, 0, (2, [(0, 1)]))]), (6, 0, 0, [(0, 0, (3, [(0, 1)]))]), (11, 0, 0, [(0, 0, (3, [(0, 1)]))]), (4, 0, 14, [(0, 0, (0, [(3, 1)]))]), (8, 144, 1, [(2, 0, (0, [])), (0, 0, (0, [(1, 1)])), (0, 0, (0, [(2, 1)])), (0, 0, (0, []))]), (6, 0, 0, [(0, 0, (1, [(0, 1)]))]), (11, 0, 0, [(0, 0, (1, [(0, 1)]))]), (6, 0, 0, [(0, 0, (2, [(0, 1)]))]), (11, 0, 0, [(0, 0, (2, [(0, 1)]))]), (6, 0, 0, [(0, 0, (3, [(0, 1)]))]), (11, 0, 0, [(0, 0, (3, [(0, 1)]))]), (4, 0, 3, [(0, 0, (0, [(7, 1)]))]), (8, 229, 1, [(2, 1, (0, [])), (0, 0, (0, [(5, 1)])), (0, 0, (0, [(6, 1)])), (0, 0, (0, []))]), (6, 0, 0, [(0, 0, (7, [(0, 1)]))]), (9, 23, 0, [(0, 0, (7, [(0, 1)]))]), (8, 229, 1, [(2, 1, (0, [])), (0, 0, (0, [(5, 1)])), (0, 0, (0, [(6, 1)])), (0, 0, (1, []))]), (6, 0, 0, [(0, 0, (7, [(0, 1)]))]), (9, 23, 0, [(0, 0, (7, [(0, 1)]))]), (8, 144, 1, [(2, 0, (0, [])), (0, 0, (0, [(1, 1)])), (0, 0, (0, [(2, 1)])), (0, 0, (1, []))]), (6, 0, 0, [(0, 0, (1, [(0, 1)]))]), (11, 0, 0, [(0, 0, (1, [(0, 1)]))]), (6, 0, 0, [(0, 0, (2, [(0, 1)]))]), (11, 0, 0, [(0, 0, (2, [(0, 1)]))]), (6, 0, 0, [(0, 0, (3, [(0, 1)]))]), (11, 0, 0, [(0, 0, (3, [(0, 1)]))]), (4, 0, 3, [(0, 0, (0, [(7, 1)]))]), (8, 229, 1, [(2, 1, (0, [])), (0, 0, (0, [(5, 1)])), (0, 0, (0, [(6, 1)])), (0, 0, (0, []))]), (6, 0, 0, [(0, 0, (7, [(0, 1)]))]), (9, 23, 0, [(0, 0, (7, [(0, 1)]))]), (8, 229, 1, [(2, 1, (0, [])), (0, 0, (0, [(5, 1)])), (0, 0, (0, [(6, 1)])), (0, 0, (1, []))]), (6, 0, 0, [(0, 0, (7, [(0, 1)]))]), (9, 23, 0, [(0, 0, (7, [(0, 1)]))])]
theorem lS1_ok : cchk1 tm tc tf [(23, lvN)] 0 1000 (323, lvN, 1, lS1) = true := by decide +kernel
abbrev lS4 : List CN := [(6, 0, 0, [(0, 0, (1, [(0, 1)]))]), (11, 0, 0, [(0, 0, (1, [(0, 1)]))]), (6, 0, 0, [(0, 0, (2, [(0, 1)]))]), (11, 0, 0, [(0, 0, (2, [(0, 1)]))]), (6, 0, 0, [(0, 0, (3, [(0, 1)]))]), (11, 0, 0, [(0, 0, (3, [(0, 1)]))]), (6, 0, 0, [(0, 0, (4, [(0, 1)]))]), (11, 0, 0, [(0, 0, (4, [(0, 1)]))]), (6, 0, 0, [(0, 0, (5, [(0, 1)]))]), (11, 0, 0, [(0, 0, (5, [(0, 1)]))]), (8, 136, 1, [(2, 0, (0, [])), (0, 0, (0, [(1, 1)])), (0, 0, (0, [(2, 1)])), (0, 0, (0, [(3, 1)])), (0, 0, (0, [(4, 1)])), (0, 0, (0, [(5, 1)]))]), (6, 0, 0, [(0, 0, (1, [(0, 1)]))]), (11, 0, 0, [(0, 0, (1, [(0, 1)]))]), (6, 0, 0, [(0, 0, (2, [(0, 1)]))]), (11, 0, 0, [(0, 0, (2, [(0, 1)]))]), (6, 0, 0, [(0, 0, (3, [(0, 1)]))]), (11, 0, 0, [(0, 0, (3, [(0, 1)]))]), (6, 0, 0, [(0, 0, (4, [(0, 1)]))]), (11, 0, 0, [(0, 0, (4, [(0, 1)]))]), (6, 0, 0, [(0, 0, (5, [(0, 1)]))]), (11, 0, 0, [(0, 0, (5, [(0, 1)]))]), (8, 225, 1, [(2, 1, (0, [])), (0, 0, (0, [(7, 1)])), (0, 0, (0, [(8, 1)])), (0, 0, (0, [(9, 1)])), (0, 0, (0, [(10, 1)])), (0, 0, (0, [(11, 1)]))]), (6, 0, 0, [(0, 0, (7, [(0, 1)]))]), (9, 23, 0, [(0, 0, (7, [(0, 1)]))])]
theorem lS4_ok : cchk1 tm tc tf [(23, lvN)] 0 1000 (462, lvN, 1, lS4) = true := by decide +kernel
abbrev lS5 : List CN := [(6, 0, 0, [(0, 0, (1, [(0, 1)]))]), (11, 0, 0, [(0, 0, (1, [(0, 1)]))]), (6, 0, 0, [(0, 0, (2, [(0, 1)]))]), (11, 0, 0, [(0, 0, (2, [(0, 1)]))]), (6, 0, 0, [(0, 0, (3, [(0, 1)]))]), (11, 0, 0, [(0, 0, (3, [(0, 1)]))]), (6, 0, 0, [(0, 0, (4, [(0, 1)]))]), (11, 0, 0, [(0, 0, (4, [(0, 1)]))]), (8, 132, 1, [(2, 0, (0, [])), (0, 0, (0, [(1, 1)])), (0, 0, (0, [(2, 1)])), (0, 0, (0, [(3, 1)])), (0, 0, (0, [(4, 1)]))]), (6, 0, 0, [(0, 0, (1, [(0, 1)]))]), (11, 0, 0, [(0, 0, (1, [(0, 1)]))]), (6, 0, 0, [(0, 0, (2, [(0, 1)]))]), (11, 0, 0, [(0, 0, (2, [(0, 1)]))]), (6, 0, 0, [(0, 0, (3, [(0, 1)]))]), (11, 0, 0, [(0, 0, (3, [(0, 1)]))]), (6, 0, 0, [(0, 0, (4, [(0, 1)]))]), (11, 0, 0, [(0, 0, (4, [(0, 1)]))]), (8, 223, 1, [(2, 1, (0, [])), (0, 0, (0, [(6, 1)])), (0, 0, (0, [(7, 1)])), (0, 0, (0, [(8, 1)])), (0, 0, (0, [(9, 1)]))]), (6, 0, 0, [(0, 0, (7, [(0, 1)]))]), (9, 23, 0, [(0, 0, (7, [(0, 1)]))])]
theorem lS5_ok : cchk1 tm tc tf [(23, lvN)] 0 1000 (535, lvN, 1, lS5) = true := by decide +kernel
abbrev lS6 : List CN := [(6, 0, 0, [(0, 0, (1, [(0, 1)]))]), (11, 0, 0, [(0, 0, (1, [(0, 1)]))]), (8, 130, 1, [(2, 0, (0, [])), (0, 0, (0, [(1, 1)]))]), (6, 0, 0, [(0, 0, (1, [(0, 1)]))]), (11, 0, 0, [(0, 0, (1, [(0, 1)]))]), (8, 222, 1, [(2, 1, (0, [])), (0, 0, (0, [(3, 1)]))]), (6, 0, 0, [(0, 0, (7, [(0, 1)]))]), (9, 23, 0, [(0, 0, (7, [(0, 1)]))])]
theorem lS6_ok : cchk1 tm tc tf [(23, lvN)] 0 1000 (596, lvN, 1, lS6) = true := by decide +kernel
abbrev lS7 : List CN := [(6, 0, 0, [(0, 0, (1, [(0, 1)]))]), (11, 0, 0, [(0, 0, (1, [(0, 1)]))]), (6, 0, 0, [(0, 0, (2, [(0, 1)]))]), (11, 0, 0, [(0, 0, (2, [(0, 1)]))]), (8, 126, 1, [(2, 0, (0, [])), (0, 0, (0, [(1, 1)])), (0, 0, (0, [(2, 1)]))]), (6, 0, 0, [(0, 0, (1, [(0, 1)]))]), (11, 0, 0, [(0, 0, (1, [(0, 1)]))]), (6, 0, 0, [(0, 0, (2, [(0, 1)]))]), (11, 0, 0, [(0, 0, (2, [(0, 1)]))]), (8, 221, 1, [(2, 1, (0, [])), (0, 0, (0, [(4, 1)])), (0, 0, (0, [(5, 1)]))]), (6, 0, 0, [(0, 0, (7, [(0, 1)]))]), (9, 23, 0, [(0, 0, (7, [(0, 1)]))])]
theorem lS7_ok : cchk1 tm tc tf [(23, lvN)] 0 1000 (621, lvN, 1, lS7) = true := by decide +kernel
abbrev lS20 : List CN := [(6, 0, 0, [(0, 0, (1, [(0, 1)]))]), (11, 0, 0, [(0, 0, (1, [(0, 1)]))]), (6, 0, 0, [(0, 0, (2, [(0, 1)]))]), (11, 0, 0, [(0, 0, (2, [(0, 1)]))]), (6, 0, 0, [(0, 0, (3, [(0, 1)]))]), (11, 0, 0, [(0, 0, (3, [(0, 1)]))]), (4, 0, 14, [(0, 0, (0, [(3, 1)]))]), (8, 48, 1, [(2, 0, (0, [])), (0, 0, (0, [(1, 1)])), (0, 0, (0, [(2, 1)])), (0, 0, (0, []))]), (6, 0, 0, [(0, 0, (1, [(0, 1)]))]), (11, 0, 0, [(0, 0, (1, [(0, 1)]))]), (6, 0, 0, [(0, 0, (2, [(0, 1)]))]), (11, 0, 0, [(0, 0, (2, [(0, 1)]))]), (6, 0, 0, [(0, 0, (3, [(0, 1)]))]), (11, 0, 0, [(0, 0, (3, [(0, 1)]))]), (4, 0, 3, [(0, 0, (0, [(7, 1)]))]), (8, 176, 1, [(2, 1, (0, [])), (0, 0, (0, [(5, 1)])), (0, 0, (0, [(6, 1)])), (0, 0, (0, []))]), (6, 0, 0, [(0, 0, (7, [(0, 1)]))]), (9, 23, 0, [(0, 0, (7, [(0, 1)]))]), (8, 176, 1, [(2, 1, (0, [])), (0, 0, (0, [(5, 1)])), (0, 0, (0, [(6, 1)])), (0, 0, (1, []))]), (6, 0, 0, [(0, 0, (7, [(0, 1)]))]), (9, 23, 0, [(0, 0, (7, [(0, 1)]))]), (8, 48, 1, [(2, 0, (0, [])), (0, 0, (0, [(1, 1)])), (0, 0, (0, [(2, 1)])), (0, 0, (1, []))]), (6, 0, 0, [(0, 0, (1, [(0, 1)]))]), (11, 0, 0, [(0, 0, (1, [(0, 1)]))]), (6, 0, 0, [(0, 0, (2, [(0, 1)]))]), (11, 0, 0, [(0, 0, (2, [(0, 1)]))]), (6, 0, 0, [(0, 0, (3, [(0, 1)]))]), (11, 0, 0, [(0, 0, (3, [(0, 1)]))]), (4, 0, 3, [(0, 0, (0, [(7, 1)]))]), (8, 176, 1, [(2, 1, (0, [])), (0, 0, (0, [(5, 1)])), (0, 0, (0, [(6, 1)])), (0, 0, (0, []))]), (6, 0, 0, [(0, 0, (7, [(0, 1)]))]), (9, 23, 0, [(0, 0, (7, [(0, 1)]))]), (8, 176, 1, [(2, 1, (0, [])), (0, 0, (0, [(5, 1)])), (0, 0, (0, [(6, 1)])), (0, 0, (1, []))]), (6, 0, 0, [(0, 0, (7, [(0, 1)]))]), (9, 23, 0, [(0, 0, (7, [(0, 1)]))])]
theorem lS20_ok : cchk1 tm tc tf [(23, lvN)] 0 1000 (1057, lvN, 1, lS20) = true := by decide +kernel
abbrev lS21 : List CN := [(6, 0, 0, [(0, 0, (1, [(0, 1)]))]), (11, 0, 0, [(0, 0, (1, [(0, 1)]))]), (6, 0, 0, [(0, 0, (2, [(0, 1)]))]), (11, 0, 0, [(0, 0, (2, [(0, 1)]))]), (8, 47, 1, [(2, 0, (0, [])), (0, 0, (0, [(1, 1)])), (0, 0, (0, [(2, 1)]))]), (6, 0, 0, [(0, 0, (1, [(0, 1)]))]), (11, 0, 0, [(0, 0, (1, [(0, 1)]))]), (6, 0, 0, [(0, 0, (2, [(0, 1)]))]), (11, 0, 0, [(0, 0, (2, [(0, 1)]))]), (8, 175, 1, [(2, 1, (0, [])), (0, 0, (0, [(4, 1)])), (0, 0, (0, [(5, 1)]))]), (6, 0, 0, [(0, 0, (7, [(0, 1)]))]), (9, 23, 0, [(0, 0, (7, [(0, 1)]))])]
theorem lS21_ok : cchk1 tm tc tf [(23, lvN)] 0 1000 (1122, lvN, 1, lS21) = true := by decide +kernel
abbrev lS22 : List CN := [(6, 0, 0, [(0, 0, (1, [(0, 1)]))]), (11, 0, 0, [(0, 0, (1, [(0, 1)]))]), (6, 0, 0, [(0, 0, (2, [(0, 1)]))]), (11, 0, 0, [(0, 0, (2, [(0, 1)]))]), (6, 0, 0, [(0, 0, (3, [(0, 1)]))]), (11, 0, 0, [(0, 0, (3, [(0, 1)]))]), (8, 45, 1, [(2, 0, (0, [])), (0, 0, (0, [(1, 1)])), (0, 0, (0, [(2, 1)])), (0, 0, (0, [(3, 1)]))]), (6, 0, 0, [(0, 0, (1, [(0, 1)]))]), (11, 0, 0, [(0, 0, (1, [(0, 1)]))]), (6, 0, 0, [(0, 0, (2, [(0, 1)]))]), (11, 0, 0, [(0, 0, (2, [(0, 1)]))]), (6, 0, 0, [(0, 0, (3, [(0, 1)]))]), (11, 0, 0, [(0, 0, (3, [(0, 1)]))]), (8, 174, 1, [(2, 1, (0, [])), (0, 0, (0, [(5, 1)])), (0, 0, (0, [(6, 1)])), (0, 0, (0, [(7, 1)]))]), (6, 0, 0, [(0, 0, (7, [(0, 1)]))]), (9, 23, 0, [(0, 0, (7, [(0, 1)]))])]
theorem lS22_ok : cchk1 tm tc tf [(23, lvN)] 0 1000 (1159, lvN, 1, lS22) = true := by decide +kernel
abbrev lS23 : List CN := [(6, 0, 0, [(0, 0, (1, [(0, 1)]))]), (11, 0, 0, [(0, 0, (1, [(0, 1)]))]), (8, 44, 1, [(2, 0, (0, [])), (0, 0, (0, [(1, 1)]))]), (6, 0, 0, [(0, 0, (1, [(0, 1)]))]), (11, 0, 0, [(0, 0, (1, [(0, 1)]))]), (8, 173, 1, [(2, 1, (0, [])), (0, 0, (0, [(3, 1)]))]), (6, 0, 0, [(0, 0, (7, [(0, 1)]))]), (9, 23, 0, [(0, 0, (7, [(0, 1)]))])]
theorem lS23_ok : cchk1 tm tc tf [(23, lvN)] 0 1000 (1208, lvN, 1, lS23) = true := by decide +kernel
abbrev lS24 : List CN := [(6, 0, 0, [(0, 0, (1, [(0, 1)]))]), (11, 0, 0, [(0, 0, (1, [(0, 1)]))]), (8, 40, 1, [(2, 0, (0, [])), (0, 0, (0, [(1, 1)]))]), (6, 0, 0, [(0, 0, (1, [(0, 1)]))]), (11, 0, 0, [(0, 0, (1, [(0, 1)]))]), (8, 171, 1, [(2, 1, (0, [])), (0, 0, (0, [(3, 1)]))]), (4, 0, 2, [(0, 0, (0, [(2, 1), (4, -1)]))]), (6, 0, 0, [(0, 0, (7, [(0, 1)]))]), (9, 23, 0, [(0, 0, (7, [(0, 1)]))]), (10, 1, 0, [(0, 0, (0, []))])]
theorem lS24_ok : cchk1 tm tc tf [(23, lvN)] 0 1000 (1233, lvN, 1, lS24) = true := by decide +kernel
def wLg (a b : Int) : Int := cfn 6 (cfn 7 a 32) (cfn 5 b 4294967295)
def lE (EX : SEx) (l : Launch) (dC : Nat → ClassId) (dI : Nat → Nat → Nat) (cA : Nat → ClassId) (ad : SAd) (scrS : Nat) (kc : Nat) (as : List CA) (M : SMem) (post : List Int → SMem → Prop) : Prop := cBG tm tf EX l dC dI cA ad scrS 39 kc as M post ∧ ∀ rr M', post rr M' → (∀ i, M' 107 0 i = M 107 0 i) ∧ M' 108 0 0 = M 108 0 0
theorem wUp_eq {T D H G S L : Nat → Int} {n : Nat} {a g s r : Int} {D1 H1 G1 S1 L1 D2 H2 G2 S2 L2 : Nat → Int} (h1 : wUp T D H G S L n a g s r D1 H1 G1 S1 L1) (h2 : wUp T D H G S L n a g s r D2 H2 G2 S2 L2) : D1 = D2 ∧ H1 = H2 ∧ G1 = G2 ∧ S1 = S2 ∧ L1 = L2 := by
  by_cases hr : r = 0
  · obtain ⟨a1, a2, a3, a4, a5⟩ := h1.1 hr
    obtain ⟨b1, b2, b3, b4, b5⟩ := h2.1 hr
    exact ⟨a1.trans b1.symm, a2.trans b2.symm, a3.trans b3.symm, a4.trans b4.symm, a5.trans b5.symm⟩
  · obtain ⟨a1, a2, a3, a4, a5⟩ := h1.2 hr
    obtain ⟨b1, b2, b3, b4, b5⟩ := h2.2 hr
    exact ⟨a1.trans b1.symm, a2.trans b2.symm, a3.trans b3.symm, a4.trans b4.symm, a5.trans b5.symm⟩
/-- the widths, behind a name that is told -/
theorem wNx_wid {M MM : SMem} {n : Nat} {a g s r : Int} (hI : sI tg M) (hw : ∀ i, i < 8 → M 62 0 i = wSm (M 63 0) (8 * i) (M 61 0 i).toNat) (h : wNx M n a g s r MM) : ∀ i, i < 8 → MM 62 0 i = wSm (MM 63 0) (8 * i) (MM 61 0 i).toNat := by
  obtain ⟨i1, f1, hR, hU, u1, u2⟩ := h
  intro i hi
  by_cases hr : r = 0
  · obtain ⟨-, -, -, a4, a5⟩ := hU.1 hr
    have ht : wTx 0 (M 57 0) (wf (M 57 0) n) (wu (M 57 0) n) := by
      rcases hR with ⟨q, -⟩ | ⟨-, ⟨q, -⟩ | ⟨q, -⟩⟩
      · omega
      · omega
      · exact q
    have t1 := ht.1
    have t2 := ht.2.1
    rw [u1 hr, a4, a5]
    by_cases hk : i = a.toNat
    · rw [hk, wSt_at, wSt_at]
      have e1 : ((wu (M 57 0) n : Int) - (wf (M 57 0) n : Int)).toNat = wu (M 57 0) n - wf (M 57 0) n := by omega
      rw [e1]
      refine wSm_congr _ (fun k hk2 => ?_)
      unfold wPt
      rw [if_pos (by omega), show wf (M 57 0) n + (8 * a.toNat + k - 8 * a.toNat) = wf (M 57 0) n + k by omega]
    · rw [wSt_ne hk, wSt_ne hk, hw i hi]
      have hb := wIb (f := 61) (i := i) (lo := 0) (hi := 8) hI 0 rfl
      refine wSm_congr _ (fun k hk2 => ?_)
      unfold wPt
      rw [if_neg (by omega)]
  · obtain ⟨-, -, -, a4, a5⟩ := hU.2 hr
    rw [u2 hr, a4, a5]
    exact hw i hi
theorem d_op2 {E : Nat → List CA → SMem → (List Int → SMem → Prop) → Prop} {Qr : List Int → SMem → Prop} {C : Nat → List Int → SMem → Prop} {n : Nat} {r : List CN} {v : List Int} {M : SMem} {a b : Nat} {x y : SV} (p q : Int) (h1 : cE2 v x = p) (h2 : cE2 v y = q) (h : cden E Qr C n r (v ++ [cfn a p q]) M) : cden E Qr C (n + 1) ((5, a, b, [x, y]) :: r) v M := by
  subst h1 h2
  exact h
section LCS
variable {EX : SEx} {l : Launch} {dC : Nat → ClassId} {dI : Nat → Nat → Nat} {cA : Nat → ClassId} {ad : SAd} {scrS L : Nat} {M : SMem} {i n : Nat}
/-- from a case to the loop's head -/
theorem cLaw {p : Program} {e : Env} {R : Room} {s : State} {m : MethodId} {args : Array Value} {below : List Frame} {meth : Method} {c : Code} {Q : State → Prop} {A : Nat → Prop} {scr nc ns f Fd pc : Nat} {xs : Nat → Int32} {Lc : List CN} {ws : va_W} {H : Heap} {locs : List Loc} {ls : Array Slot} {clv : ZL} {v : List Int} {C : List Int → SMem → Prop} (hp : cPl tm tc tf EX) (hchk : cchk1 tm tc tf [(23, lvN)] 0 f (pc, lvN, 1, Lc) = true) (F : sF 40 (RL, yL_law, cL_law, 7, some .boolean, 50, 5000) EX p R s m args c dC dI cA A) (hX : va_X scr L xs s s.heap) (hbl : scr < s.heap.size) (hbA : ¬ A scr) (hnc : nc ≤ R.cells) (hns : ns ≤ R.slots)
    (hC : ∀ (v : List Int) (M : SMem) (ws : va_W) (H : Heap) (locs : List Loc) (ls : Array Slot) (clv : ZL), (M 108 0 0 = (L : Int) ∧ ∀ j, j < L → M 107 0 j = (xs j).toInt) → sH tf ad M cA ws → va_P (dC, dI) vwCl ws H → va_D A ws → va_S A s.heap H locs → lv_has ls 7 clv → sls tf scr (cen v) ad lvN clv → C v M → W p l e R s m args below meth c H locs nc ns Q (F0 m 23 ls []))
    (hv : v.length = 1) (hS0 : M 108 0 0 = (L : Int) ∧ ∀ j, j < L → M 107 0 j = (xs j).toInt) (hH : sH tf ad M cA ws) (hP : va_P (dC, dI) vwCl ws H) (hD : va_D A ws) (hS : va_S A s.heap H locs) (hl : lv_has ls 7 clv) (q6 : sls tf scr (cen v) ad lvN clv) (hd : cden (lE EX l dC dI cA ad scrS) (fun _ _ => False) (fun pc v M => pc = 23 ∧ C v M) Fd Lc v M) : W p l e R s m args below meth c H locs nc ns Q (F0 m pc ls []) := by
  obtain ⟨hEX, hI, hk9, hcl, htab⟩ := hp
  unfold cchk1 at hchk
  cases hst : cstp tm tc tf [(23, lvN)] true 0 (cgo tm tc tf [(23, lvN)] 0 f) 1 pc lvN [] with
  | none => simp only [hst] at hchk; cases hchk
  | some L2 =>
    simp only [hst] at hchk
    have eL := clq_ok cnbeq_ok hchk
    have eL : L2 = Lc := eL
    rw [← eL] at hd
    have hSx : ∀ (M : SMem) (f j i : Nat) (z : Int), f < tf.length → (M 108 0 0 = (L : Int) ∧ ∀ j, j < L → M 107 0 j = (xs j).toInt) → (supd M f j i z 108 0 0 = (L : Int) ∧ ∀ j', j' < L → supd M f j i z 107 0 j' = (xs j').toInt) := by
      intro M f j i z hf h
      have hf : f < 107 := by
        have e : tf.length ≤ 107 := by decide +kernel
        omega
      refine ⟨by rw [supd_f (by omega)]; exact h.1, fun j' hj => by rw [supd_f (by omega)]; exact h.2 j' hj⟩
    have hSxE : ∀ kc as M post, lE EX l dC dI cA ad scrS kc as M post → (M 108 0 0 = (L : Int) ∧ ∀ j, j < L → M 107 0 j = (xs j).toInt) → ∀ rr M', post rr M' → (M' 108 0 0 = (L : Int) ∧ ∀ j, j < L → M' 107 0 j = (xs j).toInt) := by
      intro kc as M post hE h rr M' hpo
      obtain ⟨z1, z2⟩ := hE.2 rr M' hpo
      exact ⟨by rw [z2]; exact h.1, fun j hj => by rw [z1]; exact h.2 j hj⟩
    have hC9 : ∀ (pc : Nat) (T : SL), cfind pc [(23, lvN)] = some T → ∀ (v : List Int) (M : SMem) (ws : va_W) (H : Heap) (locs : List Loc) (ls : Array Slot) (clv : ZL), (M 108 0 0 = (L : Int) ∧ ∀ j, j < L → M 107 0 j = (xs j).toInt) → sH tf ad M cA ws → va_P (dC, dI) vwCl ws H → va_D A ws → va_S A s.heap H locs → lv_has ls 7 clv → sls tf scr (cen v) ad T clv → (pc = 23 ∧ C v M) → W p l e R s m args below meth c H locs nc ns Q (F0 m pc ls []) := by
      intro pc T hf v M ws H locs ls clv h1 h2 h3 h4 h5 h6 h7 h8
      obtain ⟨rfl, h8⟩ := h8
      cases hf
      exact hC v M ws H locs ls clv h1 h2 h3 h4 h5 h6 h7 h8
    have hgo := cgo_ok (k := 0) (E := lE EX l dC dI cA ad scrS) (Qr := fun _ _ => False) (scrS := scrS) (nc := nc) (ns := ns) (e := e) (below := below) (meth := meth) (Q := Q) (Sx := fun M => M 108 0 0 = (L : Int) ∧ ∀ j, j < L → M 107 0 j = (xs j).toInt) (scr := scr) (cu := [(23, lvN)]) (zc := tc) hEX hI hk9 hcl htab hSx hSxE (fun _ _ _ _ h => h.1) F rfl rfl hnc hns (fun h => by cases h) (fun _ => ⟨L, xs, hX, hbl, hbA, fun M h => h⟩) hC9 (fun _ _ _ _ _ _ _ _ _ _ h => h.elim) f
    exact cstp_ok (k := 0) (E := lE EX l dC dI cA ad scrS) (Qr := fun _ _ => False) (scrS := scrS) (nc := nc) (ns := ns) (e := e) (below := below) (meth := meth) (Q := Q) (Sx := fun M => M 108 0 0 = (L : Int) ∧ ∀ j, j < L → M 107 0 j = (xs j).toInt) (scr := scr) (cu := [(23, lvN)]) (zc := tc) hEX hI hk9 hcl htab hSx hSxE (fun _ _ _ _ h => h.1) F rfl rfl hnc hns (fun h => by cases h) (fun _ => ⟨L, xs, hX, hbl, hbA, fun M h => h⟩) hC9 (fun _ _ _ _ _ _ _ _ _ _ h => h.elim) hgo hst Fd v M ws H locs ls clv [] hv hS0 hH hP hD hS hl q6 trivial hd
set_option maxHeartbeats 4000000 in
theorem lc0 (hp : cPl tm tc tf EX) (hI : sI tg M) (hR : Rn M) (h3 : M 3 0 1 = (n : Int)) (h1 : M 1 0 2 = (n : Int)) (h9 : n ≤ 1000) (hL : M 108 0 0 = (L : Int)) (hi : i + 7 ≤ L) (hL9 : L ≤ 3584) : cden (lE EX l dC dI cA ad scrS) (fun _ _ => False) (fun pc v M2 => pc = 23 ∧ v = [((i + 7 : Nat) : Int)] ∧ Rz M M2 ∧ (∀ k, M2 10 0 k = M 10 0 k) ∧ ∀ f, f ∈ [61, 62, 63, 64, 93] → M2 f = M f) 100 lS0 [(i : Int)] M := by
  obtain ⟨g1, g2, g3, g4, g5, g6, g7⟩ := hR
  refine d_rng (by simp only [clo, chi, cE2, sev, svl, cen, List.cons_append, List.nil_append]; omega) ?_
  refine d_scr (i + 1) (by simp only [cE2, sev, svl, cen, List.cons_append, List.nil_append]; omega) (by rw [hL]; omega) ?_
  refine d_op2 (M 107 0 (i + 1)) 32 (by simp [cE2, sev, svl, cen]) (by simp [cE2, sev, svl]) ?_
  refine d_rng (by simp only [clo, chi, cE2, sev, svl, cen, List.cons_append, List.nil_append]; omega) ?_
  refine d_scr (i + 2) (by simp only [cE2, sev, svl, cen, List.cons_append, List.nil_append]; omega) (by rw [hL]; omega) ?_
  refine d_op2 (M 107 0 (i + 2)) 4294967295 (by simp [cE2, sev, svl, cen]) (by simp [cE2, sev, svl]) ?_
  refine d_op2 (cfn 7 (M 107 0 (i + 1)) 32) (cfn 5 (M 107 0 (i + 2)) 4294967295) (by simp [cE2, sev, svl, cen]) (by simp [cE2, sev, svl, cen]) ?_
  refine d_rng (by simp only [clo, chi, cE2, sev, svl, cen, List.cons_append, List.nil_append]; omega) ?_
  refine d_scr (i + 3) (by simp only [cE2, sev, svl, cen, List.cons_append, List.nil_append]; omega) (by rw [hL]; omega) ?_
  refine d_op2 (M 107 0 (i + 3)) 32 (by simp [cE2, sev, svl, cen]) (by simp [cE2, sev, svl]) ?_
  refine d_rng (by simp only [clo, chi, cE2, sev, svl, cen, List.cons_append, List.nil_append]; omega) ?_
  refine d_scr (i + 4) (by simp only [cE2, sev, svl, cen, List.cons_append, List.nil_append]; omega) (by rw [hL]; omega) ?_
  refine d_op2 (M 107 0 (i + 4)) 4294967295 (by simp [cE2, sev, svl, cen]) (by simp [cE2, sev, svl]) ?_
  refine d_op2 (cfn 7 (M 107 0 (i + 3)) 32) (cfn 5 (M 107 0 (i + 4)) 4294967295) (by simp [cE2, sev, svl, cen]) (by simp [cE2, sev, svl, cen]) ?_
  refine d_rng (by simp only [clo, chi, cE2, sev, svl, cen, List.cons_append, List.nil_append]; omega) ?_
  refine d_scr (i + 5) (by simp only [cE2, sev, svl, cen, List.cons_append, List.nil_append]; omega) (by rw [hL]; omega) ?_
  refine d_op2 (M 107 0 (i + 5)) 32 (by simp [cE2, sev, svl, cen]) (by simp [cE2, sev, svl]) ?_
  refine d_rng (by simp only [clo, chi, cE2, sev, svl, cen, List.cons_append, List.nil_append]; omega) ?_
  refine d_scr (i + 6) (by simp only [cE2, sev, svl, cen, List.cons_append, List.nil_append]; omega) (by rw [hL]; omega) ?_
  refine d_op2 (M 107 0 (i + 6)) 4294967295 (by simp [cE2, sev, svl, cen]) (by simp [cE2, sev, svl]) ?_
  refine d_op2 (cfn 7 (M 107 0 (i + 5)) 32) (cfn 5 (M 107 0 (i + 6)) 4294967295) (by simp [cE2, sev, svl, cen]) (by simp [cE2, sev, svl, cen]) ?_
  refine d_call ⟨b_feed (d := 36) hp (x := wLg (M 107 0 (i + 1)) (M 107 0 (i + 2))) (y := wLg (M 107 0 (i + 3)) (M 107 0 (i + 4))) (z := wLg (M 107 0 (i + 5)) (M 107 0 (i + 6))) hI h3 h9, fun rr M9 q => ⟨fun i => q.2.2.1 107 0 i (by omega) (by omega), q.2.2.1 108 0 0 (by omega) (by omega)⟩⟩ (by simp [cAs, cE2, sev, svl, cen, wLg]) ?_
  rintro rr M1 ⟨rfl, t1⟩
  refine ⟨rfl, ?_⟩
  generalize hq : wTk (wBx (wLg (M 107 0 (i + 5)) (M 107 0 (i + 6)))) (wTk (wBx (wLg (M 107 0 (i + 3)) (M 107 0 (i + 4)))) (wTk (wBx (wLg (M 107 0 (i + 1)) (M 107 0 (i + 2)))) (M 57 0, n) 8) 8) 8 = q at t1 ⊢
  obtain ⟨i1, f1, u57, u31, uq⟩ := t1
  have hL1 : M1 108 0 0 = (L : Int) := by rw [f1 108 0 0 (by omega) (by omega), hL]
  have e107 : M1 107 0 = M 107 0 := by
      funext k
      exact f1 107 0 k (by omega) (by omega)
  have e12 : M1 12 0 = M 57 0 := by
      rw [g1]
      funext k
      exact f1 12 0 k (by omega) (by omega)
  refine d_rng (by simp only [clo, chi, cE2, sev, svl, cen, List.cons_append, List.nil_append]; omega) ?_
  refine d_scr (i + 1) (by simp only [cE2, sev, svl, cen, List.cons_append, List.nil_append]; omega) (by rw [hL1]; omega) ?_
  refine d_op2 (M1 107 0 (i + 1)) 32 (by simp [cE2, sev, svl, cen]) (by simp [cE2, sev, svl]) ?_
  refine d_rng (by simp only [clo, chi, cE2, sev, svl, cen, List.cons_append, List.nil_append]; omega) ?_
  refine d_scr (i + 2) (by simp only [cE2, sev, svl, cen, List.cons_append, List.nil_append]; omega) (by rw [hL1]; omega) ?_
  refine d_op2 (M1 107 0 (i + 2)) 4294967295 (by simp [cE2, sev, svl, cen]) (by simp [cE2, sev, svl]) ?_
  refine d_op2 (cfn 7 (M1 107 0 (i + 1)) 32) (cfn 5 (M1 107 0 (i + 2)) 4294967295) (by simp [cE2, sev, svl, cen]) (by simp [cE2, sev, svl, cen]) ?_
  refine d_rng (by simp only [clo, chi, cE2, sev, svl, cen, List.cons_append, List.nil_append]; omega) ?_
  refine d_scr (i + 3) (by simp only [cE2, sev, svl, cen, List.cons_append, List.nil_append]; omega) (by rw [hL1]; omega) ?_
  refine d_op2 (M1 107 0 (i + 3)) 32 (by simp [cE2, sev, svl, cen]) (by simp [cE2, sev, svl]) ?_
  refine d_rng (by simp only [clo, chi, cE2, sev, svl, cen, List.cons_append, List.nil_append]; omega) ?_
  refine d_scr (i + 4) (by simp only [cE2, sev, svl, cen, List.cons_append, List.nil_append]; omega) (by rw [hL1]; omega) ?_
  refine d_op2 (M1 107 0 (i + 4)) 4294967295 (by simp [cE2, sev, svl, cen]) (by simp [cE2, sev, svl]) ?_
  refine d_op2 (cfn 7 (M1 107 0 (i + 3)) 32) (cfn 5 (M1 107 0 (i + 4)) 4294967295) (by simp [cE2, sev, svl, cen]) (by simp [cE2, sev, svl, cen]) ?_
  refine d_rng (by simp only [clo, chi, cE2, sev, svl, cen, List.cons_append, List.nil_append]; omega) ?_
  refine d_scr (i + 5) (by simp only [cE2, sev, svl, cen, List.cons_append, List.nil_append]; omega) (by rw [hL1]; omega) ?_
  refine d_op2 (M1 107 0 (i + 5)) 32 (by simp [cE2, sev, svl, cen]) (by simp [cE2, sev, svl]) ?_
  refine d_rng (by simp only [clo, chi, cE2, sev, svl, cen, List.cons_append, List.nil_append]; omega) ?_
  refine d_scr (i + 6) (by simp only [cE2, sev, svl, cen, List.cons_append, List.nil_append]; omega) (by rw [hL1]; omega) ?_
  refine d_op2 (M1 107 0 (i + 6)) 4294967295 (by simp [cE2, sev, svl, cen]) (by simp [cE2, sev, svl]) ?_
  refine d_op2 (cfn 7 (M1 107 0 (i + 5)) 32) (cfn 5 (M1 107 0 (i + 6)) 4294967295) (by simp [cE2, sev, svl, cen]) (by simp [cE2, sev, svl, cen]) ?_
  refine d_call ⟨m_feed (d := 37) hp (x := wLg (M1 107 0 (i + 1)) (M1 107 0 (i + 2))) (y := wLg (M1 107 0 (i + 3)) (M1 107 0 (i + 4))) (z := wLg (M1 107 0 (i + 5)) (M1 107 0 (i + 6))) i1 (by rw [f1 1 0 2 (by omega) (by omega)]; exact h1) h9, fun rr M9 q => ⟨fun i => q.2.2.1 107 0 i (by omega) (by omega), q.2.2.1 108 0 0 (by omega) (by omega)⟩⟩ (by simp [cAs, cE2, sev, svl, cen, wLg]) ?_
  rintro rr M2 ⟨rfl, t2⟩
  refine ⟨rfl, ?_⟩
  have hq2 : wTk (wBm (wLg (M1 107 0 (i + 5)) (M1 107 0 (i + 6)))) (wTk (wBm (wLg (M1 107 0 (i + 3)) (M1 107 0 (i + 4)))) (wTk (wBm (wLg (M1 107 0 (i + 1)) (M1 107 0 (i + 2)))) (M1 12 0, n) 8) 8) 8 = q := by
      rw [← hq, e107, e12]
      rw [wTk_congr 8 (fun k hk => (wB_eq (wLg (M 107 0 (i + 1)) (M 107 0 (i + 2))) hk).symm), wTk_congr 8 (fun k hk => (wB_eq (wLg (M 107 0 (i + 3)) (M 107 0 (i + 4))) hk).symm), wTk_congr 8 (fun k hk => (wB_eq (wLg (M 107 0 (i + 5)) (M 107 0 (i + 6))) hk).symm)]
  rw [hq2] at t2 ⊢
  obtain ⟨i2, f2, v12, v12n, vq⟩ := t2
  refine d_rng (by simp only [clo, chi, cE2, sev, svl, cen, List.cons_append, List.nil_append]; omega) ?_
  refine d_cut [((i + 7 : Nat) : Int)] (by simp [cE2, sev, svl, cen] <;> omega) ⟨rfl, rfl, ⟨i2, ?_, ?_, fun f j k z => ?_⟩, fun k => ?_, fun f hf => ?_⟩
  · have r57 : M2 57 0 = q.1 := by
      rw [← u57]
      funext k
      exact f2 57 0 k (by omega) (by omega)
    have r : ∀ f, f ≠ 1 → f ≠ 3 → f ≠ 12 → f ≠ 57 → M2 f 0 = M f 0 := fun f z1 z2 z3 z4 => by
      funext k
      rw [f2 f 0 k z3 (fun z => z1 z.1), f1 f 0 k z4 (fun z => z2 z.1)]
    unfold Rn
    rw [r57, v12, r 58 (by omega) (by omega) (by omega) (by omega), r 59 (by omega) (by omega) (by omega) (by omega), r 60 (by omega) (by omega) (by omega) (by omega), r 61 (by omega) (by omega) (by omega) (by omega), r 62 (by omega) (by omega) (by omega) (by omega), r 63 (by omega) (by omega) (by omega) (by omega), r 17 (by omega) (by omega) (by omega) (by omega), r 18 (by omega) (by omega) (by omega) (by omega), r 19 (by omega) (by omega) (by omega) (by omega), r 20 (by omega) (by omega) (by omega) (by omega), r 21 (by omega) (by omega) (by omega) (by omega)]
    exact ⟨rfl, g2, g3, g4, g5, g6, g7⟩
  · rw [v12n, f2 3 0 1 (by omega) (by omega), u31]
  · simp only [lDL, List.mem_cons, List.not_mem_nil, or_false, not_or] at z
    rw [f2 f j k (by omega) (by omega), f1 f j k (by omega) (by omega)]
  · rw [f2 10 0 k (by omega) (by omega), f1 10 0 k (by omega) (by omega)]
  · funext j k
    simp only [List.mem_cons, List.not_mem_nil, or_false] at hf
    rw [f2 f j k (by omega) (by omega), f1 f j k (by omega) (by omega)]
theorem lw0 (hp : cPl tm tc tf EX) (hI : sI tg M) (hR : Ru M) (hX : sX M) (h3 : M 3 0 1 = (n : Int)) (h1 : M 1 0 2 = (n : Int)) (h9 : n ≤ 1000) (hL : M 108 0 0 = (L : Int)) (hi : i + 7 ≤ L) (hL9 : L ≤ 3584) : cden (lE EX l dC dI cA ad scrS) (fun _ _ => False) (fun pc v M2 => pc = 23 ∧ v = [((i + 7 : Nat) : Int)] ∧ Rqv M M2) 100 lS0 [(i : Int)] M := by
  exact cden_mono (fun p v M2 h => ⟨h.1, h.2.1, Ru_fin (M1 := M) hR (Rq_of (Ru_Rr hR).2 hX h.2.2.1) h.2.2.2.1 h.2.2.2.2 (Or.inr (fun _ _ => rfl))⟩) (lc0 hp hI (Ru_Rr hR).1 h3 h1 h9 hL hi hL9)
set_option maxHeartbeats 4000000 in
theorem lw1 (hp : cPl tm tc tf EX) (hI : sI tg M) (hR : Ru M) (hX : sX M) (h3 : M 3 0 1 = (n : Int)) (h1 : M 1 0 2 = (n : Int)) (h9 : n ≤ 1000) (hL : M 108 0 0 = (L : Int)) (hi : i + 7 ≤ L) (hL9 : L ≤ 3584) : cden (lE EX l dC dI cA ad scrS) (fun _ _ => False) (fun pc v M2 => pc = 23 ∧ v = [((i + 7 : Nat) : Int)] ∧ Rqv M M2) 100 lS1 [(i : Int)] M := by
  obtain ⟨g1, g2, g3, g4, g5, g6, g7⟩ := (Ru_Rr hR).1
  refine d_rng (by simp only [clo, chi, cE2, sev, svl, cen, List.cons_append, List.nil_append]; omega) ?_
  refine d_scr (i + 1) (by simp only [cE2, sev, svl, cen, List.cons_append, List.nil_append]; omega) (by rw [hL]; omega) ?_
  refine d_rng (by simp only [clo, chi, cE2, sev, svl, cen, List.cons_append, List.nil_append]; omega) ?_
  refine d_scr (i + 2) (by simp only [cE2, sev, svl, cen, List.cons_append, List.nil_append]; omega) (by rw [hL]; omega) ?_
  refine d_rng (by simp only [clo, chi, cE2, sev, svl, cen, List.cons_append, List.nil_append]; omega) ?_
  refine d_scr (i + 3) (by simp only [cE2, sev, svl, cen, List.cons_append, List.nil_append]; omega) (by rw [hL]; omega) ?_
  have fin : ∀ (s r r' : Int) (M1 M2 : SMem), wNx M n (M 107 0 (i + 1)) (M 107 0 (i + 2)) s r M1 → M1 3 0 1 = 0 → wNm M1 n (M 107 0 (i + 1)) (M 107 0 (i + 2)) s r' M2 → r = r' ∧ Rz M M2 := by
      intro s r r' M1 M2 hx hx3 hm
      have hxw := wNx_wid hI g7 hx
      obtain ⟨i1, f1, hR1, hU1, -, -⟩ := hx
      obtain ⟨i2, f2, hR2, hU2, m2⟩ := hm
      have q : ∀ f, f ∈ [12, 17, 18, 19, 20, 21, 57] → M1 f 0 = M f 0 := fun f hf => by
        funext k
        simp only [List.mem_cons, List.not_mem_nil, or_false] at hf
        exact f1 f 0 k (by omega) (by omega) (by omega) (by omega)
      have q' : ∀ f, f ∈ [12, 57, 58, 59, 60, 61, 62, 63] → M2 f 0 = M1 f 0 := fun f hf => by
        funext k
        simp only [List.mem_cons, List.not_mem_nil, or_false] at hf
        exact f2 f 0 k (by omega) (by omega)
      rw [q 12 (by decide), q 17 (by decide), q 20 (by decide), q 21 (by decide), ← g1, ← g2, ← g5, ← g6] at hR2
      rw [q 12 (by decide), q 17 (by decide), q 18 (by decide), q 19 (by decide), q 20 (by decide), q 21 (by decide), ← g1, ← g2, ← g3, ← g4, ← g5, ← g6] at hU2
      have er := wR_eq hR1 hR2
      subst er
      obtain ⟨d1, d2, d3, d4, d5⟩ := wUp_eq hU1 hU2
      refine ⟨rfl, i2, ?_, ?_, fun f j k z => ?_⟩
      · unfold Rn
        rw [q' 57 (by decide), q' 12 (by decide), q' 58 (by decide), q' 59 (by decide), q' 60 (by decide), q' 61 (by decide), q' 62 (by decide), q' 63 (by decide), q 57 (by decide), q 12 (by decide)]
        exact ⟨g1, d1, d2, d3, d4, d5, hxw⟩
      · rw [m2, f2 3 0 1 (by decide) (by decide), hx3]
      · simp only [lDL, List.mem_cons, List.not_mem_nil, or_false, not_or] at z
        rw [f2 f j k (by omega) (by omega), f1 f j k (by omega) (by omega) (by omega) (by omega)]
  refine d_br (fun h => ?_) (fun h => ?_)
  · refine d_call ⟨b_name2 (d := 35) hp (a := M 107 0 (i + 1)) (g := M 107 0 (i + 2)) (s := 0) hI h3 h9 (by omega), fun rr M9 q => ?_⟩ (by simp [cAs, cE2, sev, svl, cen]) ?_
    · obtain ⟨r, -, q, -⟩ := q
      exact ⟨fun i => q.2.1 107 0 i (by decide) (by decide) (by decide) (by decide), q.2.1 108 0 0 (by decide) (by decide) (by decide) (by decide)⟩
    rintro rr M1 ⟨r, rfl, hx, hx3, hr1, hr2, k1, k2⟩
    refine ⟨rfl, ?_⟩
    have hL1 : M1 108 0 0 = (L : Int) := by rw [hx.2.1 108 0 0 (by decide) (by decide) (by decide) (by decide), hL]
    have e107 : M1 107 0 = M 107 0 := by
      funext k
      exact hx.2.1 107 0 k (by decide) (by decide) (by decide) (by decide)
    refine d_rng (by simp only [clo, chi, cE2, sev, svl, cen, List.cons_append, List.nil_append]; omega) ?_
    refine d_scr (i + 1) (by simp only [cE2, sev, svl, cen, List.cons_append, List.nil_append]; omega) (by rw [hL1]; omega) ?_
    refine d_rng (by simp only [clo, chi, cE2, sev, svl, cen, List.cons_append, List.nil_append]; omega) ?_
    refine d_scr (i + 2) (by simp only [cE2, sev, svl, cen, List.cons_append, List.nil_append]; omega) (by rw [hL1]; omega) ?_
    refine d_rng (by simp only [clo, chi, cE2, sev, svl, cen, List.cons_append, List.nil_append]; omega) ?_
    refine d_scr (i + 3) (by simp only [cE2, sev, svl, cen, List.cons_append, List.nil_append]; omega) (by rw [hL1]; omega) ?_
    rw [e107]
    refine d_br (fun hk9 => ?_) (fun hk9 => ?_)
    · refine d_call ⟨m_name (d := 36) hp (a := M 107 0 (i + 1)) (g := M 107 0 (i + 2)) (s := 0) hx.1 (by rw [hx.2.1 1 0 2 (by decide) (by decide) (by decide) (by decide)]; exact h1) h9 (by omega), fun rr M9 q => ?_⟩ (by simp [cAs, cE2, sev, svl, cen]) ?_
      · obtain ⟨r, -, q, -⟩ := q
        exact ⟨fun i => q.2.1 107 0 i (by decide) (by decide), q.2.1 108 0 0 (by decide) (by decide)⟩
      rintro rr M2 ⟨r', rfl, hm, -⟩
      refine ⟨rfl, ?_⟩
      obtain ⟨er, hz⟩ := fin 0 r r' M1 M2 hx hx3 hm
      subst er
      have hz := fin_name3 hR hX hz hm k1 k2
      refine d_rng (by simp only [clo, chi, cE2, sev, svl, cen, List.cons_append, List.nil_append]; omega) ?_
      exact d_cut [((i + 7 : Nat) : Int)] (by simp [cE2, sev, svl, cen] <;> omega) ⟨rfl, rfl, hz⟩
    · exact absurd (show False by (have hh := h; have hk := hk9; simp only [cCmp, cE2, sev, svl, cen, List.cons_append, List.nil_append] at hh hk; omega)) id
  · refine d_call ⟨b_name2 (d := 35) hp (a := M 107 0 (i + 1)) (g := M 107 0 (i + 2)) (s := 1) hI h3 h9 (by omega), fun rr M9 q => ?_⟩ (by simp [cAs, cE2, sev, svl, cen]) ?_
    · obtain ⟨r, -, q, -⟩ := q
      exact ⟨fun i => q.2.1 107 0 i (by decide) (by decide) (by decide) (by decide), q.2.1 108 0 0 (by decide) (by decide) (by decide) (by decide)⟩
    rintro rr M1 ⟨r, rfl, hx, hx3, hr1, hr2, k1, k2⟩
    refine ⟨rfl, ?_⟩
    have hL1 : M1 108 0 0 = (L : Int) := by rw [hx.2.1 108 0 0 (by decide) (by decide) (by decide) (by decide), hL]
    have e107 : M1 107 0 = M 107 0 := by
      funext k
      exact hx.2.1 107 0 k (by decide) (by decide) (by decide) (by decide)
    refine d_rng (by simp only [clo, chi, cE2, sev, svl, cen, List.cons_append, List.nil_append]; omega) ?_
    refine d_scr (i + 1) (by simp only [cE2, sev, svl, cen, List.cons_append, List.nil_append]; omega) (by rw [hL1]; omega) ?_
    refine d_rng (by simp only [clo, chi, cE2, sev, svl, cen, List.cons_append, List.nil_append]; omega) ?_
    refine d_scr (i + 2) (by simp only [cE2, sev, svl, cen, List.cons_append, List.nil_append]; omega) (by rw [hL1]; omega) ?_
    refine d_rng (by simp only [clo, chi, cE2, sev, svl, cen, List.cons_append, List.nil_append]; omega) ?_
    refine d_scr (i + 3) (by simp only [cE2, sev, svl, cen, List.cons_append, List.nil_append]; omega) (by rw [hL1]; omega) ?_
    rw [e107]
    refine d_br (fun hk9 => ?_) (fun hk9 => ?_)
    · exact absurd (show False by (have hh := h; have hk := hk9; simp only [cCmp, cE2, sev, svl, cen, List.cons_append, List.nil_append] at hh hk; omega)) id
    · refine d_call ⟨m_name (d := 36) hp (a := M 107 0 (i + 1)) (g := M 107 0 (i + 2)) (s := 1) hx.1 (by rw [hx.2.1 1 0 2 (by decide) (by decide) (by decide) (by decide)]; exact h1) h9 (by omega), fun rr M9 q => ?_⟩ (by simp [cAs, cE2, sev, svl, cen]) ?_
      · obtain ⟨r, -, q, -⟩ := q
        exact ⟨fun i => q.2.1 107 0 i (by decide) (by decide), q.2.1 108 0 0 (by decide) (by decide)⟩
      rintro rr M2 ⟨r', rfl, hm, -⟩
      refine ⟨rfl, ?_⟩
      obtain ⟨er, hz⟩ := fin 1 r r' M1 M2 hx hx3 hm
      subst er
      have hz := fin_name3 hR hX hz hm k1 k2
      refine d_rng (by simp only [clo, chi, cE2, sev, svl, cen, List.cons_append, List.nil_append]; omega) ?_
      exact d_cut [((i + 7 : Nat) : Int)] (by simp [cE2, sev, svl, cen] <;> omega) ⟨rfl, rfl, hz⟩
set_option maxHeartbeats 4000000 in
theorem lw4 (hp : cPl tm tc tf EX) (hI : sI tg M) (hR : Ru M) (hX : sX M) (h3 : M 3 0 1 = (n : Int)) (h1 : M 1 0 2 = (n : Int)) (h9 : n ≤ 1000) (hL : M 108 0 0 = (L : Int)) (hi : i + 7 ≤ L) (hL9 : L ≤ 3584) : cden (lE EX l dC dI cA ad scrS) (fun _ _ => False) (fun pc v M2 => pc = 23 ∧ v = [((i + 7 : Nat) : Int)] ∧ Rqv M M2) 100 lS4 [(i : Int)] M := by
  have hl : M 3 0 1 = M 1 0 2 := by rw [h3, h1]
  refine d_rng (by simp only [clo, chi, cE2, sev, svl, cen, List.cons_append, List.nil_append]; omega) ?_
  refine d_scr (i + 1) (by simp only [cE2, sev, svl, cen, List.cons_append, List.nil_append]; omega) (by rw [hL]; omega) ?_
  refine d_rng (by simp only [clo, chi, cE2, sev, svl, cen, List.cons_append, List.nil_append]; omega) ?_
  refine d_scr (i + 2) (by simp only [cE2, sev, svl, cen, List.cons_append, List.nil_append]; omega) (by rw [hL]; omega) ?_
  refine d_rng (by simp only [clo, chi, cE2, sev, svl, cen, List.cons_append, List.nil_append]; omega) ?_
  refine d_scr (i + 3) (by simp only [cE2, sev, svl, cen, List.cons_append, List.nil_append]; omega) (by rw [hL]; omega) ?_
  refine d_rng (by simp only [clo, chi, cE2, sev, svl, cen, List.cons_append, List.nil_append]; omega) ?_
  refine d_scr (i + 4) (by simp only [cE2, sev, svl, cen, List.cons_append, List.nil_append]; omega) (by rw [hL]; omega) ?_
  refine d_rng (by simp only [clo, chi, cE2, sev, svl, cen, List.cons_append, List.nil_append]; omega) ?_
  refine d_scr (i + 5) (by simp only [cE2, sev, svl, cen, List.cons_append, List.nil_append]; omega) (by rw [hL]; omega) ?_
  refine d_call ⟨b_place2 (d := 36) hp (a := M 107 0 (i + 1)) (s := M 107 0 (i + 2)) (hh := M 107 0 (i + 3)) (o := M 107 0 (i + 4)) (g := M 107 0 (i + 5)) hI, fun rr M9 q => ?_⟩ (by simp [cAs, cE2, sev, svl, cen]) ?_
  · obtain ⟨r, -, q⟩ := xPlX_of q
    exact ⟨fun k => xPlX_fr q 107 0 k (by decide), xPlX_fr q 108 0 0 (by decide)⟩
  intro rr M1 q
  obtain ⟨r, rfl, hx⟩ := xPlX_of q
  refine ⟨rfl, ?_⟩
  have fr := xPlX_fr hx
  have hL1 : M1 108 0 0 = (L : Int) := by rw [fr 108 0 0 (by decide), hL]
  have e107 : M1 107 0 = M 107 0 := by
    funext k
    exact fr 107 0 k (by decide)
  refine d_rng (by simp only [clo, chi, cE2, sev, svl, cen, List.cons_append, List.nil_append]; omega) ?_
  refine d_scr (i + 1) (by simp only [cE2, sev, svl, cen, List.cons_append, List.nil_append]; omega) (by rw [hL1]; omega) ?_
  refine d_rng (by simp only [clo, chi, cE2, sev, svl, cen, List.cons_append, List.nil_append]; omega) ?_
  refine d_scr (i + 2) (by simp only [cE2, sev, svl, cen, List.cons_append, List.nil_append]; omega) (by rw [hL1]; omega) ?_
  refine d_rng (by simp only [clo, chi, cE2, sev, svl, cen, List.cons_append, List.nil_append]; omega) ?_
  refine d_scr (i + 3) (by simp only [cE2, sev, svl, cen, List.cons_append, List.nil_append]; omega) (by rw [hL1]; omega) ?_
  refine d_rng (by simp only [clo, chi, cE2, sev, svl, cen, List.cons_append, List.nil_append]; omega) ?_
  refine d_scr (i + 4) (by simp only [cE2, sev, svl, cen, List.cons_append, List.nil_append]; omega) (by rw [hL1]; omega) ?_
  refine d_rng (by simp only [clo, chi, cE2, sev, svl, cen, List.cons_append, List.nil_append]; omega) ?_
  refine d_scr (i + 5) (by simp only [cE2, sev, svl, cen, List.cons_append, List.nil_append]; omega) (by rw [hL1]; omega) ?_
  rw [e107]
  refine d_call ⟨m_place (d := 37) hp (a := M 107 0 (i + 1)) (s := M 107 0 (i + 2)) (hh := M 107 0 (i + 3)) (o := M 107 0 (i + 4)) (g := M 107 0 (i + 5)), fun rr M9 q => ?_⟩ (by simp [cAs, cE2, sev, svl, cen]) ?_
  · obtain ⟨r, -, q⟩ := wPlM_of q
    exact ⟨fun k => wPlM_fr q 107 0 k (by decide), wPlM_fr q 108 0 0 (by decide)⟩
  intro rr M2 q
  obtain ⟨r', rfl, hm⟩ := wPlM_of q
  refine ⟨rfl, ?_⟩
  obtain ⟨er, hz⟩ := fin_place3 hR hX hl hx hm
  refine d_rng (by simp only [clo, chi, cE2, sev, svl, cen, List.cons_append, List.nil_append]; omega) ?_
  exact d_cut [((i + 7 : Nat) : Int)] (by simp [cE2, sev, svl, cen] <;> omega) ⟨rfl, rfl, hz⟩
set_option maxHeartbeats 4000000 in
theorem lw5 (hp : cPl tm tc tf EX) (hI : sI tg M) (hR : Ru M) (hX : sX M) (h3 : M 3 0 1 = (n : Int)) (h1 : M 1 0 2 = (n : Int)) (h9 : n ≤ 1000) (hL : M 108 0 0 = (L : Int)) (hi : i + 7 ≤ L) (hL9 : L ≤ 3584) : cden (lE EX l dC dI cA ad scrS) (fun _ _ => False) (fun pc v M2 => pc = 23 ∧ v = [((i + 7 : Nat) : Int)] ∧ Rqv M M2) 100 lS5 [(i : Int)] M := by
  have hl : M 3 0 1 = M 1 0 2 := by rw [h3, h1]
  refine d_rng (by simp only [clo, chi, cE2, sev, svl, cen, List.cons_append, List.nil_append]; omega) ?_
  refine d_scr (i + 1) (by simp only [cE2, sev, svl, cen, List.cons_append, List.nil_append]; omega) (by rw [hL]; omega) ?_
  refine d_rng (by simp only [clo, chi, cE2, sev, svl, cen, List.cons_append, List.nil_append]; omega) ?_
  refine d_scr (i + 2) (by simp only [cE2, sev, svl, cen, List.cons_append, List.nil_append]; omega) (by rw [hL]; omega) ?_
  refine d_rng (by simp only [clo, chi, cE2, sev, svl, cen, List.cons_append, List.nil_append]; omega) ?_
  refine d_scr (i + 3) (by simp only [cE2, sev, svl, cen, List.cons_append, List.nil_append]; omega) (by rw [hL]; omega) ?_
  refine d_rng (by simp only [clo, chi, cE2, sev, svl, cen, List.cons_append, List.nil_append]; omega) ?_
  refine d_scr (i + 4) (by simp only [cE2, sev, svl, cen, List.cons_append, List.nil_append]; omega) (by rw [hL]; omega) ?_
  refine d_call ⟨b_cut2 (d := 36) hp (a := M 107 0 (i + 1)) (hd := M 107 0 (i + 2)) (dv := M 107 0 (i + 3)) (n := M 107 0 (i + 4)) (sz := (M 64 (M 107 0 (i + 1)).toNat 5).toNat) hI (wSzX hI _), fun rr M9 q => ?_⟩ (by simp [cAs, cE2, sev, svl, cen]) ?_
  · obtain ⟨r, -, q⟩ := xCuX_of q
    exact ⟨fun k => xCuX_fr q 107 0 k (by decide), xCuX_fr q 108 0 0 (by decide)⟩
  intro rr M1 q
  obtain ⟨r, rfl, hx⟩ := xCuX_of q
  refine ⟨rfl, ?_⟩
  have fr := xCuX_fr hx
  have hL1 : M1 108 0 0 = (L : Int) := by rw [fr 108 0 0 (by decide), hL]
  have e107 : M1 107 0 = M 107 0 := by
    funext k
    exact fr 107 0 k (by decide)
  refine d_rng (by simp only [clo, chi, cE2, sev, svl, cen, List.cons_append, List.nil_append]; omega) ?_
  refine d_scr (i + 1) (by simp only [cE2, sev, svl, cen, List.cons_append, List.nil_append]; omega) (by rw [hL1]; omega) ?_
  refine d_rng (by simp only [clo, chi, cE2, sev, svl, cen, List.cons_append, List.nil_append]; omega) ?_
  refine d_scr (i + 2) (by simp only [cE2, sev, svl, cen, List.cons_append, List.nil_append]; omega) (by rw [hL1]; omega) ?_
  refine d_rng (by simp only [clo, chi, cE2, sev, svl, cen, List.cons_append, List.nil_append]; omega) ?_
  refine d_scr (i + 3) (by simp only [cE2, sev, svl, cen, List.cons_append, List.nil_append]; omega) (by rw [hL1]; omega) ?_
  refine d_rng (by simp only [clo, chi, cE2, sev, svl, cen, List.cons_append, List.nil_append]; omega) ?_
  refine d_scr (i + 4) (by simp only [cE2, sev, svl, cen, List.cons_append, List.nil_append]; omega) (by rw [hL1]; omega) ?_
  rw [e107]
  have i1 : sI tg M1 := hx.1.1
  have e27 : M1 27 = M 27 := by
    funext j k
    exact fr 27 j k (by decide)
  have hX1 : sX M1 := sX_congr (by funext j k; exact fr 29 j k (by decide)) e27 (by funext j k; exact fr 50 j k (by decide)) hX
  have hx2 : ∀ k, 0 ≤ M 107 0 (i + 1) → (M 27 0 (M 107 0 (i + 1)).toNat).toNat ≠ 0 → k + 1 = 6 * (M 107 0 (i + 1)).toNat + (M 27 0 (M 107 0 (i + 1)).toNat).toNat → (M1 29 0 k = 1 ∨ M1 29 0 k = 2) → 2 ≤ (M 27 0 (M 107 0 (i + 1)).toNat).toNat := by
    intro k _ z1 z2 z3
    have w := hX1.1 k
    have b6 := wIb (f := 27) (i := (M 107 0 (i + 1)).toNat) (lo := 0) (hi := 6) hI 0 rfl
    rcases Nat.lt_or_ge (M 27 0 (M 107 0 (i + 1)).toNat).toNat 2 with z4 | z4
    · rw [show k % 6 = 0 by omega] at w
      unfold sD1 at w
      omega
    · exact z4
  refine d_call ⟨m_cut (d := 36) hp (a := M 107 0 (i + 1)) (hd := M 107 0 (i + 2)) (dv := M 107 0 (i + 3)) (n := M 107 0 (i + 4)) (sz := (M 27 0 (M 107 0 (i + 1)).toNat).toNat) i1 (by rw [e27]; exact wSz hI _) hx2, fun rr M9 q => ?_⟩ (by simp [cAs, cE2, sev, svl, cen]) ?_
  · obtain ⟨r, -, q⟩ := wCuM_of q
    exact ⟨fun k => wCuM_fr q 107 0 k (by decide), wCuM_fr q 108 0 0 (by decide)⟩
  intro rr M2 q
  obtain ⟨r', rfl, hm⟩ := wCuM_of q
  refine ⟨rfl, ?_⟩
  obtain ⟨er, hz⟩ := fin_cut3 hI hR hX hl hx hm
  refine d_rng (by simp only [clo, chi, cE2, sev, svl, cen, List.cons_append, List.nil_append]; omega) ?_
  exact d_cut [((i + 7 : Nat) : Int)] (by simp [cE2, sev, svl, cen] <;> omega) ⟨rfl, rfl, hz⟩
set_option maxHeartbeats 4000000 in
theorem lw6 (hp : cPl tm tc tf EX) (hI : sI tg M) (hR : Ru M) (hX : sX M) (h3 : M 3 0 1 = (n : Int)) (h1 : M 1 0 2 = (n : Int)) (h9 : n ≤ 1000) (hL : M 108 0 0 = (L : Int)) (hi : i + 7 ≤ L) (hL9 : L ≤ 3584) : cden (lE EX l dC dI cA ad scrS) (fun _ _ => False) (fun pc v M2 => pc = 23 ∧ v = [((i + 7 : Nat) : Int)] ∧ Rqv M M2) 100 lS6 [(i : Int)] M := by
  have hl : M 3 0 1 = M 1 0 2 := by rw [h3, h1]
  refine d_rng (by simp only [clo, chi, cE2, sev, svl, cen, List.cons_append, List.nil_append]; omega) ?_
  refine d_scr (i + 1) (by simp only [cE2, sev, svl, cen, List.cons_append, List.nil_append]; omega) (by rw [hL]; omega) ?_
  refine d_call ⟨b_clean2 (d := 36) hp (a := M 107 0 (i + 1)) (sz := (M 64 (M 107 0 (i + 1)).toNat 5).toNat) hI (wSzX hI _), fun rr M9 q => ?_⟩ (by simp [cAs, cE2, sev, svl, cen]) ?_
  · obtain ⟨r, -, q⟩ := xClX_of q
    exact ⟨fun k => xClX_fr q 107 0 k (by decide), xClX_fr q 108 0 0 (by decide)⟩
  intro rr M1 q
  obtain ⟨r, rfl, hx⟩ := xClX_of q
  refine ⟨rfl, ?_⟩
  have fr := xClX_fr hx
  have hL1 : M1 108 0 0 = (L : Int) := by rw [fr 108 0 0 (by decide), hL]
  have e107 : M1 107 0 = M 107 0 := by
    funext k
    exact fr 107 0 k (by decide)
  refine d_rng (by simp only [clo, chi, cE2, sev, svl, cen, List.cons_append, List.nil_append]; omega) ?_
  refine d_scr (i + 1) (by simp only [cE2, sev, svl, cen, List.cons_append, List.nil_append]; omega) (by rw [hL1]; omega) ?_
  rw [e107]
  have i1 : sI tg M1 := hx.1.1
  have e27 : M1 27 = M 27 := by
    funext j k
    exact fr 27 j k (by decide)
  refine d_call ⟨m_clean (d := 36) hp (a := M 107 0 (i + 1)) (sz := (M 27 0 (M 107 0 (i + 1)).toNat).toNat) i1 (by rw [e27]; exact wSz hI _), fun rr M9 q => ?_⟩ (by simp [cAs, cE2, sev, svl, cen]) ?_
  · obtain ⟨r, -, q⟩ := wClM_of q
    exact ⟨fun k => wClM_fr q 107 0 k (by decide), wClM_fr q 108 0 0 (by decide)⟩
  intro rr M2 q
  obtain ⟨r', rfl, hm⟩ := wClM_of q
  refine ⟨rfl, ?_⟩
  obtain ⟨er, hz⟩ := fin_clean3 hI hR hX hl hx hm
  refine d_rng (by simp only [clo, chi, cE2, sev, svl, cen, List.cons_append, List.nil_append]; omega) ?_
  exact d_cut [((i + 7 : Nat) : Int)] (by simp [cE2, sev, svl, cen] <;> omega) ⟨rfl, rfl, hz⟩
set_option maxHeartbeats 4000000 in
theorem lw7 (hp : cPl tm tc tf EX) (hI : sI tg M) (hR : Ru M) (hX : sX M) (h3 : M 3 0 1 = (n : Int)) (h1 : M 1 0 2 = (n : Int)) (h9 : n ≤ 1000) (hL : M 108 0 0 = (L : Int)) (hi : i + 7 ≤ L) (hL9 : L ≤ 3584) : cden (lE EX l dC dI cA ad scrS) (fun _ _ => False) (fun pc v M2 => pc = 23 ∧ v = [((i + 7 : Nat) : Int)] ∧ Rqv M M2) 100 lS7 [(i : Int)] M := by
  have hl : M 3 0 1 = M 1 0 2 := by rw [h3, h1]
  refine d_rng (by simp only [clo, chi, cE2, sev, svl, cen, List.cons_append, List.nil_append]; omega) ?_
  refine d_scr (i + 1) (by simp only [cE2, sev, svl, cen, List.cons_append, List.nil_append]; omega) (by rw [hL]; omega) ?_
  refine d_rng (by simp only [clo, chi, cE2, sev, svl, cen, List.cons_append, List.nil_append]; omega) ?_
  refine d_scr (i + 2) (by simp only [cE2, sev, svl, cen, List.cons_append, List.nil_append]; omega) (by rw [hL]; omega) ?_
  refine d_call ⟨b_traces2 (d := 33) hp (a := M 107 0 (i + 1)) (b := M 107 0 (i + 2)) hI h3 h9, fun rr M9 q => ?_⟩ (by simp [cAs, cE2, sev, svl, cen]) ?_
  · obtain ⟨r, -, q⟩ := (show ∃ r : Int, rr = [r] ∧ xTcX M n (M 107 0 (i + 1)) (M 107 0 (i + 2)) r M9 from xTcX_of q)
    exact ⟨fun k => xTcX_fr q 107 0 k (by decide), xTcX_fr q 108 0 0 (by decide)⟩
  intro rr M1 q
  obtain ⟨r, rfl, hx⟩ := (show ∃ r : Int, rr = [r] ∧ xTcX M n (M 107 0 (i + 1)) (M 107 0 (i + 2)) r M1 from xTcX_of q)
  refine ⟨rfl, ?_⟩
  have fr := xTcX_fr hx
  have hL1 : M1 108 0 0 = (L : Int) := by rw [fr 108 0 0 (by decide), hL]
  have e107 : M1 107 0 = M 107 0 := by
    funext k
    exact fr 107 0 k (by decide)
  refine d_rng (by simp only [clo, chi, cE2, sev, svl, cen, List.cons_append, List.nil_append]; omega) ?_
  refine d_scr (i + 1) (by simp only [cE2, sev, svl, cen, List.cons_append, List.nil_append]; omega) (by rw [hL1]; omega) ?_
  refine d_rng (by simp only [clo, chi, cE2, sev, svl, cen, List.cons_append, List.nil_append]; omega) ?_
  refine d_scr (i + 2) (by simp only [cE2, sev, svl, cen, List.cons_append, List.nil_append]; omega) (by rw [hL1]; omega) ?_
  rw [e107]
  have i1 : sI tg M1 := hx.1.1
  refine d_call ⟨m_traces (d := 34) hp (a := M 107 0 (i + 1)) (b := M 107 0 (i + 2)) i1 (by rw [fr 1 0 2 (by decide)]; exact h1) h9, fun rr M9 q => ?_⟩ (by simp [cAs, cE2, sev, svl, cen]) ?_
  · obtain ⟨r, -, q⟩ := (show ∃ r : Int, rr = [r] ∧ wTcM M1 n (M 107 0 (i + 1)) (M 107 0 (i + 2)) r M9 from q)
    exact ⟨fun k => wTcM_fr q 107 0 k (by decide), wTcM_fr q 108 0 0 (by decide)⟩
  intro rr M2 q
  obtain ⟨r', rfl, hm⟩ := (show ∃ r : Int, rr = [r] ∧ wTcM M1 n (M 107 0 (i + 1)) (M 107 0 (i + 2)) r M2 from q)
  refine ⟨rfl, ?_⟩
  obtain ⟨er, hz⟩ := fin_traces3 hI hR hX hx hm
  refine d_rng (by simp only [clo, chi, cE2, sev, svl, cen, List.cons_append, List.nil_append]; omega) ?_
  exact d_cut [((i + 7 : Nat) : Int)] (by simp [cE2, sev, svl, cen] <;> omega) ⟨rfl, rfl, hz⟩
set_option maxHeartbeats 4000000 in
theorem lw20 (hp : cPl tm tc tf EX) (hI : sI tg M) (hR : Ru M) (hX : sX M) (h3 : M 3 0 1 = (n : Int)) (h1 : M 1 0 2 = (n : Int)) (h9 : n ≤ 1000) (hL : M 108 0 0 = (L : Int)) (hi : i + 7 ≤ L) (hL9 : L ≤ 3584) : cden (lE EX l dC dI cA ad scrS) (fun _ _ => False) (fun pc v M2 => pc = 23 ∧ v = [((i + 7 : Nat) : Int)] ∧ Rqv M M2) 100 lS20 [(i : Int)] M := by
  have hl : M 3 0 1 = M 1 0 2 := by rw [h3, h1]
  refine d_rng (by simp only [clo, chi, cE2, sev, svl, cen, List.cons_append, List.nil_append]; omega) ?_
  refine d_scr (i + 1) (by simp only [cE2, sev, svl, cen, List.cons_append, List.nil_append]; omega) (by rw [hL]; omega) ?_
  refine d_rng (by simp only [clo, chi, cE2, sev, svl, cen, List.cons_append, List.nil_append]; omega) ?_
  refine d_scr (i + 2) (by simp only [cE2, sev, svl, cen, List.cons_append, List.nil_append]; omega) (by rw [hL]; omega) ?_
  refine d_rng (by simp only [clo, chi, cE2, sev, svl, cen, List.cons_append, List.nil_append]; omega) ?_
  refine d_scr (i + 3) (by simp only [cE2, sev, svl, cen, List.cons_append, List.nil_append]; omega) (by rw [hL]; omega) ?_
  refine d_br (fun h => ?_) (fun h => ?_)
  · refine d_call ⟨b_works (d := 36) hp (a := M 107 0 (i + 1)) (b := M 107 0 (i + 2)) (s := 0) ⟨by omega, by omega⟩, fun rr M9 q => ⟨fun k => (worksX_fr q).2 107 0 k (by decide) (by decide) (by decide), (worksX_fr q).2 108 0 0 (by decide) (by decide) (by decide)⟩⟩ (by simp [cAs, cE2, sev, svl, cen]) ?_
    intro rr M1 hx
    obtain ⟨⟨r, er⟩, fr⟩ := worksX_fr hx
    subst er
    refine ⟨rfl, ?_⟩
    have hL1 : M1 108 0 0 = (L : Int) := by rw [fr 108 0 0 (by decide) (by decide) (by decide), hL]
    have e107 : M1 107 0 = M 107 0 := by
      funext k
      exact fr 107 0 k (by decide) (by decide) (by decide)
    refine d_rng (by simp only [clo, chi, cE2, sev, svl, cen, List.cons_append, List.nil_append]; omega) ?_
    refine d_scr (i + 1) (by simp only [cE2, sev, svl, cen, List.cons_append, List.nil_append]; omega) (by rw [hL1]; omega) ?_
    refine d_rng (by simp only [clo, chi, cE2, sev, svl, cen, List.cons_append, List.nil_append]; omega) ?_
    refine d_scr (i + 2) (by simp only [cE2, sev, svl, cen, List.cons_append, List.nil_append]; omega) (by rw [hL1]; omega) ?_
    refine d_rng (by simp only [clo, chi, cE2, sev, svl, cen, List.cons_append, List.nil_append]; omega) ?_
    refine d_scr (i + 3) (by simp only [cE2, sev, svl, cen, List.cons_append, List.nil_append]; omega) (by rw [hL1]; omega) ?_
    rw [e107]
    refine d_br (fun hk9 => ?_) (fun hk9 => ?_)
    · refine d_call ⟨m_works (d := 36) hp (a := M 107 0 (i + 1)) (b := M 107 0 (i + 2)) (s := 0) ⟨by omega, by omega⟩, fun rr M9 q => ⟨fun k => (worksM_fr q).2 107 0 k (by decide) (by decide) (by decide), (worksM_fr q).2 108 0 0 (by decide) (by decide) (by decide)⟩⟩ (by simp [cAs, cE2, sev, svl, cen]) ?_
      intro rr M2 hm
      obtain ⟨⟨r', er⟩, -⟩ := worksM_fr hm
      subst er
      refine ⟨rfl, ?_⟩
      obtain ⟨-, hz⟩ := fin_works hI hX hl hR (s := 0) ⟨by omega, by omega⟩ hx hm
      refine d_rng (by simp only [clo, chi, cE2, sev, svl, cen, List.cons_append, List.nil_append]; omega) ?_
      exact d_cut [((i + 7 : Nat) : Int)] (by simp [cE2, sev, svl, cen] <;> omega) ⟨rfl, rfl, hz⟩
    · exact absurd (show False by (have hh := h; have hk := hk9; simp only [cCmp, cE2, sev, svl, cen, List.cons_append, List.nil_append] at hh hk; omega)) id
  · refine d_call ⟨b_works (d := 36) hp (a := M 107 0 (i + 1)) (b := M 107 0 (i + 2)) (s := 1) ⟨by omega, by omega⟩, fun rr M9 q => ⟨fun k => (worksX_fr q).2 107 0 k (by decide) (by decide) (by decide), (worksX_fr q).2 108 0 0 (by decide) (by decide) (by decide)⟩⟩ (by simp [cAs, cE2, sev, svl, cen]) ?_
    intro rr M1 hx
    obtain ⟨⟨r, er⟩, fr⟩ := worksX_fr hx
    subst er
    refine ⟨rfl, ?_⟩
    have hL1 : M1 108 0 0 = (L : Int) := by rw [fr 108 0 0 (by decide) (by decide) (by decide), hL]
    have e107 : M1 107 0 = M 107 0 := by
      funext k
      exact fr 107 0 k (by decide) (by decide) (by decide)
    refine d_rng (by simp only [clo, chi, cE2, sev, svl, cen, List.cons_append, List.nil_append]; omega) ?_
    refine d_scr (i + 1) (by simp only [cE2, sev, svl, cen, List.cons_append, List.nil_append]; omega) (by rw [hL1]; omega) ?_
    refine d_rng (by simp only [clo, chi, cE2, sev, svl, cen, List.cons_append, List.nil_append]; omega) ?_
    refine d_scr (i + 2) (by simp only [cE2, sev, svl, cen, List.cons_append, List.nil_append]; omega) (by rw [hL1]; omega) ?_
    refine d_rng (by simp only [clo, chi, cE2, sev, svl, cen, List.cons_append, List.nil_append]; omega) ?_
    refine d_scr (i + 3) (by simp only [cE2, sev, svl, cen, List.cons_append, List.nil_append]; omega) (by rw [hL1]; omega) ?_
    rw [e107]
    refine d_br (fun hk9 => ?_) (fun hk9 => ?_)
    · exact absurd (show False by (have hh := h; have hk := hk9; simp only [cCmp, cE2, sev, svl, cen, List.cons_append, List.nil_append] at hh hk; omega)) id
    · refine d_call ⟨m_works (d := 36) hp (a := M 107 0 (i + 1)) (b := M 107 0 (i + 2)) (s := 1) ⟨by omega, by omega⟩, fun rr M9 q => ⟨fun k => (worksM_fr q).2 107 0 k (by decide) (by decide) (by decide), (worksM_fr q).2 108 0 0 (by decide) (by decide) (by decide)⟩⟩ (by simp [cAs, cE2, sev, svl, cen]) ?_
      intro rr M2 hm
      obtain ⟨⟨r', er⟩, -⟩ := worksM_fr hm
      subst er
      refine ⟨rfl, ?_⟩
      obtain ⟨-, hz⟩ := fin_works hI hX hl hR (s := 1) ⟨by omega, by omega⟩ hx hm
      refine d_rng (by simp only [clo, chi, cE2, sev, svl, cen, List.cons_append, List.nil_append]; omega) ?_
      exact d_cut [((i + 7 : Nat) : Int)] (by simp [cE2, sev, svl, cen] <;> omega) ⟨rfl, rfl, hz⟩
set_option maxHeartbeats 4000000 in
theorem lw21 (hp : cPl tm tc tf EX) (hI : sI tg M) (hR : Ru M) (hX : sX M) (h3 : M 3 0 1 = (n : Int)) (h1 : M 1 0 2 = (n : Int)) (h9 : n ≤ 1000) (hL : M 108 0 0 = (L : Int)) (hi : i + 7 ≤ L) (hL9 : L ≤ 3584) : cden (lE EX l dC dI cA ad scrS) (fun _ _ => False) (fun pc v M2 => pc = 23 ∧ v = [((i + 7 : Nat) : Int)] ∧ Rqv M M2) 100 lS21 [(i : Int)] M := by
  have hl : M 3 0 1 = M 1 0 2 := by rw [h3, h1]
  obtain ⟨B, hV⟩ := id hR
  have hBc : ∀ r, r < 6 → oCl M r (B r) := fun r hr => (hV.2.2.1 r hr).1
  refine d_rng (by simp only [clo, chi, cE2, sev, svl, cen, List.cons_append, List.nil_append]; omega) ?_
  refine d_scr (i + 1) (by simp only [cE2, sev, svl, cen, List.cons_append, List.nil_append]; omega) (by rw [hL]; omega) ?_
  refine d_rng (by simp only [clo, chi, cE2, sev, svl, cen, List.cons_append, List.nil_append]; omega) ?_
  refine d_scr (i + 2) (by simp only [cE2, sev, svl, cen, List.cons_append, List.nil_append]; omega) (by rw [hL]; omega) ?_
  refine d_call ⟨b_ran (d := 33) hp (a := M 107 0 (i + 1)) (b := M 107 0 (i + 2)) hI hBc hV.2.2.2.2.2, fun rr M9 q => ⟨fun k => q.2.2.1 107 0 k (by decide) (by omega), q.2.2.1 108 0 0 (by decide) (by omega)⟩⟩ (by simp [cAs, cE2, sev, svl, cen]) ?_
  rintro rr M1 ⟨rfl, kx⟩
  refine ⟨rfl, ?_⟩
  have fr := kx.2.1
  obtain ⟨i1, z1, mb, m5⟩ := Ru_mid hI hX hV kx
  have hL1 : M1 108 0 0 = (L : Int) := by rw [fr 108 0 0 (by decide) (by omega), hL]
  have e107 : M1 107 0 = M 107 0 := by
    funext k
    exact fr 107 0 k (by decide) (by omega)
  refine d_rng (by simp only [clo, chi, cE2, sev, svl, cen, List.cons_append, List.nil_append]; omega) ?_
  refine d_scr (i + 1) (by simp only [cE2, sev, svl, cen, List.cons_append, List.nil_append]; omega) (by rw [hL1]; omega) ?_
  refine d_rng (by simp only [clo, chi, cE2, sev, svl, cen, List.cons_append, List.nil_append]; omega) ?_
  refine d_scr (i + 2) (by simp only [cE2, sev, svl, cen, List.cons_append, List.nil_append]; omega) (by rw [hL1]; omega) ?_
  rw [e107]
  refine d_call ⟨m_ran (d := 33) hp (Z := rZ M) (B := B) (a := M 107 0 (i + 1)) (b := M 107 0 (i + 2)) i1 z1 (rZn hI) mb m5, fun rr M9 q => ⟨fun k => q.2.2.1 107 0 k (by decide) (by omega), q.2.2.1 108 0 0 (by decide) (by omega)⟩⟩ (by simp [cAs, cE2, sev, svl, cen]) ?_
  rintro rr M2 ⟨rfl, k2⟩
  refine ⟨rfl, ?_⟩
  have hz := Ru_ask hX hl hV kx k2
  refine d_rng (by simp only [clo, chi, cE2, sev, svl, cen, List.cons_append, List.nil_append]; omega) ?_
  exact d_cut [((i + 7 : Nat) : Int)] (by simp [cE2, sev, svl, cen] <;> omega) ⟨rfl, rfl, hz⟩
set_option maxHeartbeats 4000000 in
theorem lw22 (hp : cPl tm tc tf EX) (hI : sI tg M) (hR : Ru M) (hX : sX M) (h3 : M 3 0 1 = (n : Int)) (h1 : M 1 0 2 = (n : Int)) (h9 : n ≤ 1000) (hL : M 108 0 0 = (L : Int)) (hi : i + 7 ≤ L) (hL9 : L ≤ 3584) : cden (lE EX l dC dI cA ad scrS) (fun _ _ => False) (fun pc v M2 => pc = 23 ∧ v = [((i + 7 : Nat) : Int)] ∧ Rqv M M2) 100 lS22 [(i : Int)] M := by
  have hl : M 3 0 1 = M 1 0 2 := by rw [h3, h1]
  obtain ⟨B, hV⟩ := id hR
  have hBc : ∀ r, r < 6 → oCl M r (B r) := fun r hr => (hV.2.2.1 r hr).1
  refine d_rng (by simp only [clo, chi, cE2, sev, svl, cen, List.cons_append, List.nil_append]; omega) ?_
  refine d_scr (i + 1) (by simp only [cE2, sev, svl, cen, List.cons_append, List.nil_append]; omega) (by rw [hL]; omega) ?_
  refine d_rng (by simp only [clo, chi, cE2, sev, svl, cen, List.cons_append, List.nil_append]; omega) ?_
  refine d_scr (i + 2) (by simp only [cE2, sev, svl, cen, List.cons_append, List.nil_append]; omega) (by rw [hL]; omega) ?_
  refine d_rng (by simp only [clo, chi, cE2, sev, svl, cen, List.cons_append, List.nil_append]; omega) ?_
  refine d_scr (i + 3) (by simp only [cE2, sev, svl, cen, List.cons_append, List.nil_append]; omega) (by rw [hL]; omega) ?_
  refine d_call ⟨b_made (d := 33) hp (a := M 107 0 (i + 1)) (b := M 107 0 (i + 2)) (w := M 107 0 (i + 3)) hI hBc hV.2.2.2.2.2, fun rr M9 q => ⟨fun k => q.2.2.1 107 0 k (by decide) (by omega), q.2.2.1 108 0 0 (by decide) (by omega)⟩⟩ (by simp [cAs, cE2, sev, svl, cen]) ?_
  rintro rr M1 ⟨rfl, kx⟩
  refine ⟨rfl, ?_⟩
  have fr := kx.2.1
  obtain ⟨i1, z1, mb, m5⟩ := Ru_mid hI hX hV kx
  have hL1 : M1 108 0 0 = (L : Int) := by rw [fr 108 0 0 (by decide) (by omega), hL]
  have e107 : M1 107 0 = M 107 0 := by
    funext k
    exact fr 107 0 k (by decide) (by omega)
  refine d_rng (by simp only [clo, chi, cE2, sev, svl, cen, List.cons_append, List.nil_append]; omega) ?_
  refine d_scr (i + 1) (by simp only [cE2, sev, svl, cen, List.cons_append, List.nil_append]; omega) (by rw [hL1]; omega) ?_
  refine d_rng (by simp only [clo, chi, cE2, sev, svl, cen, List.cons_append, List.nil_append]; omega) ?_
  refine d_scr (i + 2) (by simp only [cE2, sev, svl, cen, List.cons_append, List.nil_append]; omega) (by rw [hL1]; omega) ?_
  refine d_rng (by simp only [clo, chi, cE2, sev, svl, cen, List.cons_append, List.nil_append]; omega) ?_
  refine d_scr (i + 3) (by simp only [cE2, sev, svl, cen, List.cons_append, List.nil_append]; omega) (by rw [hL1]; omega) ?_
  rw [e107]
  refine d_call ⟨m_made (d := 33) hp (Z := rZ M) (B := B) (a := M 107 0 (i + 1)) (b := M 107 0 (i + 2)) (w := M 107 0 (i + 3)) i1 z1 (rZn hI) mb m5, fun rr M9 q => ⟨fun k => q.2.2.1 107 0 k (by decide) (by omega), q.2.2.1 108 0 0 (by decide) (by omega)⟩⟩ (by simp [cAs, cE2, sev, svl, cen]) ?_
  rintro rr M2 ⟨rfl, k2⟩
  refine ⟨rfl, ?_⟩
  have hz := Ru_ask hX hl hV kx k2
  refine d_rng (by simp only [clo, chi, cE2, sev, svl, cen, List.cons_append, List.nil_append]; omega) ?_
  exact d_cut [((i + 7 : Nat) : Int)] (by simp [cE2, sev, svl, cen] <;> omega) ⟨rfl, rfl, hz⟩
set_option maxHeartbeats 4000000 in
theorem lw23 (hp : cPl tm tc tf EX) (hI : sI tg M) (hR : Ru M) (hX : sX M) (h3 : M 3 0 1 = (n : Int)) (h1 : M 1 0 2 = (n : Int)) (h9 : n ≤ 1000) (hL : M 108 0 0 = (L : Int)) (hi : i + 7 ≤ L) (hL9 : L ≤ 3584) : cden (lE EX l dC dI cA ad scrS) (fun _ _ => False) (fun pc v M2 => pc = 23 ∧ v = [((i + 7 : Nat) : Int)] ∧ Rqv M M2) 100 lS23 [(i : Int)] M := by
  have hl : M 3 0 1 = M 1 0 2 := by rw [h3, h1]
  obtain ⟨B, hV⟩ := id hR
  have hBc : ∀ r, r < 6 → oCl M r (B r) := fun r hr => (hV.2.2.1 r hr).1
  refine d_rng (by simp only [clo, chi, cE2, sev, svl, cen, List.cons_append, List.nil_append]; omega) ?_
  refine d_scr (i + 1) (by simp only [cE2, sev, svl, cen, List.cons_append, List.nil_append]; omega) (by rw [hL]; omega) ?_
  refine d_call ⟨b_agrees (d := 33) hp (w := M 107 0 (i + 1)) hI hBc hV.2.2.2.2.2, fun rr M9 q => ⟨fun k => q.2.2.1 107 0 k (by decide) (by omega), q.2.2.1 108 0 0 (by decide) (by omega)⟩⟩ (by simp [cAs, cE2, sev, svl, cen]) ?_
  rintro rr M1 ⟨rfl, kx⟩
  refine ⟨rfl, ?_⟩
  have fr := kx.2.1
  obtain ⟨i1, z1, mb, m5⟩ := Ru_mid hI hX hV kx
  have hL1 : M1 108 0 0 = (L : Int) := by rw [fr 108 0 0 (by decide) (by omega), hL]
  have e107 : M1 107 0 = M 107 0 := by
    funext k
    exact fr 107 0 k (by decide) (by omega)
  refine d_rng (by simp only [clo, chi, cE2, sev, svl, cen, List.cons_append, List.nil_append]; omega) ?_
  refine d_scr (i + 1) (by simp only [cE2, sev, svl, cen, List.cons_append, List.nil_append]; omega) (by rw [hL1]; omega) ?_
  rw [e107]
  refine d_call ⟨m_agrees (d := 33) hp (Z := rZ M) (B := B) (w := M 107 0 (i + 1)) i1 z1 (rZn hI) mb m5, fun rr M9 q => ⟨fun k => q.2.2.1 107 0 k (by decide) (by omega), q.2.2.1 108 0 0 (by decide) (by omega)⟩⟩ (by simp [cAs, cE2, sev, svl, cen]) ?_
  rintro rr M2 ⟨e2, k2⟩
  rw [← rAgr_both (w := M 107 0 (i + 1)) hI hV (fun p => ((rwf_M hI hBc 6 (Nat.le_refl 6)).1 p).1) kx] at e2
  subst e2
  refine ⟨rfl, ?_⟩
  have hz := Ru_ask hX hl hV kx k2
  refine d_rng (by simp only [clo, chi, cE2, sev, svl, cen, List.cons_append, List.nil_append]; omega) ?_
  exact d_cut [((i + 7 : Nat) : Int)] (by simp [cE2, sev, svl, cen] <;> omega) ⟨rfl, rfl, hz⟩
set_option maxHeartbeats 4000000 in
theorem lw24 (hp : cPl tm tc tf EX) (hI : sI tg M) (hR : Ru M) (hX : sX M) (h3 : M 3 0 1 = (n : Int)) (h1 : M 1 0 2 = (n : Int)) (h9 : n ≤ 1000) (hL : M 108 0 0 = (L : Int)) (hi : i + 7 ≤ L) (hL9 : L ≤ 3584) : cden (lE EX l dC dI cA ad scrS) (fun _ _ => False) (fun pc v M2 => pc = 23 ∧ v = [((i + 7 : Nat) : Int)] ∧ Rqv M M2) 100 lS24 [(i : Int)] M := by
  have hl : M 3 0 1 = M 1 0 2 := by rw [h3, h1]
  obtain ⟨B, hV⟩ := id hR
  have hBc : ∀ r, r < 6 → oCl M r (B r) := fun r hr => (hV.2.2.1 r hr).1
  refine d_rng (by simp only [clo, chi, cE2, sev, svl, cen, List.cons_append, List.nil_append]; omega) ?_
  refine d_scr (i + 1) (by simp only [cE2, sev, svl, cen, List.cons_append, List.nil_append]; omega) (by rw [hL]; omega) ?_
  refine d_call ⟨b_missed (d := 33) hp (a := M 107 0 (i + 1)) hI hBc hV.2.2.2.2.2, fun rr M9 q => ⟨fun k => q.2.2.1 107 0 k (by decide) (by omega), q.2.2.1 108 0 0 (by decide) (by omega)⟩⟩ (by simp [cAs, cE2, sev, svl, cen]) ?_
  rintro rr M1 ⟨rfl, kx⟩
  refine ⟨rfl, ?_⟩
  have fr := kx.2.1
  obtain ⟨i1, z1, mb, m5⟩ := Ru_mid hI hX hV kx
  have hL1 : M1 108 0 0 = (L : Int) := by rw [fr 108 0 0 (by decide) (by omega), hL]
  have e107 : M1 107 0 = M 107 0 := by
    funext k
    exact fr 107 0 k (by decide) (by omega)
  refine d_rng (by simp only [clo, chi, cE2, sev, svl, cen, List.cons_append, List.nil_append]; omega) ?_
  refine d_scr (i + 1) (by simp only [cE2, sev, svl, cen, List.cons_append, List.nil_append]; omega) (by rw [hL1]; omega) ?_
  rw [e107]
  refine d_call ⟨m_missed (d := 33) hp (Z := rZ M) (B := B) (a := M 107 0 (i + 1)) i1 z1 (rZn hI) mb m5, fun rr M9 q => ⟨fun k => q.2.2.1 107 0 k (by decide) (by omega), q.2.2.1 108 0 0 (by decide) (by omega)⟩⟩ (by simp [cAs, cE2, sev, svl, cen]) ?_
  rintro rr M2 ⟨rfl, k2⟩
  refine ⟨rfl, ?_⟩
  have hz := Ru_ask hX hl hV kx k2
  refine d_br (fun h => ?_) (fun h => ?_)
  · refine d_rng (by simp only [clo, chi, cE2, sev, svl, cen, List.cons_append, List.nil_append]; omega) ?_
    exact d_cut [((i + 7 : Nat) : Int)] (by simp [cE2, sev, svl, cen] <;> omega) ⟨rfl, rfl, hz⟩
  · simp only [cCmp, cE2, sev, svl, cen, List.cons_append, List.nil_append] at h
    omega
/-! the law takes an order -/
abbrev lS19 : List CN := [(6, 0, 0, [(0, 0, (1, [(0, 1)]))]), (11, 0, 0, [(0, 0, (1, [(0, 1)]))]), (8, 196, 1, [(2, 1, (0, [])), (0, 0, (0, [(2, 1)]))]), (6, 0, 0, [(0, 0, (7, [(0, 1)]))]), (9, 23, 0, [(0, 0, (7, [(0, 1)]))])]
theorem lK19 : ochk [(23, lvN)] 0 1000 2 1042 lvN [(0, 0, (0, [(1, 1)]))] lS19 = true := by decide +kernel
theorem dO_1032 : decode cL_law 1032 = .ok (.aload_n 1, 1) := by decide +kernel
theorem dO_1033 : decode cL_law 1033 = .ok (.aload_n 0, 1) := by decide +kernel
theorem dO_1034 : decode cL_law 1034 = .ok (.iload 4, 2) := by decide +kernel
theorem dO_1036 : decode cL_law 1036 = .ok (.iconst 1, 1) := by decide +kernel
theorem dO_1037 : decode cL_law 1037 = .ok (.iadd, 1) := by decide +kernel
theorem dO_1038 : decode cL_law 1038 = .ok (.iaload, 1) := by decide +kernel
theorem dO_1039 : decode cL_law 1039 = .ok (.invokevirtual 108, 3) := by decide +kernel
theorem lw19 {M1 : SMem} {x r : Int} {ad0 ad1 : SAd} (hp : cPl tm tc tf EX) (hR : Ru M) (hG : sGa M (-1)) (h1 : M 1 0 2 = (n : Int)) (h9 : n ≤ 1000) (hL : M 108 0 0 = (L : Int)) (hi : i + 7 ≤ L) (hL9 : L ≤ 3584) (hx : x = M 107 0 (i + 1)) (hO : oOV (M 57 0) n (M 58 0) x M ad0 r M1 ad1) : cden (lE EX l dC dI cA ad scrS) (fun _ _ => False) (fun pc v M2 => pc = 23 ∧ v = [((i + 7 : Nat) : Int)] ∧ Rqo M M2) 100 lS19 [(i : Int), r] M1 := by
  have f1 := hO.1.2.2.2.1
  have i1 := hO.1.1
  obtain ⟨hRn, -⟩ := Ru_Rr hR
  have hWd : oWd M := by
    obtain ⟨B, -, q, -⟩ := hR
    exact q
  have hL1 : M1 108 0 0 = (L : Int) := (f1 108 0 0 (by omega)).trans hL
  have hW1 : oWd M1 := oWd_m (fun k => f1 16 0 k (by omega)) hWd
  have eT : M1 12 0 = M 57 0 := (oFm_row f1 (fun k q => by omega)).trans hRn.1.symm
  have eU : M1 17 0 = M 58 0 := (oFm_row f1 (fun k q => by omega)).trans hRn.2.1.symm
  have e2 : M1 1 0 2 = (n : Int) := (f1 1 0 2 (by omega)).trans h1
  refine d_rng (by simp only [clo, chi, cE2, sev, svl, cen, List.cons_append, List.nil_append]; omega) ?_
  refine d_scr (i + 1) (by simp only [cE2, sev, svl, cen, List.cons_append, List.nil_append]; omega) (by rw [hL1]; omega) ?_
  have hx1 : M1 107 0 (i + 1) = x := (f1 107 0 (i + 1) (by omega)).trans hx.symm
  rw [hx1]
  refine d_call ⟨cBG_mono (show 34 ≤ 39 by omega) (m_order (ad := ad) hp (x := x) i1 hW1 eT e2 h9 eU), fun rr M9 q => ?_⟩ (by simp [cAs, cE2, sev, svl, cen]) ?_
  · have fr := oPoM_fr (show oPoM (M 57 0) n (M 58 0) x M1 rr M9 from q)
    exact ⟨fun k => fr 107 0 k (by omega), fr 108 0 0 (by omega)⟩
  intro rr M2 q
  obtain ⟨rfl, hz⟩ := Ru_ord hR hG hO (show oPoM (M 57 0) n (M 58 0) x M1 rr M2 from q)
  refine ⟨rfl, ?_⟩
  refine d_rng (by simp only [clo, chi, cE2, sev, svl, cen, List.cons_append, List.nil_append]; omega) ?_
  exact d_cut [((i + 7 : Nat) : Int)] (by simp [cE2, sev, svl, cen] <;> omega) ⟨rfl, rfl, hz⟩
end LCS
section LCO
variable {EX : SEx} {l : Launch} {dC : Nat → ClassId} {dI : Nat → Nat → Nat} {cA : Nat → ClassId} {ad : SAd} {scrS L : Nat} {M : SMem} {i n : Nat}
set_option maxHeartbeats 4000000 in
theorem cOrd {p : Program} {e : Env} {R : Room} {s : State} {m : MethodId} {args : Array Value} {below : List Frame} {meth : Method} {c : Code} {Q : State → Prop} {A : Nat → Prop} {scr nc ns : Nat} {xs : Nat → Int32} {ws : va_W} {H : Heap} {locs : List Loc} {ls : Array Slot} {clv : ZL} (hp : cPl tm tc tf EX) (hch : cCh EX l dC dI cA scrS) (hcp : oVx EX l dC dI cA) (F : sF 40 (RL, yL_law, cL_law, 7, some .boolean, 50, 5000) EX p R s m args c dC dI cA A) (hX : va_X scr L xs s s.heap) (hbl : scr < s.heap.size) (hbA : ¬ A scr) (hnc : nc + 1 ≤ R.cells) (hns : ns + 1000 ≤ R.slots)
    (hC : ∀ (M2 : SMem) (ad2 : SAd) (ws2 : va_W) (H2 : Heap) (locs2 : List Loc) (ls2 : Array Slot) (clv2 : ZL), sH tf ad2 M2 cA ws2 → va_P (dC, dI) vwCl ws2 H2 → va_D A ws2 → va_S A s.heap H2 locs2 → lv_has ls2 7 clv2 → sls tf scr (cen [((i + 7 : Nat) : Int)]) ad2 lvN clv2 → Rqo M M2 → W p l e R s m args below meth c H2 locs2 (nc + 1) (ns + 1000) Q (F0 m 23 ls2 []))
    (hI : sI tg M) (hR : Ru M) (hsX : sX M) (hG : sGa M (-1)) (hE : sEa M) (h3 : M 3 0 1 = (n : Int)) (h1 : M 1 0 2 = (n : Int)) (h9 : n ≤ 1000) (hL : M 108 0 0 = (L : Int)) (hxs : ∀ j, j < L → M 107 0 j = (xs j).toInt) (hi : i + 7 ≤ L) (hL9 : L ≤ 3584)
    (hH : sH tf ad M cA ws) (hP : va_P (dC, dI) vwCl ws H) (hD : va_D A ws) (hS : va_S A s.heap H locs) (hl : lv_has ls 7 clv) (q6 : sls tf scr (cen [(i : Int)]) ad lvN clv) : W p l e R s m args below meth c H locs nc ns Q (F0 m 1032 ls []) := by
  obtain ⟨hx, hb, hml, hown, hts, hK, hA9, hRd, hRb, hE9⟩ := id F
  obtain ⟨v0, v1, v2, v3, v4, rfl, ⟨q0, q1, q2, q3, q4⟩⟩ : ∃ v0 v1 v2 v3 v4 : Value, clv = [(0, v0), (1, v1), (2, v2), (3, v3), (4, v4)] ∧ sv tf scr (cen [(i : Int)]) ad (3, 0, (0, [])) v0 ∧ sv tf scr (cen [(i : Int)]) ad (2, 0, (0, [])) v1 ∧ sv tf scr (cen [(i : Int)]) ad (2, 1, (0, [])) v2 ∧ sv tf scr (cen [(i : Int)]) ad (2, 2, (0, [])) v3 ∧ sv tf scr (cen [(i : Int)]) ad (0, 0, (0, [(0, 1)])) v4 := by
    match clv, q6 with
    | [(a0, v0), (a1, v1), (a2, v2), (a3, v3), (a4, v4)], q6 =>
      obtain ⟨e0, p0, e1, p1, e2, p2, e3, p3, e4, p4, -⟩ := q6
      have e0 : 0 = a0 := e0
      have e1 : 1 = a1 := e1
      have e2 : 2 = a2 := e2
      have e3 : 3 = a3 := e3
      have e4 : 4 = a4 := e4
      subst e0 e1 e2 e3 e4
      exact ⟨v0, v1, v2, v3, v4, rfl, p0, p1, p2, p3, p4⟩
  have h0 : v0 = .ref scr := by
    rcases q0 with ⟨z, -⟩ | ⟨z, -⟩ | ⟨z, -⟩ | ⟨-, z⟩
    · cases z
    · cases z
    · cases z
    · exact z
  obtain ⟨x1, rfl⟩ := sv_ref (v := (2, 0, (0, []))) rfl q1
  obtain ⟨iv, rfl, hiv⟩ := sv_int (v := (0, 0, (0, [(0, 1)]))) rfl q4
  subst h0
  have hiv : iv.toInt = (i : Int) := by
    rw [hiv]
    simp only [sev, svl, cen]
    omega
  have hiv1 : (iv + 1).toInt = ((i + 1 : Nat) : Int) := siadd ⟨by omega, by omega⟩ (by rw [hiv]; rfl)
  have hclp := sclamp (x := iv + 1) (by omega)
  have hnt : (iv + 1).toNatClampNeg = i + 1 := by omega
  have hin : vp_in (iv + 1) L := vp_in_iff.mpr ⟨by omega, by omega⟩
  refine lv_aload_n hx hb dO_1032 rfl (hl.2.2 (1, .ref x1) (List.Mem.tail _ (List.Mem.head _))) ?_
  refine lv_aload_n hx hb dO_1033 rfl (hl.2.2 (0, .ref scr) (List.Mem.head _)) ?_
  refine lv_iload hx hb dO_1034 (hl.2.2 (4, .int iv) (List.Mem.tail _ (List.Mem.tail _ (List.Mem.tail _ (List.Mem.tail _ (List.Mem.head _)))))) ?_
  refine lv_iconst (v := 1) hx hb dO_1036 rfl ?_
  refine lv_iadd hx hb dO_1037 ?_
  refine va_sld hx hb hX hbl hbA hS hin dO_1038 ?_
  rw [hnt]
  have hxx : M 107 0 (i + 1) = (xs (i + 1)).toInt := hxs _ (by omega)
  generalize hy : xs (i + 1) = y at hxx
  have hs0 : svs tf scr (cen [y.toInt]) ad oAsy [.ref x1, .int y] := ⟨q1, sv_mkI (by simp only [sev, svl, cen]; omega), trivial⟩
  have hs := svs_conc (ρ' := fun _ => 0) (svs_scr (scr' := scrS) (by decide) hs0)
  have hcal : zcal tm RL 108 2 kX9_order 1 8 [881, 882, 117, 884, 883] = true := by decide +kernel
  have hrc := srecv (kd := 2) (ci := 8) (y := yX9_order) hK hP hH hs0 (by decide +kernel) (by decide +kernel)
  refine scall hp.1 (d' := 39) (zm := tm) (me2 := oMe) F oMe_at hcal (sRun_mono (show 12 ≤ 39 by omega) (b_orderV (T := M 57 0) (U := M 58 0) hp hch hcp hI hsX hE rfl h3 rfl h9 hH hs)) hP hD hS hl (crest := []) rfl (by decide) (by rw [slens hs0]; decide) rfl hrc ⟨hnc, hns⟩ (Or.inr ⟨rfl, rfl⟩) dO_1039 (fun r ws' H1 locs1 hPO p1 p2 p3 => ?_)
  obtain ⟨rv, M1, ad1, ⟨z, rfl, ez⟩, hH1, hO⟩ := hPO
  have had : ∀ (ρ : Nat → Int) (v : SV) (cv : Value), v.2.1 ≠ 100 → sv tf scr ρ ad v cv → sv tf scr ρ ad1 v cv := by
    intro ρ v cv h100 h
    rcases h with h | h | ⟨z1, j, en, z2, z3, z4, z5⟩ | h
    · exact Or.inl h
    · exact Or.inr (Or.inl h)
    · exact Or.inr (Or.inr (Or.inl ⟨z1, j, en, z2, z3, z4, by rw [hO.1.2.2.2.2.1 _ _ h100]; exact z5⟩))
    · exact Or.inr (Or.inr (Or.inr h))
  have hSx : ∀ (M : SMem) (f j i : Nat) (z : Int), f < tf.length → (M 108 0 0 = (L : Int) ∧ ∀ j, j < L → M 107 0 j = (xs j).toInt) → (supd M f j i z 108 0 0 = (L : Int) ∧ ∀ j', j' < L → supd M f j i z 107 0 j' = (xs j').toInt) := by
    intro M f j i z hf h
    have hf : f < 107 := by
      have e : tf.length ≤ 107 := by decide +kernel
      omega
    refine ⟨by rw [supd_f (by omega)]; exact h.1, fun j' hj => by rw [supd_f (by omega)]; exact h.2 j' hj⟩
  have hSxE : ∀ kc as M post, lE EX l dC dI cA ad1 scrS kc as M post → (M 108 0 0 = (L : Int) ∧ ∀ j, j < L → M 107 0 j = (xs j).toInt) → ∀ rr M', post rr M' → (M' 108 0 0 = (L : Int) ∧ ∀ j, j < L → M' 107 0 j = (xs j).toInt) := by
    intro kc as M post hE h rr M' hpo
    obtain ⟨z1, z2⟩ := hE.2 rr M' hpo
    exact ⟨by rw [z2]; exact h.1, fun j hj => by rw [z1]; exact h.2 j hj⟩
  have hC9 : ∀ (pc : Nat) (T : SL), cfind pc [(23, lvN)] = some T → ∀ (v : List Int) (M2 : SMem) (ws : va_W) (H : Heap) (locs : List Loc) (ls : Array Slot) (clv : ZL), (M2 108 0 0 = (L : Int) ∧ ∀ j, j < L → M2 107 0 j = (xs j).toInt) → sH tf ad1 M2 cA ws → va_P (dC, dI) vwCl ws H → va_D A ws → va_S A s.heap H locs → lv_has ls 7 clv → sls tf scr (cen v) ad1 T clv → (pc = 23 ∧ v = [((i + 7 : Nat) : Int)] ∧ Rqo M M2) → W p l e R s m args below meth c H locs (nc + 1) (ns + 1000) Q (F0 m pc ls []) := by
    intro pc T hf v M2 ws H locs ls clv h1 h2 h3 h4 h5 h6 h7 h8
    obtain ⟨rfl, rfl, h8⟩ := h8
    cases hf
    exact hC M2 ad1 ws H locs ls clv h2 h3 h4 h5 h6 h7 h8
  have hgo := cgo_ok (k := 0) (ad := ad1) (E := lE EX l dC dI cA ad1 scrS) (Qr := fun _ _ => False) (scrS := scrS) (nc := nc + 1) (ns := ns + 1000) (e := e) (below := below) (meth := meth) (Q := Q) (Sx := fun M => M 108 0 0 = (L : Int) ∧ ∀ j, j < L → M 107 0 j = (xs j).toInt) (scr := scr) (cu := [(23, lvN)]) (zc := tc) hp.1 hp.2.1 hp.2.2.1 hp.2.2.2.1 hp.2.2.2.2 hSx hSxE (fun _ _ _ _ h => h.1) F rfl rfl hnc hns (fun h => by cases h) (fun _ => ⟨L, xs, hX, hbl, hbA, fun M h => h⟩) hC9 (fun _ _ _ _ _ _ _ _ _ _ h => h.elim) 1000 2 1042 lvN [(0, 0, (0, [(1, 1)]))] lS19 (ochk_ok lK19)
  refine hgo 100 [(i : Int), rv] M1 ws' H1 locs1 ls _ [.int z] rfl ⟨(hO.1.2.2.2.1 108 0 0 (by omega)).trans hL, fun j hj => (hO.1.2.2.2.1 107 0 j (by omega)).trans (hxs j hj)⟩ hH1 p1 p2 p3 hl ⟨rfl, had _ _ _ (by decide) q0, rfl, had _ _ _ (by decide) q1, rfl, had _ _ _ (by decide) q2, rfl, had _ _ _ (by decide) q3, rfl, sv_mkI (by simp only [sev, svl, cen]; omega), trivial⟩ ⟨sv_mkI (by simp only [sev, svl, cen]; omega), trivial⟩ (lw19 hp hR hG h1 h9 hL hi hL9 hxx.symm hO)
end LCO
