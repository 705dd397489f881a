/-! a contract of the symbolic engine as one of numbers: what it may write, and nothing of values -/
def cEx (X : List SV) : Bool := match X with
  | [] => true
  | [v] => Nat.beq v.1 0
  | _ => false
theorem svs_ev {fm : List SF} {scr : Nat} {ρ : Nat → Int} {ad : SAd} : ∀ {vs : List SV} {cs : List Value}, svs fm scr (fun _ => 0) ad ((vs.map (fun v => (v.1, v.2.1, sev ρ v.2.2))).map cK) cs → svs fm scr ρ ad vs cs := by
  intro vs
  induction vs with
  | nil => intro cs h; cases svs_nil h; trivial
  | cons v r ih =>
    intro cs h
    obtain ⟨c, cr, rfl, h1, h2⟩ := svs_cons h
    refine ⟨?_, ih h2⟩
    have h1 : sv fm scr (fun _ => 0) ad (v.1, v.2.1, sc (sev ρ v.2.2)) c := h1
    unfold sv at h1 ⊢
    rw [sev_c] at h1
    exact h1
section CBR
variable {EX : SEx} {zm : List ZMe} {fm : List SF} {rg : SRg} {l : Launch} {dC : Nat → ClassId} {dI : Nat → Nat → Nat} {cA : Nat → ClassId} {ad : SAd} {scrS scrC : Nat} {C : SC}
theorem cBG_of (hC : sCok zm fm rg EX l dC dI cA scrC C) (hno : C.2.2.2.2.1.all (fun q => !(Nat.beq q.2 999999)) = true) (hex : C.2.2.2.2.2.2.1.all (fun X => cEx X.1) = true) (hk : sno3 C.2.2.1 = true) {ρ0 : Nat → Int} {as : List CA} {M : SMem} (has : as = C.2.2.1.map (fun v => (v.1, v.2.1, sev ρ0 v.2.2))) (hI : sI rg M) (hX : sX M) (hK : sK ρ0 C.2.2.2.1.2.2.1) (hmo : smo sfI ρ0 M C.2.2.2.1.1) : cBG zm fm EX l dC dI cA ad scrS C.2.2.2.2.2.2.2 C.2.1 as M (fun rr M' => sI rg M' ∧ sX M' ∧ (∀ f j i, (f, scl rg f i) ∉ C.2.2.2.2.1 → M' f j i = M f j i) ∧ ∃ X ∈ C.2.2.2.2.2.2.1, ∃ ρ' : Nat → Int, (∀ t, t < C.2.2.2.1.2.1 → ρ' t = ρ0 t) ∧ sK ρ' X.2.2.2.1 ∧ smo sfI ρ' M' X.2.1 ∧ rr = X.1.map (fun v => sev ρ' v.2.2)) := by
  subst has
  intro me hme ws cas hH hs p e R s m args below meth c Q A ls F hP hD hl hend
  refine hC me hme ρ0 M ad ws cas hK hH hI hX hmo (svs_scr hk (svs_ev hs)) p e R s m args below meth c Q A ls F hP hD hl (fun pc' ls' r ws' H locs nc ns h1 h2 h3 h4 h5 h6 h7 => ?_)
  obtain ⟨X, hX9, ρ', M', ad', a1, a2, ⟨b1, b2, b3, b4⟩, b5⟩ := h2
  have ead : ad' = ad := by
    funext f j
    refine b4.2.1 f j (fun z => ?_)
    have := List.all_eq_true.mp hno _ z
    simp at this
  subst ead
  refine hend pc' ls' r ws' H locs nc ns h1 ⟨X.1.map (fun v => sev ρ' v.2.2), M', ?_, b1, b2.1, b2.2, b4.1, X, hX9, ρ', a1, a2, b3, rfl⟩ h3 h4 h5 h6 h7
  have hx := List.all_eq_true.mp hex X hX9
  match hX1 : X.1, hx, b5 with
  | [], hx, b5 =>
    cases svs_nil b5
    exact ⟨[], rfl, rfl⟩
  | [v], hx, b5 =>
    obtain ⟨cv, cr, rfl, q1, q2⟩ := svs_cons b5
    cases svs_nil q2
    obtain ⟨x, rfl, ex⟩ := sv_int hx q1
    exact ⟨[x], rfl, by show [x.toInt] = [sev ρ' v.2.2]; rw [ex]⟩
end CBR
