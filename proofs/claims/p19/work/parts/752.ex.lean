/-! what is known beside the world -/
def zYd (U : State) : Prop := va_Nw (.declares (Bundle.initS "java/lang/RuntimeException")) U ∧ va_Nw (.declares (Bundle.initS "java/lang/Exception")) U ∧ va_Nw (.declares (Bundle.initS "java/lang/Throwable")) U
def zYH (sa : Nat) (A : Nat → Prop) (U : State) (H : Heap) : Prop := vx_Zq Bundle.tN "UNASSIGNED_STACK" Bundle.steD A U H ∧ vx_Zq Bundle.tN "SUPPRESSED_SENTINEL" Bundle.listD A U H ∧ vk_R RX9 147 "no such cut" sa U ∧ va_Nw (.castable "java/util/NoSuchElementException" "java/util/NoSuchElementException") U ∧ zYd U
def zJ (aK aV : Nat) (A : Nat → Prop) (U : State) (H : Heap) : Prop := (va_O RJ0 aK A U H ∧ va_OF RJ0 "coder" "B" (.int 0) aK A U H ∧ va_OF RJ0 "value" "[B" (.ref aV) aK A U H ∧ ∃ g : Nat → Int32, va_T .byte aV 120 (fun j => .int (g j)) A U H) ∧ va_Z RJ0 "COMPACT_STRINGS" "Z" (.int 1) A U H ∧ va_Zq RJ3 "SIOOBE_FORMATTER" "Ljava/util/function/BiFunction;" A U H
def zEX (aK aV sa : Nat) (tx : String) : SEx := fun A U H => zX U ∧ zJ aK aV A U H ∧ vk_R "NamesUnder$OrderReader" 159 tx aK U ∧ zYH sa A U H
theorem zEX_ok (aK aV sa : Nat) (tx : String) : sEXok (zEX aK aV sa tx) := by
  refine ⟨fun A U H H1 h hq => ?_, fun A B U H h hAB => ?_, fun A s U H hW h => ?_, fun A u U H hv h => ?_, fun A U H h => h.1⟩
  · obtain ⟨h1, ⟨⟨j1, j2, j3, g, j4⟩, j5, j6⟩, h3, y1, y2, y3, y4, y5⟩ := h
    exact ⟨h1, ⟨⟨j1.kept hq, j2.kept hq, j3.kept hq, g, j4.kept hq⟩, j5.kept hq, j6.kept hq⟩, h3, y1.kept hq, y2.kept hq, y3, y4, y5⟩
  · obtain ⟨h1, ⟨⟨j1, j2, j3, g, j4⟩, j5, j6⟩, h3, y1, y2, y3, y4, y5⟩ := h
    exact ⟨h1, ⟨⟨j1.narrow hAB, j2.narrow hAB, j3.narrow hAB, g, j4.narrow hAB⟩, j5.narrow hAB, j6.narrow hAB⟩, h3, y1.narrow hAB, y2.narrow hAB, y3, y4, y5⟩
  · obtain ⟨h1, ⟨⟨j1, j2, j3, g, j4⟩, j5, j6⟩, h3, y1, y2, y3, y4, y5, y6, y7⟩ := h
    have ha := hW.alike
    exact ⟨h1.warm hW, ⟨⟨j1.moved ha, j2.moved ha, j3.moved ha, g, j4.moved ha⟩, j5.moved ha, j6.moved ha⟩, h3.warm hW, y1.moved ha, y2.moved ha, y3.warm hW, va_Nw.warmC hW y4, va_Nw.warmD hW y5, va_Nw.warmD hW y6, va_Nw.warmD hW y7⟩
  · obtain ⟨h1, ⟨⟨j1, j2, j3, g, j4⟩, j5, j6⟩, h3, y1, y2, y3, y4, y5, y6, y7⟩ := h
    have ha : u.vm.Alike U.vm := by rw [hv]; exact Vm.Alike.refl _
    exact ⟨zX.same hv h1, ⟨⟨j1.moved ha, j2.moved ha, j3.moved ha, g, j4.moved ha⟩, j5.moved ha, j6.moved ha⟩, vk_R.same hv.symm h3, y1.moved ha, y2.moved ha, vk_R.same hv.symm y3, va_Nw.same rfl hv y4, va_Nw.same rfl hv y5, va_Nw.same rfl hv y6, va_Nw.same rfl hv y7⟩
theorem zEX_J (aK aV sa : Nat) (tx : String) : sJ (zEX aK aV sa tx) aK aV := fun A s H h => h.2.1
/-- what a run wants to be told, but for the contracts and the law's layer -/
theorem zCtx {l : Launch} {dC : Nat → ClassId} {dI : Nat → Nat → Nat} {cA : Nat → ClassId} {aK aV sa : Nat} {tx : String} {zm : List ZMe} {cts : List (List SC)} {N : Nat} (hc : ∀ kc Cs, cts[kc]? = some Cs → ∀ C ∈ Cs, C.1 < N → C.2.1 = kc ∧ sCok zm tf tg (zEX aK aV sa tx) l dC dI cA aK C) (hL : 1 ≤ N → sLAY tf tg (zEX aK aV sa tx) l dC dI cA) : sCtx zm tf tg (zEX aK aV sa tx) l dC dI cA aK cts N :=
  ⟨zEX_ok aK aV sa tx, tDP, tST, jchr (zEX_ok aK aV sa tx) (zEX_J aK aV sa tx), fun A s H h => ⟨tx, h.2.2.1⟩, fun ci C T N h => (zzcl ci C T N h).imp_right (fun ⟨ty0, h1, h2, _⟩ => ⟨ty0, h1, h2⟩), hc, hL, tcl2⟩
