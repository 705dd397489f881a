/-! every contract holds -/
def tEk (kc : Nat) (Cs : List SC) : Prop := ∀ C ∈ Cs, C.2.1 = kc ∧ (C = tC1 ∨ ∃ cuts : List SCu, sckE tm tc tf tg tcs C cuts 2000 = true ∧ ∀ B ∈ cuts, sckA tm tc tf tg tcs C cuts 2000 B = true)
theorem tEk_nil (kc : Nat) : tEk kc [] := fun C h => absurd h List.not_mem_nil
theorem tEk_cons {kc : Nat} {C : SC} {Cs : List SC} (h1 : C.2.1 = kc) (h2 : C = tC1 ∨ ∃ cuts : List SCu, sckE tm tc tf tg tcs C cuts 2000 = true ∧ ∀ B ∈ cuts, sckA tm tc tf tg tcs C cuts 2000 B = true) (h : tEk kc Cs) : tEk kc (C :: Cs) := fun D hD => (List.mem_cons.mp hD).elim (fun e => by rw [e]; exact ⟨h1, h2⟩) (h D)
theorem tEk1 : tEk 1 [tC3] := (tEk_cons rfl (Or.inr ⟨tU3, te3, ta3⟩) (tEk_nil 1))
theorem tEk2 : tEk 2 [tC4] := (tEk_cons rfl (Or.inr ⟨tU4, te4, ta4⟩) (tEk_nil 2))
theorem tEk3 : tEk 3 [tC5] := (tEk_cons rfl (Or.inr ⟨tU5, te5, ta5⟩) (tEk_nil 3))
theorem tEk4 : tEk 4 [tC6] := (tEk_cons rfl (Or.inr ⟨tU6, te6, ta6⟩) (tEk_nil 4))
theorem tEk5 : tEk 5 [tC7] := (tEk_cons rfl (Or.inr ⟨tU7, te7, ta7⟩) (tEk_nil 5))
theorem tEk6 : tEk 6 [tC8] := (tEk_cons rfl (Or.inr ⟨tU8, te8, ta8⟩) (tEk_nil 6))
theorem tEk7 : tEk 7 [tC9, tC10, tC11, tC12, tC13, tC14, tC15] := (tEk_cons rfl (Or.inr ⟨tU9, te9, ta9⟩) (tEk_cons rfl (Or.inr ⟨tU10, te10, ta10⟩) (tEk_cons rfl (Or.inr ⟨tU11, te11, ta11⟩) (tEk_cons rfl (Or.inr ⟨tU12, te12, ta12⟩) (tEk_cons rfl (Or.inr ⟨tU13, te13, ta13⟩) (tEk_cons rfl (Or.inr ⟨tU14, te14, ta14⟩) (tEk_cons rfl (Or.inr ⟨tU15, te15, ta15⟩) (tEk_nil 7))))))))
theorem tEk9 : tEk 9 [tC16] := (tEk_cons rfl (Or.inr ⟨tU16, te16, ta16⟩) (tEk_nil 9))
theorem tEk10 : tEk 10 [tC17] := (tEk_cons rfl (Or.inr ⟨tU17, te17, ta17⟩) (tEk_nil 10))
theorem tEk12 : tEk 12 [tC18] := (tEk_cons rfl (Or.inr ⟨tU18, te18, ta18⟩) (tEk_nil 12))
theorem tEk14 : tEk 14 [tC19] := (tEk_cons rfl (Or.inr ⟨tU19, te19, ta19⟩) (tEk_nil 14))
theorem tEk15 : tEk 15 [tC20] := (tEk_cons rfl (Or.inr ⟨tU20, te20, ta20⟩) (tEk_nil 15))
theorem tEk17 : tEk 17 [tC21] := (tEk_cons rfl (Or.inr ⟨tU21, te21, ta21⟩) (tEk_nil 17))
theorem tEk19 : tEk 19 [tC22] := (tEk_cons rfl (Or.inr ⟨tU22, te22, ta22⟩) (tEk_nil 19))
theorem tEk20 : tEk 20 [tC23] := (tEk_cons rfl (Or.inr ⟨tU23, te23, ta23⟩) (tEk_nil 20))
theorem tEk21 : tEk 21 [tC24] := (tEk_cons rfl (Or.inr ⟨tU24, te24, ta24⟩) (tEk_nil 21))
theorem tEk23 : tEk 23 [tC25] := (tEk_cons rfl (Or.inr ⟨tU25, te25, ta25⟩) (tEk_nil 23))
theorem tEk24 : tEk 24 [tC26] := (tEk_cons rfl (Or.inr ⟨tU26, te26, ta26⟩) (tEk_nil 24))
theorem tEk26 : tEk 26 [tC27] := (tEk_cons rfl (Or.inr ⟨tU27, te27, ta27⟩) (tEk_nil 26))
theorem tEk30 : tEk 30 [tC28] := (tEk_cons rfl (Or.inr ⟨tU28, te28, ta28⟩) (tEk_nil 30))
theorem tEk31 : tEk 31 [tC29] := (tEk_cons rfl (Or.inr ⟨tU29, te29, ta29⟩) (tEk_nil 31))
theorem tEk36 : tEk 36 [tC30] := (tEk_cons rfl (Or.inr ⟨tU30, te30, ta30⟩) (tEk_nil 36))
theorem tEk37 : tEk 37 [tC31] := (tEk_cons rfl (Or.inr ⟨tU31, te31, ta31⟩) (tEk_nil 37))
theorem tEk38 : tEk 38 [tC32] := (tEk_cons rfl (Or.inr ⟨tU32, te32, ta32⟩) (tEk_nil 38))
theorem tEk40 : tEk 40 [tC33] := (tEk_cons rfl (Or.inr ⟨tU33, te33, ta33⟩) (tEk_nil 40))
theorem tEk41 : tEk 41 [tC34] := (tEk_cons rfl (Or.inr ⟨tU34, te34, ta34⟩) (tEk_nil 41))
theorem tEk42 : tEk 42 [tC35] := (tEk_cons rfl (Or.inr ⟨tU35, te35, ta35⟩) (tEk_nil 42))
theorem tEk43 : tEk 43 [tC36] := (tEk_cons rfl (Or.inr ⟨tU36, te36, ta36⟩) (tEk_nil 43))
theorem tEk44 : tEk 44 [tC37] := (tEk_cons rfl (Or.inr ⟨tU37, te37, ta37⟩) (tEk_nil 44))
theorem tEk45 : tEk 45 [tC38] := (tEk_cons rfl (Or.inr ⟨tU38, te38, ta38⟩) (tEk_nil 45))
theorem tEk47 : tEk 47 [tC39] := (tEk_cons rfl (Or.inr ⟨tU39, te39, ta39⟩) (tEk_nil 47))
theorem tEk48 : tEk 48 [tC40] := (tEk_cons rfl (Or.inr ⟨tU40, te40, ta40⟩) (tEk_nil 48))
theorem tEk50 : tEk 50 [tC41] := (tEk_cons rfl (Or.inr ⟨tU41, te41, ta41⟩) (tEk_nil 50))
theorem tEk52 : tEk 52 [tC42] := (tEk_cons rfl (Or.inr ⟨tU42, te42, ta42⟩) (tEk_nil 52))
theorem tEk53 : tEk 53 [tC43] := (tEk_cons rfl (Or.inr ⟨tU43, te43, ta43⟩) (tEk_nil 53))
theorem tEk55 : tEk 55 [tC44] := (tEk_cons rfl (Or.inr ⟨tU44, te44, ta44⟩) (tEk_nil 55))
theorem tEk58 : tEk 58 [tC45] := (tEk_cons rfl (Or.inr ⟨tU45, te45, ta45⟩) (tEk_nil 58))
theorem tEk60 : tEk 60 [tC46] := (tEk_cons rfl (Or.inr ⟨tU46, te46, ta46⟩) (tEk_nil 60))
theorem tEk62 : tEk 62 [tC47] := (tEk_cons rfl (Or.inr ⟨tU47, te47, ta47⟩) (tEk_nil 62))
theorem tEk68 : tEk 68 [tC48] := (tEk_cons rfl (Or.inr ⟨tU48, te48, ta48⟩) (tEk_nil 68))
theorem tEk70 : tEk 70 [tC49] := (tEk_cons rfl (Or.inr ⟨tU49, te49, ta49⟩) (tEk_nil 70))
theorem tEk72 : tEk 72 [tC50] := (tEk_cons rfl (Or.inr ⟨tU50, te50, ta50⟩) (tEk_nil 72))
theorem tEk73 : tEk 73 [tC51] := (tEk_cons rfl (Or.inr ⟨tU51, te51, ta51⟩) (tEk_nil 73))
theorem tEk76 : tEk 76 [tC52] := (tEk_cons rfl (Or.inr ⟨tU52, te52, ta52⟩) (tEk_nil 76))
theorem tEk77 : tEk 77 [tC53] := (tEk_cons rfl (Or.inr ⟨tU53, te53, ta53⟩) (tEk_nil 77))
theorem tEk78 : tEk 78 [tC54] := (tEk_cons rfl (Or.inr ⟨tU54, te54, ta54⟩) (tEk_nil 78))
theorem tEk79 : tEk 79 [tC55] := (tEk_cons rfl (Or.inr ⟨tU55, te55, ta55⟩) (tEk_nil 79))
theorem tEk81 : tEk 81 [tC56] := (tEk_cons rfl (Or.inr ⟨tU56, te56, ta56⟩) (tEk_nil 81))
theorem tEk82 : tEk 82 [tC57] := (tEk_cons rfl (Or.inr ⟨tU57, te57, ta57⟩) (tEk_nil 82))
theorem tEk83 : tEk 83 [tC58] := (tEk_cons rfl (Or.inr ⟨tU58, te58, ta58⟩) (tEk_nil 83))
theorem tEk84 : tEk 84 [tC59] := (tEk_cons rfl (Or.inr ⟨tU59, te59, ta59⟩) (tEk_nil 84))
theorem tEk86 : tEk 86 [tC60] := (tEk_cons rfl (Or.inr ⟨tU60, te60, ta60⟩) (tEk_nil 86))
theorem tEk87 : tEk 87 [tC61] := (tEk_cons rfl (Or.inr ⟨tU61, te61, ta61⟩) (tEk_nil 87))
theorem tEk88 : tEk 88 [tC62] := (tEk_cons rfl (Or.inr ⟨tU62, te62, ta62⟩) (tEk_nil 88))
theorem tEk89 : tEk 89 [tC63] := (tEk_cons rfl (Or.inr ⟨tU63, te63, ta63⟩) (tEk_nil 89))
theorem tEk92 : tEk 92 [tC64] := (tEk_cons rfl (Or.inr ⟨tU64, te64, ta64⟩) (tEk_nil 92))
theorem tEk93 : tEk 93 [tC65] := (tEk_cons rfl (Or.inr ⟨tU65, te65, ta65⟩) (tEk_nil 93))
theorem tEk95 : tEk 95 [tC66] := (tEk_cons rfl (Or.inr ⟨tU66, te66, ta66⟩) (tEk_nil 95))
theorem tEk96 : tEk 96 [tC67] := (tEk_cons rfl (Or.inr ⟨tU67, te67, ta67⟩) (tEk_nil 96))
theorem tEk97 : tEk 97 [tC68, tC69, tC70, tC71, tC72, tC73, tC74] := (tEk_cons rfl (Or.inr ⟨tU68, te68, ta68⟩) (tEk_cons rfl (Or.inr ⟨tU69, te69, ta69⟩) (tEk_cons rfl (Or.inr ⟨tU70, te70, ta70⟩) (tEk_cons rfl (Or.inr ⟨tU71, te71, ta71⟩) (tEk_cons rfl (Or.inr ⟨tU72, te72, ta72⟩) (tEk_cons rfl (Or.inr ⟨tU73, te73, ta73⟩) (tEk_cons rfl (Or.inr ⟨tU74, te74, ta74⟩) (tEk_nil 97))))))))
theorem tEk98 : tEk 98 [tC75] := (tEk_cons rfl (Or.inr ⟨tU75, te75, ta75⟩) (tEk_nil 98))
theorem tEk99 : tEk 99 [tC76] := (tEk_cons rfl (Or.inr ⟨tU76, te76, ta76⟩) (tEk_nil 99))
theorem tEk100 : tEk 100 [tC77] := (tEk_cons rfl (Or.inr ⟨tU77, te77, ta77⟩) (tEk_nil 100))
theorem tEk102 : tEk 102 [tC78] := (tEk_cons rfl (Or.inr ⟨tU78, te78, ta78⟩) (tEk_nil 102))
theorem tEk105 : tEk 105 [tC79] := (tEk_cons rfl (Or.inr ⟨tU79, te79, ta79⟩) (tEk_nil 105))
theorem tEk106 : tEk 106 [tC80] := (tEk_cons rfl (Or.inr ⟨tU80, te80, ta80⟩) (tEk_nil 106))
theorem tEk107 : tEk 107 [tC81] := (tEk_cons rfl (Or.inr ⟨tU81, te81, ta81⟩) (tEk_nil 107))
theorem tEk109 : tEk 109 [tC82] := (tEk_cons rfl (Or.inr ⟨tU82, te82, ta82⟩) (tEk_nil 109))
theorem tEk110 : tEk 110 [tC83, tC84, tC85, tC86, tC87, tC88, tC89] := (tEk_cons rfl (Or.inr ⟨tU83, te83, ta83⟩) (tEk_cons rfl (Or.inr ⟨tU84, te84, ta84⟩) (tEk_cons rfl (Or.inr ⟨tU85, te85, ta85⟩) (tEk_cons rfl (Or.inr ⟨tU86, te86, ta86⟩) (tEk_cons rfl (Or.inr ⟨tU87, te87, ta87⟩) (tEk_cons rfl (Or.inr ⟨tU88, te88, ta88⟩) (tEk_cons rfl (Or.inr ⟨tU89, te89, ta89⟩) (tEk_nil 110))))))))
theorem tEk112 : tEk 112 [tC90] := (tEk_cons rfl (Or.inr ⟨tU90, te90, ta90⟩) (tEk_nil 112))
theorem tEk114 : tEk 114 [tC91] := (tEk_cons rfl (Or.inr ⟨tU91, te91, ta91⟩) (tEk_nil 114))
theorem tEk115 : tEk 115 [tC92] := (tEk_cons rfl (Or.inr ⟨tU92, te92, ta92⟩) (tEk_nil 115))
theorem tEk116 : tEk 116 [tC93] := (tEk_cons rfl (Or.inr ⟨tU93, te93, ta93⟩) (tEk_nil 116))
theorem tEk117 : tEk 117 [tC94] := (tEk_cons rfl (Or.inr ⟨tU94, te94, ta94⟩) (tEk_nil 117))
theorem tEk118 : tEk 118 [tC95] := (tEk_cons rfl (Or.inr ⟨tU95, te95, ta95⟩) (tEk_nil 118))
theorem tEk119 : tEk 119 [tC96] := (tEk_cons rfl (Or.inr ⟨tU96, te96, ta96⟩) (tEk_nil 119))
theorem tEk123 : tEk 123 [tC97] := (tEk_cons rfl (Or.inr ⟨tU97, te97, ta97⟩) (tEk_nil 123))
theorem tEk124 : tEk 124 [tC98] := (tEk_cons rfl (Or.inr ⟨tU98, te98, ta98⟩) (tEk_nil 124))
theorem tEk125 : tEk 125 [tC99] := (tEk_cons rfl (Or.inr ⟨tU99, te99, ta99⟩) (tEk_nil 125))
theorem tEk126 : tEk 126 [tC100] := (tEk_cons rfl (Or.inr ⟨tU100, te100, ta100⟩) (tEk_nil 126))
theorem tEk130 : tEk 130 [tC101] := (tEk_cons rfl (Or.inr ⟨tU101, te101, ta101⟩) (tEk_nil 130))
theorem tEk132 : tEk 132 [tC102] := (tEk_cons rfl (Or.inr ⟨tU102, te102, ta102⟩) (tEk_nil 132))
theorem tEk136 : tEk 136 [tC103] := (tEk_cons rfl (Or.inr ⟨tU103, te103, ta103⟩) (tEk_nil 136))
theorem tEk138 : tEk 138 [tC104] := (tEk_cons rfl (Or.inr ⟨tU104, te104, ta104⟩) (tEk_nil 138))
theorem tEk139 : tEk 139 [tC105] := (tEk_cons rfl (Or.inr ⟨tU105, te105, ta105⟩) (tEk_nil 139))
theorem tEk140 : tEk 140 [tC106] := (tEk_cons rfl (Or.inr ⟨tU106, te106, ta106⟩) (tEk_nil 140))
theorem tEk141 : tEk 141 [tC107] := (tEk_cons rfl (Or.inr ⟨tU107, te107, ta107⟩) (tEk_nil 141))
theorem tEk142 : tEk 142 [tC108] := (tEk_cons rfl (Or.inr ⟨tU108, te108, ta108⟩) (tEk_nil 142))
theorem tEk144 : tEk 144 [tC109] := (tEk_cons rfl (Or.inr ⟨tU109, te109, ta109⟩) (tEk_nil 144))
theorem tEk146 : tEk 146 [tC110] := (tEk_cons rfl (Or.inr ⟨tU110, te110, ta110⟩) (tEk_nil 146))
theorem tEk148 : tEk 148 [tC111] := (tEk_cons rfl (Or.inr ⟨tU111, te111, ta111⟩) (tEk_nil 148))
theorem tEk149 : tEk 149 [tC112] := (tEk_cons rfl (Or.inr ⟨tU112, te112, ta112⟩) (tEk_nil 149))
theorem tEk150 : tEk 150 [tC113, tC114, tC115, tC116, tC117, tC118, tC119] := (tEk_cons rfl (Or.inr ⟨tU113, te113, ta113⟩) (tEk_cons rfl (Or.inr ⟨tU114, te114, ta114⟩) (tEk_cons rfl (Or.inr ⟨tU115, te115, ta115⟩) (tEk_cons rfl (Or.inr ⟨tU116, te116, ta116⟩) (tEk_cons rfl (Or.inr ⟨tU117, te117, ta117⟩) (tEk_cons rfl (Or.inr ⟨tU118, te118, ta118⟩) (tEk_cons rfl (Or.inr ⟨tU119, te119, ta119⟩) (tEk_nil 150))))))))
theorem tEk152 : tEk 152 [tC120] := (tEk_cons rfl (Or.inr ⟨tU120, te120, ta120⟩) (tEk_nil 152))
theorem tEk153 : tEk 153 [tC121] := (tEk_cons rfl (Or.inr ⟨tU121, te121, ta121⟩) (tEk_nil 153))
theorem tEk154 : tEk 154 [tC122] := (tEk_cons rfl (Or.inr ⟨tU122, te122, ta122⟩) (tEk_nil 154))
theorem tEk155 : tEk 155 [tC123] := (tEk_cons rfl (Or.inr ⟨tU123, te123, ta123⟩) (tEk_nil 155))
theorem tEk156 : tEk 156 [tC124] := (tEk_cons rfl (Or.inr ⟨tU124, te124, ta124⟩) (tEk_nil 156))
theorem tEk159 : tEk 159 [tC125] := (tEk_cons rfl (Or.inr ⟨tU125, te125, ta125⟩) (tEk_nil 159))
theorem tEk161 : tEk 161 [tC126] := (tEk_cons rfl (Or.inr ⟨tU126, te126, ta126⟩) (tEk_nil 161))
theorem tEk163 : tEk 163 [tC127] := (tEk_cons rfl (Or.inr ⟨tU127, te127, ta127⟩) (tEk_nil 163))
theorem tEk164 : tEk 164 [tC128] := (tEk_cons rfl (Or.inr ⟨tU128, te128, ta128⟩) (tEk_nil 164))
theorem tEk165 : tEk 165 [tC129] := (tEk_cons rfl (Or.inr ⟨tU129, te129, ta129⟩) (tEk_nil 165))
theorem tEk170 : tEk 170 [tC130] := (tEk_cons rfl (Or.inr ⟨tU130, te130, ta130⟩) (tEk_nil 170))
theorem tEk171 : tEk 171 [tC131] := (tEk_cons rfl (Or.inr ⟨tU131, te131, ta131⟩) (tEk_nil 171))
theorem tEk172 : tEk 172 [tC132] := (tEk_cons rfl (Or.inr ⟨tU132, te132, ta132⟩) (tEk_nil 172))
theorem tEk173 : tEk 173 [tC133] := (tEk_cons rfl (Or.inr ⟨tU133, te133, ta133⟩) (tEk_nil 173))
theorem tEk174 : tEk 174 [tC134] := (tEk_cons rfl (Or.inr ⟨tU134, te134, ta134⟩) (tEk_nil 174))
theorem tEk175 : tEk 175 [tC135] := (tEk_cons rfl (Or.inr ⟨tU135, te135, ta135⟩) (tEk_nil 175))
theorem tEk176 : tEk 176 [tC136] := (tEk_cons rfl (Or.inr ⟨tU136, te136, ta136⟩) (tEk_nil 176))
theorem tEk177 : tEk 177 [tC137] := (tEk_cons rfl (Or.inr ⟨tU137, te137, ta137⟩) (tEk_nil 177))
theorem tEk182 : tEk 182 [tC138, tC143, tC148, tC153, tC158, tC163] := (tEk_cons rfl (Or.inr ⟨tU138, te138, ta138⟩) (tEk_cons rfl (Or.inr ⟨tU143, te143, ta143⟩) (tEk_cons rfl (Or.inr ⟨tU148, te148, ta148⟩) (tEk_cons rfl (Or.inr ⟨tU153, te153, ta153⟩) (tEk_cons rfl (Or.inr ⟨tU158, te158, ta158⟩) (tEk_cons rfl (Or.inr ⟨tU163, te163, ta163⟩) (tEk_nil 182)))))))
theorem tEk186 : tEk 186 [tC139, tC144, tC149, tC154, tC159, tC164] := (tEk_cons rfl (Or.inr ⟨tU139, te139, ta139⟩) (tEk_cons rfl (Or.inr ⟨tU144, te144, ta144⟩) (tEk_cons rfl (Or.inr ⟨tU149, te149, ta149⟩) (tEk_cons rfl (Or.inr ⟨tU154, te154, ta154⟩) (tEk_cons rfl (Or.inr ⟨tU159, te159, ta159⟩) (tEk_cons rfl (Or.inr ⟨tU164, te164, ta164⟩) (tEk_nil 186)))))))
theorem tEk188 : tEk 188 [tC140, tC145, tC150, tC155, tC160, tC165] := (tEk_cons rfl (Or.inr ⟨tU140, te140, ta140⟩) (tEk_cons rfl (Or.inr ⟨tU145, te145, ta145⟩) (tEk_cons rfl (Or.inr ⟨tU150, te150, ta150⟩) (tEk_cons rfl (Or.inr ⟨tU155, te155, ta155⟩) (tEk_cons rfl (Or.inr ⟨tU160, te160, ta160⟩) (tEk_cons rfl (Or.inr ⟨tU165, te165, ta165⟩) (tEk_nil 188)))))))
theorem tEk189 : tEk 189 [tC141, tC146, tC151, tC156, tC161, tC166] := (tEk_cons rfl (Or.inr ⟨tU141, te141, ta141⟩) (tEk_cons rfl (Or.inr ⟨tU146, te146, ta146⟩) (tEk_cons rfl (Or.inr ⟨tU151, te151, ta151⟩) (tEk_cons rfl (Or.inr ⟨tU156, te156, ta156⟩) (tEk_cons rfl (Or.inr ⟨tU161, te161, ta161⟩) (tEk_cons rfl (Or.inr ⟨tU166, te166, ta166⟩) (tEk_nil 189)))))))
theorem tEk190 : tEk 190 [tC142, tC147, tC152, tC157, tC162, tC167] := (tEk_cons rfl (Or.inr ⟨tU142, te142, ta142⟩) (tEk_cons rfl (Or.inr ⟨tU147, te147, ta147⟩) (tEk_cons rfl (Or.inr ⟨tU152, te152, ta152⟩) (tEk_cons rfl (Or.inr ⟨tU157, te157, ta157⟩) (tEk_cons rfl (Or.inr ⟨tU162, te162, ta162⟩) (tEk_cons rfl (Or.inr ⟨tU167, te167, ta167⟩) (tEk_nil 190)))))))
theorem tEk194 : tEk 194 [tC168] := (tEk_cons rfl (Or.inr ⟨tU168, te168, ta168⟩) (tEk_nil 194))
theorem tEk196 : tEk 196 [tC169] := (tEk_cons rfl (Or.inr ⟨tU169, te169, ta169⟩) (tEk_nil 196))
theorem tEk197 : tEk 197 [tC170] := (tEk_cons rfl (Or.inr ⟨tU170, te170, ta170⟩) (tEk_nil 197))
theorem tEk198 : tEk 198 [tC171] := (tEk_cons rfl (Or.inr ⟨tU171, te171, ta171⟩) (tEk_nil 198))
theorem tEk199 : tEk 199 [tC172, tC191, tC192, tC193, tC194, tC195, tC196] := (tEk_cons rfl (Or.inr ⟨tU172, te172, ta172⟩) (tEk_cons rfl (Or.inr ⟨tU191, te191, ta191⟩) (tEk_cons rfl (Or.inr ⟨tU192, te192, ta192⟩) (tEk_cons rfl (Or.inr ⟨tU193, te193, ta193⟩) (tEk_cons rfl (Or.inr ⟨tU194, te194, ta194⟩) (tEk_cons rfl (Or.inr ⟨tU195, te195, ta195⟩) (tEk_cons rfl (Or.inr ⟨tU196, te196, ta196⟩) (tEk_nil 199))))))))
theorem tEk200 : tEk 200 [tC173, tC174, tC175, tC176, tC180, tC183, tC185, tC187] := (tEk_cons rfl (Or.inr ⟨tU173, te173, ta173⟩) (tEk_cons rfl (Or.inr ⟨tU174, te174, ta174⟩) (tEk_cons rfl (Or.inr ⟨tU175, te175, ta175⟩) (tEk_cons rfl (Or.inr ⟨tU176, te176, ta176⟩) (tEk_cons rfl (Or.inr ⟨tU180, te180, ta180⟩) (tEk_cons rfl (Or.inr ⟨tU183, te183, ta183⟩) (tEk_cons rfl (Or.inr ⟨tU185, te185, ta185⟩) (tEk_cons rfl (Or.inr ⟨tU187, te187, ta187⟩) (tEk_nil 200)))))))))
theorem tEk201 : tEk 201 [tC177, tC178, tC179, tC181, tC182, tC184, tC186, tC188] := (tEk_cons rfl (Or.inr ⟨tU177, te177, ta177⟩) (tEk_cons rfl (Or.inr ⟨tU178, te178, ta178⟩) (tEk_cons rfl (Or.inr ⟨tU179, te179, ta179⟩) (tEk_cons rfl (Or.inr ⟨tU181, te181, ta181⟩) (tEk_cons rfl (Or.inr ⟨tU182, te182, ta182⟩) (tEk_cons rfl (Or.inr ⟨tU184, te184, ta184⟩) (tEk_cons rfl (Or.inr ⟨tU186, te186, ta186⟩) (tEk_cons rfl (Or.inr ⟨tU188, te188, ta188⟩) (tEk_nil 201)))))))))
theorem tEk202 : tEk 202 [tC189] := (tEk_cons rfl (Or.inr ⟨tU189, te189, ta189⟩) (tEk_nil 202))
theorem tEk203 : tEk 203 [tC190] := (tEk_cons rfl (Or.inr ⟨tU190, te190, ta190⟩) (tEk_nil 203))
theorem tEk205 : tEk 205 [tC197] := (tEk_cons rfl (Or.inr ⟨tU197, te197, ta197⟩) (tEk_nil 205))
theorem tEk206 : tEk 206 [tC198] := (tEk_cons rfl (Or.inr ⟨tU198, te198, ta198⟩) (tEk_nil 206))
theorem tEk208 : tEk 208 [tC199] := (tEk_cons rfl (Or.inr ⟨tU199, te199, ta199⟩) (tEk_nil 208))
theorem tEk210 : tEk 210 [tC200] := (tEk_cons rfl (Or.inr ⟨tU200, te200, ta200⟩) (tEk_nil 210))
theorem tEk212 : tEk 212 [tC201] := (tEk_cons rfl (Or.inr ⟨tU201, te201, ta201⟩) (tEk_nil 212))
theorem tEk213 : tEk 213 [tC202] := (tEk_cons rfl (Or.inr ⟨tU202, te202, ta202⟩) (tEk_nil 213))
theorem tEk214 : tEk 214 [tC203] := (tEk_cons rfl (Or.inr ⟨tU203, te203, ta203⟩) (tEk_nil 214))
theorem tEk215 : tEk 215 [tC204] := (tEk_cons rfl (Or.inr ⟨tU204, te204, ta204⟩) (tEk_nil 215))
theorem tEk216 : tEk 216 [tC205] := (tEk_cons rfl (Or.inr ⟨tU205, te205, ta205⟩) (tEk_nil 216))
theorem tEk217 : tEk 217 [tC206] := (tEk_cons rfl (Or.inr ⟨tU206, te206, ta206⟩) (tEk_nil 217))
theorem tEk218 : tEk 218 [tC207] := (tEk_cons rfl (Or.inr ⟨tU207, te207, ta207⟩) (tEk_nil 218))
theorem tEk219 : tEk 219 [tC208] := (tEk_cons rfl (Or.inr ⟨tU208, te208, ta208⟩) (tEk_nil 219))
theorem tEk221 : tEk 221 [tC209] := (tEk_cons rfl (Or.inr ⟨tU209, te209, ta209⟩) (tEk_nil 221))
theorem tEk222 : tEk 222 [tC210] := (tEk_cons rfl (Or.inr ⟨tU210, te210, ta210⟩) (tEk_nil 222))
theorem tEk223 : tEk 223 [tC211] := (tEk_cons rfl (Or.inr ⟨tU211, te211, ta211⟩) (tEk_nil 223))
theorem tEk225 : tEk 225 [tC212] := (tEk_cons rfl (Or.inr ⟨tU212, te212, ta212⟩) (tEk_nil 225))
theorem tEk226 : tEk 226 [tC213] := (tEk_cons rfl (Or.inr ⟨tU213, te213, ta213⟩) (tEk_nil 226))
theorem tEk227 : tEk 227 [tC214] := (tEk_cons rfl (Or.inr ⟨tU214, te214, ta214⟩) (tEk_nil 227))
theorem tEk228 : tEk 228 [tC215] := (tEk_cons rfl (Or.inr ⟨tU215, te215, ta215⟩) (tEk_nil 228))
theorem tEk229 : tEk 229 [tC216] := (tEk_cons rfl (Or.inr ⟨tU216, te216, ta216⟩) (tEk_nil 229))
theorem tEk230 : tEk 230 [tC217] := (tEk_cons rfl (Or.inr ⟨tU217, te217, ta217⟩) (tEk_nil 230))
theorem tEk231 : tEk 231 [tC218] := (tEk_cons rfl (Or.inr ⟨tU218, te218, ta218⟩) (tEk_nil 231))
theorem tEk232 : tEk 232 [tC219] := (tEk_cons rfl (Or.inr ⟨tU219, te219, ta219⟩) (tEk_nil 232))
theorem tEk234 : tEk 234 [tC1] := (tEk_cons rfl (Or.inl rfl) (tEk_nil 234))
def tEl : Nat → List (List SC) → Prop
  | _, [] => True
  | k, Cs :: r => tEk k Cs ∧ tEl (k + 1) r
theorem tEl_ok : ∀ {l : List (List SC)} {k0 : Nat}, tEl k0 l → ∀ (k : Nat) (Cs : List SC), l[k]? = some Cs → tEk (k0 + k) Cs := by
  intro l
  induction l with
  | nil => intro k0 _ k Cs h; cases h
  | cons a r ih =>
    intro k0 h k Cs hk
    cases k with
    | zero =>
      cases hk
      exact h.1
    | succ k =>
      have := ih h.2 k Cs (by simpa using hk)
      rw [show k0 + (k + 1) = k0 + 1 + k from by omega]
      exact this
theorem tEl_app : ∀ {a b : List (List SC)} {k : Nat}, tEl k a → tEl (k + a.length) b → tEl k (a ++ b) := by
  intro a
  induction a with
  | nil => intro b k _ h; exact h
  | cons x r ih =>
    intro b k h1 h2
    refine ⟨h1.1, ih h1.2 ?_⟩
    rw [List.length_cons] at h2
    rw [show k + 1 + r.length = k + (r.length + 1) from by omega]
    exact h2
theorem tEc0 : tEl 0 [[], [tC3], [tC4], [tC5], [tC6], [tC7], [tC8], [tC9, tC10, tC11, tC12, tC13, tC14, tC15], [], [tC16], [tC17], [], [tC18], [], [tC19], [tC20], [], [tC21], [], [tC22], [tC23], [tC24], [], [tC25], [tC26], [], [tC27], [], [], []] := ⟨tEk_nil _, ⟨tEk1, ⟨tEk2, ⟨tEk3, ⟨tEk4, ⟨tEk5, ⟨tEk6, ⟨tEk7, ⟨tEk_nil _, ⟨tEk9, ⟨tEk10, ⟨tEk_nil _, ⟨tEk12, ⟨tEk_nil _, ⟨tEk14, ⟨tEk15, ⟨tEk_nil _, ⟨tEk17, ⟨tEk_nil _, ⟨tEk19, ⟨tEk20, ⟨tEk21, ⟨tEk_nil _, ⟨tEk23, ⟨tEk24, ⟨tEk_nil _, ⟨tEk26, ⟨tEk_nil _, ⟨tEk_nil _, ⟨tEk_nil _, trivial⟩⟩⟩⟩⟩⟩⟩⟩⟩⟩⟩⟩⟩⟩⟩⟩⟩⟩⟩⟩⟩⟩⟩⟩⟩⟩⟩⟩⟩⟩
theorem tEc1 : tEl 30 [[tC28], [tC29], [], [], [], [], [tC30], [tC31], [tC32], [], [tC33], [tC34], [tC35], [tC36], [tC37], [tC38], [], [tC39], [tC40], [], [tC41], [], [tC42], [tC43], [], [tC44], [], [], [tC45], []] := ⟨tEk30, ⟨tEk31, ⟨tEk_nil _, ⟨tEk_nil _, ⟨tEk_nil _, ⟨tEk_nil _, ⟨tEk36, ⟨tEk37, ⟨tEk38, ⟨tEk_nil _, ⟨tEk40, ⟨tEk41, ⟨tEk42, ⟨tEk43, ⟨tEk44, ⟨tEk45, ⟨tEk_nil _, ⟨tEk47, ⟨tEk48, ⟨tEk_nil _, ⟨tEk50, ⟨tEk_nil _, ⟨tEk52, ⟨tEk53, ⟨tEk_nil _, ⟨tEk55, ⟨tEk_nil _, ⟨tEk_nil _, ⟨tEk58, ⟨tEk_nil _, trivial⟩⟩⟩⟩⟩⟩⟩⟩⟩⟩⟩⟩⟩⟩⟩⟩⟩⟩⟩⟩⟩⟩⟩⟩⟩⟩⟩⟩⟩⟩
theorem tEc2 : tEl 60 [[tC46], [], [tC47], [], [], [], [], [], [tC48], [], [tC49], [], [tC50], [tC51], [], [], [tC52], [tC53], [tC54], [tC55], [], [tC56], [tC57], [tC58], [tC59], [], [tC60], [tC61], [tC62], [tC63]] := ⟨tEk60, ⟨tEk_nil _, ⟨tEk62, ⟨tEk_nil _, ⟨tEk_nil _, ⟨tEk_nil _, ⟨tEk_nil _, ⟨tEk_nil _, ⟨tEk68, ⟨tEk_nil _, ⟨tEk70, ⟨tEk_nil _, ⟨tEk72, ⟨tEk73, ⟨tEk_nil _, ⟨tEk_nil _, ⟨tEk76, ⟨tEk77, ⟨tEk78, ⟨tEk79, ⟨tEk_nil _, ⟨tEk81, ⟨tEk82, ⟨tEk83, ⟨tEk84, ⟨tEk_nil _, ⟨tEk86, ⟨tEk87, ⟨tEk88, ⟨tEk89, trivial⟩⟩⟩⟩⟩⟩⟩⟩⟩⟩⟩⟩⟩⟩⟩⟩⟩⟩⟩⟩⟩⟩⟩⟩⟩⟩⟩⟩⟩⟩
theorem tEc3 : tEl 90 [[], [], [tC64], [tC65], [], [tC66], [tC67], [tC68, tC69, tC70, tC71, tC72, tC73, tC74], [tC75], [tC76], [tC77], [], [tC78], [], [], [tC79], [tC80], [tC81], [], [tC82], [tC83, tC84, tC85, tC86, tC87, tC88, tC89], [], [tC90], [], [tC91], [tC92], [tC93], [tC94], [tC95], [tC96]] := ⟨tEk_nil _, ⟨tEk_nil _, ⟨tEk92, ⟨tEk93, ⟨tEk_nil _, ⟨tEk95, ⟨tEk96, ⟨tEk97, ⟨tEk98, ⟨tEk99, ⟨tEk100, ⟨tEk_nil _, ⟨tEk102, ⟨tEk_nil _, ⟨tEk_nil _, ⟨tEk105, ⟨tEk106, ⟨tEk107, ⟨tEk_nil _, ⟨tEk109, ⟨tEk110, ⟨tEk_nil _, ⟨tEk112, ⟨tEk_nil _, ⟨tEk114, ⟨tEk115, ⟨tEk116, ⟨tEk117, ⟨tEk118, ⟨tEk119, trivial⟩⟩⟩⟩⟩⟩⟩⟩⟩⟩⟩⟩⟩⟩⟩⟩⟩⟩⟩⟩⟩⟩⟩⟩⟩⟩⟩⟩⟩⟩
theorem tEc4 : tEl 120 [[], [], [], [tC97], [tC98], [tC99], [tC100], [], [], [], [tC101], [], [tC102], [], [], [], [tC103], [], [tC104], [tC105], [tC106], [tC107], [tC108], [], [tC109], [], [tC110], [], [tC111], [tC112]] := ⟨tEk_nil _, ⟨tEk_nil _, ⟨tEk_nil _, ⟨tEk123, ⟨tEk124, ⟨tEk125, ⟨tEk126, ⟨tEk_nil _, ⟨tEk_nil _, ⟨tEk_nil _, ⟨tEk130, ⟨tEk_nil _, ⟨tEk132, ⟨tEk_nil _, ⟨tEk_nil _, ⟨tEk_nil _, ⟨tEk136, ⟨tEk_nil _, ⟨tEk138, ⟨tEk139, ⟨tEk140, ⟨tEk141, ⟨tEk142, ⟨tEk_nil _, ⟨tEk144, ⟨tEk_nil _, ⟨tEk146, ⟨tEk_nil _, ⟨tEk148, ⟨tEk149, trivial⟩⟩⟩⟩⟩⟩⟩⟩⟩⟩⟩⟩⟩⟩⟩⟩⟩⟩⟩⟩⟩⟩⟩⟩⟩⟩⟩⟩⟩⟩
theorem tEc5 : tEl 150 [[tC113, tC114, tC115, tC116, tC117, tC118, tC119], [], [tC120], [tC121], [tC122], [tC123], [tC124], [], [], [tC125], [], [tC126], [], [tC127], [tC128], [tC129], [], [], [], [], [tC130], [tC131], [tC132], [tC133], [tC134], [tC135], [tC136], [tC137], [], []] := ⟨tEk150, ⟨tEk_nil _, ⟨tEk152, ⟨tEk153, ⟨tEk154, ⟨tEk155, ⟨tEk156, ⟨tEk_nil _, ⟨tEk_nil _, ⟨tEk159, ⟨tEk_nil _, ⟨tEk161, ⟨tEk_nil _, ⟨tEk163, ⟨tEk164, ⟨tEk165, ⟨tEk_nil _, ⟨tEk_nil _, ⟨tEk_nil _, ⟨tEk_nil _, ⟨tEk170, ⟨tEk171, ⟨tEk172, ⟨tEk173, ⟨tEk174, ⟨tEk175, ⟨tEk176, ⟨tEk177, ⟨tEk_nil _, ⟨tEk_nil _, trivial⟩⟩⟩⟩⟩⟩⟩⟩⟩⟩⟩⟩⟩⟩⟩⟩⟩⟩⟩⟩⟩⟩⟩⟩⟩⟩⟩⟩⟩⟩
theorem tEc6 : tEl 180 [[], [], [tC138, tC143, tC148, tC153, tC158, tC163], [], [], [], [tC139, tC144, tC149, tC154, tC159, tC164], [], [tC140, tC145, tC150, tC155, tC160, tC165], [tC141, tC146, tC151, tC156, tC161, tC166], [tC142, tC147, tC152, tC157, tC162, tC167], [], [], [], [tC168], [], [tC169], [tC170], [tC171], [tC172, tC191, tC192, tC193, tC194, tC195, tC196], [tC173, tC174, tC175, tC176, tC180, tC183, tC185, tC187], [tC177, tC178, tC179, tC181, tC182, tC184, tC186, tC188], [tC189], [tC190], [], [tC197], [tC198], [], [tC199], []] := ⟨tEk_nil _, ⟨tEk_nil _, ⟨tEk182, ⟨tEk_nil _, ⟨tEk_nil _, ⟨tEk_nil _, ⟨tEk186, ⟨tEk_nil _, ⟨tEk188, ⟨tEk189, ⟨tEk190, ⟨tEk_nil _, ⟨tEk_nil _, ⟨tEk_nil _, ⟨tEk194, ⟨tEk_nil _, ⟨tEk196, ⟨tEk197, ⟨tEk198, ⟨tEk199, ⟨tEk200, ⟨tEk201, ⟨tEk202, ⟨tEk203, ⟨tEk_nil _, ⟨tEk205, ⟨tEk206, ⟨tEk_nil _, ⟨tEk208, ⟨tEk_nil _, trivial⟩⟩⟩⟩⟩⟩⟩⟩⟩⟩⟩⟩⟩⟩⟩⟩⟩⟩⟩⟩⟩⟩⟩⟩⟩⟩⟩⟩⟩⟩
theorem tEc7 : tEl 210 [[tC200], [], [tC201], [tC202], [tC203], [tC204], [tC205], [tC206], [tC207], [tC208], [], [tC209], [tC210], [tC211], [], [tC212], [tC213], [tC214], [tC215], [tC216], [tC217], [tC218], [tC219], [], [tC1]] := ⟨tEk210, ⟨tEk_nil _, ⟨tEk212, ⟨tEk213, ⟨tEk214, ⟨tEk215, ⟨tEk216, ⟨tEk217, ⟨tEk218, ⟨tEk219, ⟨tEk_nil _, ⟨tEk221, ⟨tEk222, ⟨tEk223, ⟨tEk_nil _, ⟨tEk225, ⟨tEk226, ⟨tEk227, ⟨tEk228, ⟨tEk229, ⟨tEk230, ⟨tEk231, ⟨tEk232, ⟨tEk_nil _, ⟨tEk234, trivial⟩⟩⟩⟩⟩⟩⟩⟩⟩⟩⟩⟩⟩⟩⟩⟩⟩⟩⟩⟩⟩⟩⟩⟩⟩
theorem tEall : tEl 0 tcs := (tEl_app tEc0 (tEl_app tEc1 (tEl_app tEc2 (tEl_app tEc3 (tEl_app tEc4 (tEl_app tEc5 (tEl_app tEc6 tEc7)))))))
theorem tEach {kc : Nat} {Cs : List SC} (h : tcs[kc]? = some Cs) {C : SC} (hC : C ∈ Cs) : C.2.1 = kc ∧ (C = tC1 ∨ ∃ cuts : List SCu, sckE tm tc tf tg tcs C cuts 2000 = true ∧ ∀ B ∈ cuts, sckA tm tc tf tg tcs C cuts 2000 B = true) := by
  have := tEl_ok tEall kc Cs h C hC
  rw [Nat.zero_add] at this
  exact this
theorem tAll {l : Launch} {dC : Nat → ClassId} {dI : Nat → Nat → Nat} {cA : Nat → ClassId} {aK aV sa : Nat} {tx : String} (hst : l.stackTraces = false) : ∀ (n kc : Nat) (Cs : List SC), tcs[kc]? = some Cs → ∀ C ∈ Cs, C.1 < n → C.2.1 = kc ∧ sCok tm tf tg (zEX aK aV sa tx) l dC dI cA aK C := by
  intro n
  induction n with
  | zero => intro kc Cs _ C _ h; omega
  | succ n ih =>
    intro kc Cs h C hC hlt
    obtain ⟨h1, h2⟩ := tEach h hC
    refine ⟨h1, ?_⟩
    rcases h2 with rfl | ⟨cuts, hE, hA⟩
    · exact tC1_ok
    · exact sck_ok (zCtx (fun kc' Cs' h' C' hC' hlt' => ih kc' Cs' h' C' hC' (by omega)) (fun _ => tLAY hst)) ttab hE hA
