theorem qAll_ok : ∀ y, (qMT y).1 = qNo ∨ qMethOk qMT qNM qZ 55 qST y := by
  intro y
  rcases Nat.lt_or_ge y 158 with h | h
  · rcases Nat.lt_or_ge y 79 with h79 | h79
    · rcases Nat.lt_or_ge y 39 with h39 | h39
      · rcases Nat.lt_or_ge y 19 with h19 | h19
        · rcases Nat.lt_or_ge y 9 with h9 | h9
          · rcases Nat.lt_or_ge y 4 with h4 | h4
            · rcases Nat.lt_or_ge y 2 with h2 | h2
              · rcases Nat.lt_or_ge y 1 with h1 | h1
                · have e : y = 0 := by omega
                  subst e
                  exact Or.inr ⟨_, _, rfl, by decide +kernel, ok_0⟩
                · have e : y = 1 := by omega
                  subst e
                  exact Or.inr ⟨_, _, rfl, by decide +kernel, ok_1⟩
              · rcases Nat.lt_or_ge y 3 with h3 | h3
                · have e : y = 2 := by omega
                  subst e
                  exact Or.inr ⟨_, _, rfl, by decide +kernel, ok_2⟩
                · have e : y = 3 := by omega
                  subst e
                  exact Or.inr ⟨_, _, rfl, by decide +kernel, ok_3⟩
            · rcases Nat.lt_or_ge y 6 with h6 | h6
              · rcases Nat.lt_or_ge y 5 with h5 | h5
                · have e : y = 4 := by omega
                  subst e
                  exact Or.inr ⟨_, _, rfl, by decide +kernel, ok_4⟩
                · have e : y = 5 := by omega
                  subst e
                  exact Or.inr ⟨_, _, rfl, by decide +kernel, ok_5⟩
              · rcases Nat.lt_or_ge y 7 with h7 | h7
                · have e : y = 6 := by omega
                  subst e
                  exact Or.inr ⟨_, _, rfl, by decide +kernel, ok_6⟩
                · rcases Nat.lt_or_ge y 8 with h8 | h8
                  · have e : y = 7 := by omega
                    subst e
                    exact Or.inr ⟨_, _, rfl, by decide +kernel, ok_7⟩
                  · have e : y = 8 := by omega
                    subst e
                    exact Or.inr ⟨_, _, rfl, by decide +kernel, ok_8⟩
          · rcases Nat.lt_or_ge y 14 with h14 | h14
            · rcases Nat.lt_or_ge y 11 with h11 | h11
              · rcases Nat.lt_or_ge y 10 with h10 | h10
                · have e : y = 9 := by omega
                  subst e
                  exact Or.inr ⟨_, _, rfl, by decide +kernel, ok_9⟩
                · have e : y = 10 := by omega
                  subst e
                  exact Or.inr ⟨_, _, rfl, by decide +kernel, ok_10⟩
              · rcases Nat.lt_or_ge y 12 with h12 | h12
                · have e : y = 11 := by omega
                  subst e
                  exact Or.inr ⟨_, _, rfl, by decide +kernel, ok_11⟩
                · rcases Nat.lt_or_ge y 13 with h13 | h13
                  · have e : y = 12 := by omega
                    subst e
                    exact Or.inr ⟨_, _, rfl, by decide +kernel, ok_12⟩
                  · have e : y = 13 := by omega
                    subst e
                    exact Or.inr ⟨_, _, rfl, by decide +kernel, ok_13⟩
            · rcases Nat.lt_or_ge y 16 with h16 | h16
              · rcases Nat.lt_or_ge y 15 with h15 | h15
                · have e : y = 14 := by omega
                  subst e
                  exact Or.inr ⟨_, _, rfl, by decide +kernel, ok_14⟩
                · have e : y = 15 := by omega
                  subst e
                  exact Or.inr ⟨_, _, rfl, by decide +kernel, ok_15⟩
              · rcases Nat.lt_or_ge y 17 with h17 | h17
                · have e : y = 16 := by omega
                  subst e
                  exact Or.inr ⟨_, _, rfl, by decide +kernel, ok_16⟩
                · rcases Nat.lt_or_ge y 18 with h18 | h18
                  · have e : y = 17 := by omega
                    subst e
                    exact Or.inr ⟨_, _, rfl, by decide +kernel, ok_17⟩
                  · have e : y = 18 := by omega
                    subst e
                    exact Or.inr ⟨_, _, rfl, by decide +kernel, ok_18⟩
        · rcases Nat.lt_or_ge y 29 with h29 | h29
          · rcases Nat.lt_or_ge y 24 with h24 | h24
            · rcases Nat.lt_or_ge y 21 with h21 | h21
              · rcases Nat.lt_or_ge y 20 with h20 | h20
                · have e : y = 19 := by omega
                  subst e
                  exact Or.inr ⟨_, _, rfl, by decide +kernel, ok_19⟩
                · have e : y = 20 := by omega
                  subst e
                  exact Or.inr ⟨_, _, rfl, by decide +kernel, ok_20⟩
              · rcases Nat.lt_or_ge y 22 with h22 | h22
                · have e : y = 21 := by omega
                  subst e
                  exact Or.inr ⟨_, _, rfl, by decide +kernel, ok_21⟩
                · rcases Nat.lt_or_ge y 23 with h23 | h23
                  · have e : y = 22 := by omega
                    subst e
                    exact Or.inr ⟨_, _, rfl, by decide +kernel, ok_22⟩
                  · have e : y = 23 := by omega
                    subst e
                    exact Or.inr ⟨_, _, rfl, by decide +kernel, ok_23⟩
            · rcases Nat.lt_or_ge y 26 with h26 | h26
              · rcases Nat.lt_or_ge y 25 with h25 | h25
                · have e : y = 24 := by omega
                  subst e
                  exact Or.inr ⟨_, _, rfl, by decide +kernel, ok_24⟩
                · have e : y = 25 := by omega
                  subst e
                  exact Or.inr ⟨_, _, rfl, by decide +kernel, ok_25⟩
              · rcases Nat.lt_or_ge y 27 with h27 | h27
                · have e : y = 26 := by omega
                  subst e
                  exact Or.inr ⟨_, _, rfl, by decide +kernel, ok_26⟩
                · rcases Nat.lt_or_ge y 28 with h28 | h28
                  · have e : y = 27 := by omega
                    subst e
                    exact Or.inr ⟨_, _, rfl, by decide +kernel, ok_27⟩
                  · have e : y = 28 := by omega
                    subst e
                    exact Or.inr ⟨_, _, rfl, by decide +kernel, ok_28⟩
          · rcases Nat.lt_or_ge y 34 with h34 | h34
            · rcases Nat.lt_or_ge y 31 with h31 | h31
              · rcases Nat.lt_or_ge y 30 with h30 | h30
                · have e : y = 29 := by omega
                  subst e
                  exact Or.inr ⟨_, _, rfl, by decide +kernel, ok_29⟩
                · have e : y = 30 := by omega
                  subst e
                  exact Or.inr ⟨_, _, rfl, by decide +kernel, ok_30⟩
              · rcases Nat.lt_or_ge y 32 with h32 | h32
                · have e : y = 31 := by omega
                  subst e
                  exact Or.inr ⟨_, _, rfl, by decide +kernel, ok_31⟩
                · rcases Nat.lt_or_ge y 33 with h33 | h33
                  · have e : y = 32 := by omega
                    subst e
                    exact Or.inr ⟨_, _, rfl, by decide +kernel, ok_32⟩
                  · have e : y = 33 := by omega
                    subst e
                    exact Or.inr ⟨_, _, rfl, by decide +kernel, ok_33⟩
            · rcases Nat.lt_or_ge y 36 with h36 | h36
              · rcases Nat.lt_or_ge y 35 with h35 | h35
                · have e : y = 34 := by omega
                  subst e
                  exact Or.inr ⟨_, _, rfl, by decide +kernel, ok_34⟩
                · have e : y = 35 := by omega
                  subst e
                  exact Or.inr ⟨_, _, rfl, by decide +kernel, ok_35⟩
              · rcases Nat.lt_or_ge y 37 with h37 | h37
                · have e : y = 36 := by omega
                  subst e
                  exact Or.inr ⟨_, _, rfl, by decide +kernel, ok_36⟩
                · rcases Nat.lt_or_ge y 38 with h38 | h38
                  · have e : y = 37 := by omega
                    subst e
                    exact Or.inr ⟨_, _, rfl, by decide +kernel, ok_37⟩
                  · have e : y = 38 := by omega
                    subst e
                    exact Or.inr ⟨_, _, rfl, by decide +kernel, ok_38⟩
      · rcases Nat.lt_or_ge y 59 with h59 | h59
        · rcases Nat.lt_or_ge y 49 with h49 | h49
          · rcases Nat.lt_or_ge y 44 with h44 | h44
            · rcases Nat.lt_or_ge y 41 with h41 | h41
              · rcases Nat.lt_or_ge y 40 with h40 | h40
                · have e : y = 39 := by omega
                  subst e
                  exact Or.inr ⟨_, _, rfl, by decide +kernel, ok_39⟩
                · have e : y = 40 := by omega
                  subst e
                  exact Or.inr ⟨_, _, rfl, by decide +kernel, ok_40⟩
              · rcases Nat.lt_or_ge y 42 with h42 | h42
                · have e : y = 41 := by omega
                  subst e
                  exact Or.inr ⟨_, _, rfl, by decide +kernel, ok_41⟩
                · rcases Nat.lt_or_ge y 43 with h43 | h43
                  · have e : y = 42 := by omega
                    subst e
                    exact Or.inr ⟨_, _, rfl, by decide +kernel, ok_42⟩
                  · have e : y = 43 := by omega
                    subst e
                    exact Or.inr ⟨_, _, rfl, by decide +kernel, ok_43⟩
            · rcases Nat.lt_or_ge y 46 with h46 | h46
              · rcases Nat.lt_or_ge y 45 with h45 | h45
                · have e : y = 44 := by omega
                  subst e
                  exact Or.inr ⟨_, _, rfl, by decide +kernel, ok_44⟩
                · have e : y = 45 := by omega
                  subst e
                  exact Or.inr ⟨_, _, rfl, by decide +kernel, ok_45⟩
              · rcases Nat.lt_or_ge y 47 with h47 | h47
                · have e : y = 46 := by omega
                  subst e
                  exact Or.inr ⟨_, _, rfl, by decide +kernel, ok_46⟩
                · rcases Nat.lt_or_ge y 48 with h48 | h48
                  · have e : y = 47 := by omega
                    subst e
                    exact Or.inr ⟨_, _, rfl, by decide +kernel, ok_47⟩
                  · have e : y = 48 := by omega
                    subst e
                    exact Or.inr ⟨_, _, rfl, by decide +kernel, ok_48⟩
          · rcases Nat.lt_or_ge y 54 with h54 | h54
            · rcases Nat.lt_or_ge y 51 with h51 | h51
              · rcases Nat.lt_or_ge y 50 with h50 | h50
                · have e : y = 49 := by omega
                  subst e
                  exact Or.inr ⟨_, _, rfl, by decide +kernel, ok_49⟩
                · have e : y = 50 := by omega
                  subst e
                  exact Or.inr ⟨_, _, rfl, by decide +kernel, ok_50⟩
              · rcases Nat.lt_or_ge y 52 with h52 | h52
                · have e : y = 51 := by omega
                  subst e
                  exact Or.inr ⟨_, _, rfl, by decide +kernel, ok_51⟩
                · rcases Nat.lt_or_ge y 53 with h53 | h53
                  · have e : y = 52 := by omega
                    subst e
                    exact Or.inr ⟨_, _, rfl, by decide +kernel, ok_52⟩
                  · have e : y = 53 := by omega
                    subst e
                    exact Or.inr ⟨_, _, rfl, by decide +kernel, ok_53⟩
            · rcases Nat.lt_or_ge y 56 with h56 | h56
              · rcases Nat.lt_or_ge y 55 with h55 | h55
                · have e : y = 54 := by omega
                  subst e
                  exact Or.inr ⟨_, _, rfl, by decide +kernel, ok_54⟩
                · have e : y = 55 := by omega
                  subst e
                  exact Or.inr ⟨_, _, rfl, by decide +kernel, ok_55⟩
              · rcases Nat.lt_or_ge y 57 with h57 | h57
                · have e : y = 56 := by omega
                  subst e
                  exact Or.inr ⟨_, _, rfl, by decide +kernel, ok_56⟩
                · rcases Nat.lt_or_ge y 58 with h58 | h58
                  · have e : y = 57 := by omega
                    subst e
                    exact Or.inr ⟨_, _, rfl, by decide +kernel, ok_57⟩
                  · have e : y = 58 := by omega
                    subst e
                    exact Or.inr ⟨_, _, rfl, by decide +kernel, ok_58⟩
        · rcases Nat.lt_or_ge y 69 with h69 | h69
          · rcases Nat.lt_or_ge y 64 with h64 | h64
            · rcases Nat.lt_or_ge y 61 with h61 | h61
              · rcases Nat.lt_or_ge y 60 with h60 | h60
                · have e : y = 59 := by omega
                  subst e
                  exact Or.inr ⟨_, _, rfl, by decide +kernel, ok_59⟩
                · have e : y = 60 := by omega
                  subst e
                  exact Or.inr ⟨_, _, rfl, by decide +kernel, ok_60⟩
              · rcases Nat.lt_or_ge y 62 with h62 | h62
                · have e : y = 61 := by omega
                  subst e
                  exact Or.inr ⟨_, _, rfl, by decide +kernel, ok_61⟩
                · rcases Nat.lt_or_ge y 63 with h63 | h63
                  · have e : y = 62 := by omega
                    subst e
                    exact Or.inr ⟨_, _, rfl, by decide +kernel, ok_62⟩
                  · have e : y = 63 := by omega
                    subst e
                    exact Or.inr ⟨_, _, rfl, by decide +kernel, ok_63⟩
            · rcases Nat.lt_or_ge y 66 with h66 | h66
              · rcases Nat.lt_or_ge y 65 with h65 | h65
                · have e : y = 64 := by omega
                  subst e
                  exact Or.inr ⟨_, _, rfl, by decide +kernel, ok_64⟩
                · have e : y = 65 := by omega
                  subst e
                  exact Or.inr ⟨_, _, rfl, by decide +kernel, ok_65⟩
              · rcases Nat.lt_or_ge y 67 with h67 | h67
                · have e : y = 66 := by omega
                  subst e
                  exact Or.inr ⟨_, _, rfl, by decide +kernel, ok_66⟩
                · rcases Nat.lt_or_ge y 68 with h68 | h68
                  · have e : y = 67 := by omega
                    subst e
                    exact Or.inr ⟨_, _, rfl, by decide +kernel, ok_67⟩
                  · have e : y = 68 := by omega
                    subst e
                    exact Or.inr ⟨_, _, rfl, by decide +kernel, ok_68⟩
          · rcases Nat.lt_or_ge y 74 with h74 | h74
            · rcases Nat.lt_or_ge y 71 with h71 | h71
              · rcases Nat.lt_or_ge y 70 with h70 | h70
                · have e : y = 69 := by omega
                  subst e
                  exact Or.inr ⟨_, _, rfl, by decide +kernel, ok_69⟩
                · have e : y = 70 := by omega
                  subst e
                  exact Or.inr ⟨_, _, rfl, by decide +kernel, ok_70⟩
              · rcases Nat.lt_or_ge y 72 with h72 | h72
                · have e : y = 71 := by omega
                  subst e
                  exact Or.inr ⟨_, _, rfl, by decide +kernel, ok_71⟩
                · rcases Nat.lt_or_ge y 73 with h73 | h73
                  · have e : y = 72 := by omega
                    subst e
                    exact Or.inr ⟨_, _, rfl, by decide +kernel, ok_72⟩
                  · have e : y = 73 := by omega
                    subst e
                    exact Or.inr ⟨_, _, rfl, by decide +kernel, ok_73⟩
            · rcases Nat.lt_or_ge y 76 with h76 | h76
              · rcases Nat.lt_or_ge y 75 with h75 | h75
                · have e : y = 74 := by omega
                  subst e
                  exact Or.inr ⟨_, _, rfl, by decide +kernel, ok_74⟩
                · have e : y = 75 := by omega
                  subst e
                  exact Or.inr ⟨_, _, rfl, by decide +kernel, ok_75⟩
              · rcases Nat.lt_or_ge y 77 with h77 | h77
                · have e : y = 76 := by omega
                  subst e
                  exact Or.inr ⟨_, _, rfl, by decide +kernel, ok_76⟩
                · rcases Nat.lt_or_ge y 78 with h78 | h78
                  · have e : y = 77 := by omega
                    subst e
                    exact Or.inr ⟨_, _, rfl, by decide +kernel, ok_77⟩
                  · have e : y = 78 := by omega
                    subst e
                    exact Or.inr ⟨_, _, rfl, by decide +kernel, ok_78⟩
    · rcases Nat.lt_or_ge y 118 with h118 | h118
      · rcases Nat.lt_or_ge y 98 with h98 | h98
        · rcases Nat.lt_or_ge y 88 with h88 | h88
          · rcases Nat.lt_or_ge y 83 with h83 | h83
            · rcases Nat.lt_or_ge y 81 with h81 | h81
              · rcases Nat.lt_or_ge y 80 with h80 | h80
                · have e : y = 79 := by omega
                  subst e
                  exact Or.inr ⟨_, _, rfl, by decide +kernel, ok_79⟩
                · have e : y = 80 := by omega
                  subst e
                  exact Or.inr ⟨_, _, rfl, by decide +kernel, ok_80⟩
              · rcases Nat.lt_or_ge y 82 with h82 | h82
                · have e : y = 81 := by omega
                  subst e
                  exact Or.inr ⟨_, _, rfl, by decide +kernel, ok_81⟩
                · have e : y = 82 := by omega
                  subst e
                  exact Or.inr ⟨_, _, rfl, by decide +kernel, ok_82⟩
            · rcases Nat.lt_or_ge y 85 with h85 | h85
              · rcases Nat.lt_or_ge y 84 with h84 | h84
                · have e : y = 83 := by omega
                  subst e
                  exact Or.inr ⟨_, _, rfl, by decide +kernel, ok_83⟩
                · have e : y = 84 := by omega
                  subst e
                  exact Or.inr ⟨_, _, rfl, by decide +kernel, ok_84⟩
              · rcases Nat.lt_or_ge y 86 with h86 | h86
                · have e : y = 85 := by omega
                  subst e
                  exact Or.inr ⟨_, _, rfl, by decide +kernel, ok_85⟩
                · rcases Nat.lt_or_ge y 87 with h87 | h87
                  · have e : y = 86 := by omega
                    subst e
                    exact Or.inr ⟨_, _, rfl, by decide +kernel, ok_86⟩
                  · have e : y = 87 := by omega
                    subst e
                    exact Or.inr ⟨_, _, rfl, by decide +kernel, ok_87⟩
          · rcases Nat.lt_or_ge y 93 with h93 | h93
            · rcases Nat.lt_or_ge y 90 with h90 | h90
              · rcases Nat.lt_or_ge y 89 with h89 | h89
                · have e : y = 88 := by omega
                  subst e
                  exact Or.inr ⟨_, _, rfl, by decide +kernel, ok_88⟩
                · have e : y = 89 := by omega
                  subst e
                  exact Or.inr ⟨_, _, rfl, by decide +kernel, ok_89⟩
              · rcases Nat.lt_or_ge y 91 with h91 | h91
                · have e : y = 90 := by omega
                  subst e
                  exact Or.inr ⟨_, _, rfl, by decide +kernel, ok_90⟩
                · rcases Nat.lt_or_ge y 92 with h92 | h92
                  · have e : y = 91 := by omega
                    subst e
                    exact Or.inr ⟨_, _, rfl, by decide +kernel, ok_91⟩
                  · have e : y = 92 := by omega
                    subst e
                    exact Or.inr ⟨_, _, rfl, by decide +kernel, ok_92⟩
            · rcases Nat.lt_or_ge y 95 with h95 | h95
              · rcases Nat.lt_or_ge y 94 with h94 | h94
                · have e : y = 93 := by omega
                  subst e
                  exact Or.inr ⟨_, _, rfl, by decide +kernel, ok_93⟩
                · have e : y = 94 := by omega
                  subst e
                  exact Or.inr ⟨_, _, rfl, by decide +kernel, ok_94⟩
              · rcases Nat.lt_or_ge y 96 with h96 | h96
                · have e : y = 95 := by omega
                  subst e
                  exact Or.inr ⟨_, _, rfl, by decide +kernel, ok_95⟩
                · rcases Nat.lt_or_ge y 97 with h97 | h97
                  · have e : y = 96 := by omega
                    subst e
                    exact Or.inr ⟨_, _, rfl, by decide +kernel, ok_96⟩
                  · have e : y = 97 := by omega
                    subst e
                    exact Or.inr ⟨_, _, rfl, by decide +kernel, ok_97⟩
        · rcases Nat.lt_or_ge y 108 with h108 | h108
          · rcases Nat.lt_or_ge y 103 with h103 | h103
            · rcases Nat.lt_or_ge y 100 with h100 | h100
              · rcases Nat.lt_or_ge y 99 with h99 | h99
                · have e : y = 98 := by omega
                  subst e
                  exact Or.inr ⟨_, _, rfl, by decide +kernel, ok_98⟩
                · have e : y = 99 := by omega
                  subst e
                  exact Or.inr ⟨_, _, rfl, by decide +kernel, ok_99⟩
              · rcases Nat.lt_or_ge y 101 with h101 | h101
                · have e : y = 100 := by omega
                  subst e
                  exact Or.inr ⟨_, _, rfl, by decide +kernel, ok_100⟩
                · rcases Nat.lt_or_ge y 102 with h102 | h102
                  · have e : y = 101 := by omega
                    subst e
                    exact Or.inr ⟨_, _, rfl, by decide +kernel, ok_101⟩
                  · have e : y = 102 := by omega
                    subst e
                    exact Or.inr ⟨_, _, rfl, by decide +kernel, ok_102⟩
            · rcases Nat.lt_or_ge y 105 with h105 | h105
              · rcases Nat.lt_or_ge y 104 with h104 | h104
                · have e : y = 103 := by omega
                  subst e
                  exact Or.inr ⟨_, _, rfl, by decide +kernel, ok_103⟩
                · have e : y = 104 := by omega
                  subst e
                  exact Or.inr ⟨_, _, rfl, by decide +kernel, ok_104⟩
              · rcases Nat.lt_or_ge y 106 with h106 | h106
                · have e : y = 105 := by omega
                  subst e
                  exact Or.inr ⟨_, _, rfl, by decide +kernel, ok_105⟩
                · rcases Nat.lt_or_ge y 107 with h107 | h107
                  · have e : y = 106 := by omega
                    subst e
                    exact Or.inr ⟨_, _, rfl, by decide +kernel, ok_106⟩
                  · have e : y = 107 := by omega
                    subst e
                    exact Or.inr ⟨_, _, rfl, by decide +kernel, ok_107⟩
          · rcases Nat.lt_or_ge y 113 with h113 | h113
            · rcases Nat.lt_or_ge y 110 with h110 | h110
              · rcases Nat.lt_or_ge y 109 with h109 | h109
                · have e : y = 108 := by omega
                  subst e
                  exact Or.inr ⟨_, _, rfl, by decide +kernel, ok_108⟩
                · have e : y = 109 := by omega
                  subst e
                  exact Or.inr ⟨_, _, rfl, by decide +kernel, ok_109⟩
              · rcases Nat.lt_or_ge y 111 with h111 | h111
                · have e : y = 110 := by omega
                  subst e
                  exact Or.inr ⟨_, _, rfl, by decide +kernel, ok_110⟩
                · rcases Nat.lt_or_ge y 112 with h112 | h112
                  · have e : y = 111 := by omega
                    subst e
                    exact Or.inr ⟨_, _, rfl, by decide +kernel, ok_111⟩
                  · have e : y = 112 := by omega
                    subst e
                    exact Or.inr ⟨_, _, rfl, by decide +kernel, ok_112⟩
            · rcases Nat.lt_or_ge y 115 with h115 | h115
              · rcases Nat.lt_or_ge y 114 with h114 | h114
                · have e : y = 113 := by omega
                  subst e
                  exact Or.inr ⟨_, _, rfl, by decide +kernel, ok_113⟩
                · have e : y = 114 := by omega
                  subst e
                  exact Or.inr ⟨_, _, rfl, by decide +kernel, ok_114⟩
              · rcases Nat.lt_or_ge y 116 with h116 | h116
                · have e : y = 115 := by omega
                  subst e
                  exact Or.inr ⟨_, _, rfl, by decide +kernel, ok_115⟩
                · rcases Nat.lt_or_ge y 117 with h117 | h117
                  · have e : y = 116 := by omega
                    subst e
                    exact Or.inr ⟨_, _, rfl, by decide +kernel, ok_116⟩
                  · have e : y = 117 := by omega
                    subst e
                    exact Or.inr ⟨_, _, rfl, by decide +kernel, ok_117⟩
      · rcases Nat.lt_or_ge y 138 with h138 | h138
        · rcases Nat.lt_or_ge y 128 with h128 | h128
          · rcases Nat.lt_or_ge y 123 with h123 | h123
            · rcases Nat.lt_or_ge y 120 with h120 | h120
              · rcases Nat.lt_or_ge y 119 with h119 | h119
                · have e : y = 118 := by omega
                  subst e
                  exact Or.inr ⟨_, _, rfl, by decide +kernel, ok_118⟩
                · have e : y = 119 := by omega
                  subst e
                  exact Or.inr ⟨_, _, rfl, by decide +kernel, ok_119⟩
              · rcases Nat.lt_or_ge y 121 with h121 | h121
                · have e : y = 120 := by omega
                  subst e
                  exact Or.inr ⟨_, _, rfl, by decide +kernel, ok_120⟩
                · rcases Nat.lt_or_ge y 122 with h122 | h122
                  · have e : y = 121 := by omega
                    subst e
                    exact Or.inr ⟨_, _, rfl, by decide +kernel, ok_121⟩
                  · have e : y = 122 := by omega
                    subst e
                    exact Or.inr ⟨_, _, rfl, by decide +kernel, ok_122⟩
            · rcases Nat.lt_or_ge y 125 with h125 | h125
              · rcases Nat.lt_or_ge y 124 with h124 | h124
                · have e : y = 123 := by omega
                  subst e
                  exact Or.inr ⟨_, _, rfl, by decide +kernel, ok_123⟩
                · have e : y = 124 := by omega
                  subst e
                  exact Or.inr ⟨_, _, rfl, by decide +kernel, ok_124⟩
              · rcases Nat.lt_or_ge y 126 with h126 | h126
                · have e : y = 125 := by omega
                  subst e
                  exact Or.inr ⟨_, _, rfl, by decide +kernel, ok_125⟩
                · rcases Nat.lt_or_ge y 127 with h127 | h127
                  · have e : y = 126 := by omega
                    subst e
                    exact Or.inr ⟨_, _, rfl, by decide +kernel, ok_126⟩
                  · have e : y = 127 := by omega
                    subst e
                    exact Or.inr ⟨_, _, rfl, by decide +kernel, ok_127⟩
          · rcases Nat.lt_or_ge y 133 with h133 | h133
            · rcases Nat.lt_or_ge y 130 with h130 | h130
              · rcases Nat.lt_or_ge y 129 with h129 | h129
                · have e : y = 128 := by omega
                  subst e
                  exact Or.inr ⟨_, _, rfl, by decide +kernel, ok_128⟩
                · have e : y = 129 := by omega
                  subst e
                  exact Or.inr ⟨_, _, rfl, by decide +kernel, ok_129⟩
              · rcases Nat.lt_or_ge y 131 with h131 | h131
                · have e : y = 130 := by omega
                  subst e
                  exact Or.inr ⟨_, _, rfl, by decide +kernel, ok_130⟩
                · rcases Nat.lt_or_ge y 132 with h132 | h132
                  · have e : y = 131 := by omega
                    subst e
                    exact Or.inr ⟨_, _, rfl, by decide +kernel, ok_131⟩
                  · have e : y = 132 := by omega
                    subst e
                    exact Or.inr ⟨_, _, rfl, by decide +kernel, ok_132⟩
            · rcases Nat.lt_or_ge y 135 with h135 | h135
              · rcases Nat.lt_or_ge y 134 with h134 | h134
                · have e : y = 133 := by omega
                  subst e
                  exact Or.inr ⟨_, _, rfl, by decide +kernel, ok_133⟩
                · have e : y = 134 := by omega
                  subst e
                  exact Or.inr ⟨_, _, rfl, by decide +kernel, ok_134⟩
              · rcases Nat.lt_or_ge y 136 with h136 | h136
                · have e : y = 135 := by omega
                  subst e
                  exact Or.inr ⟨_, _, rfl, by decide +kernel, ok_135⟩
                · rcases Nat.lt_or_ge y 137 with h137 | h137
                  · have e : y = 136 := by omega
                    subst e
                    exact Or.inr ⟨_, _, rfl, by decide +kernel, ok_136⟩
                  · have e : y = 137 := by omega
                    subst e
                    exact Or.inr ⟨_, _, rfl, by decide +kernel, ok_137⟩
        · rcases Nat.lt_or_ge y 148 with h148 | h148
          · rcases Nat.lt_or_ge y 143 with h143 | h143
            · rcases Nat.lt_or_ge y 140 with h140 | h140
              · rcases Nat.lt_or_ge y 139 with h139 | h139
                · have e : y = 138 := by omega
                  subst e
                  exact Or.inr ⟨_, _, rfl, by decide +kernel, ok_138⟩
                · have e : y = 139 := by omega
                  subst e
                  exact Or.inr ⟨_, _, rfl, by decide +kernel, ok_139⟩
              · rcases Nat.lt_or_ge y 141 with h141 | h141
                · have e : y = 140 := by omega
                  subst e
                  exact Or.inr ⟨_, _, rfl, by decide +kernel, ok_140⟩
                · rcases Nat.lt_or_ge y 142 with h142 | h142
                  · have e : y = 141 := by omega
                    subst e
                    exact Or.inr ⟨_, _, rfl, by decide +kernel, ok_141⟩
                  · have e : y = 142 := by omega
                    subst e
                    exact Or.inr ⟨_, _, rfl, by decide +kernel, ok_142⟩
            · rcases Nat.lt_or_ge y 145 with h145 | h145
              · rcases Nat.lt_or_ge y 144 with h144 | h144
                · have e : y = 143 := by omega
                  subst e
                  exact Or.inr ⟨_, _, rfl, by decide +kernel, ok_143⟩
                · have e : y = 144 := by omega
                  subst e
                  exact Or.inr ⟨_, _, rfl, by decide +kernel, ok_144⟩
              · rcases Nat.lt_or_ge y 146 with h146 | h146
                · have e : y = 145 := by omega
                  subst e
                  exact Or.inr ⟨_, _, rfl, by decide +kernel, ok_145⟩
                · rcases Nat.lt_or_ge y 147 with h147 | h147
                  · have e : y = 146 := by omega
                    subst e
                    exact Or.inr ⟨_, _, rfl, by decide +kernel, ok_146⟩
                  · have e : y = 147 := by omega
                    subst e
                    exact Or.inr ⟨_, _, rfl, by decide +kernel, ok_147⟩
          · rcases Nat.lt_or_ge y 153 with h153 | h153
            · rcases Nat.lt_or_ge y 150 with h150 | h150
              · rcases Nat.lt_or_ge y 149 with h149 | h149
                · have e : y = 148 := by omega
                  subst e
                  exact Or.inr ⟨_, _, rfl, by decide +kernel, ok_148⟩
                · have e : y = 149 := by omega
                  subst e
                  exact Or.inr ⟨_, _, rfl, by decide +kernel, ok_149⟩
              · rcases Nat.lt_or_ge y 151 with h151 | h151
                · have e : y = 150 := by omega
                  subst e
                  exact Or.inr ⟨_, _, rfl, by decide +kernel, ok_150⟩
                · rcases Nat.lt_or_ge y 152 with h152 | h152
                  · have e : y = 151 := by omega
                    subst e
                    exact Or.inr ⟨_, _, rfl, by decide +kernel, ok_151⟩
                  · have e : y = 152 := by omega
                    subst e
                    exact Or.inr ⟨_, _, rfl, by decide +kernel, ok_152⟩
            · rcases Nat.lt_or_ge y 155 with h155 | h155
              · rcases Nat.lt_or_ge y 154 with h154 | h154
                · have e : y = 153 := by omega
                  subst e
                  exact Or.inr ⟨_, _, rfl, by decide +kernel, ok_153⟩
                · have e : y = 154 := by omega
                  subst e
                  exact Or.inr ⟨_, _, rfl, by decide +kernel, ok_154⟩
              · rcases Nat.lt_or_ge y 156 with h156 | h156
                · have e : y = 155 := by omega
                  subst e
                  exact Or.inr ⟨_, _, rfl, by decide +kernel, ok_155⟩
                · rcases Nat.lt_or_ge y 157 with h157 | h157
                  · have e : y = 156 := by omega
                    subst e
                    exact Or.inr ⟨_, _, rfl, by decide +kernel, ok_156⟩
                  · have e : y = 157 := by omega
                    subst e
                    exact Or.inr ⟨_, _, rfl, by decide +kernel, ok_157⟩
  · refine Or.inl ?_
    unfold qMT
    rw [show Nat.ble 158 y = true from Nat.ble_eq_true_of_le h]
    rfl
