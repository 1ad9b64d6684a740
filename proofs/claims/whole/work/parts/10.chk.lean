/-- many steps, up to the places S -/
def yWp : Nat → Nat → Nat → List (Nat × yE) → List Nat → Nat → List (Option Value) → List Value → yS → (Option Value → yS → Prop) → Prop
  | 0, d, mi, _, _, pc, L, st, σ, Q => yR d mi pc L st σ Q
  | n + 1, d, mi, C, S, pc, L, st, σ, Q => match C.lookup pc with
    | none => False
    | some e => yStep d mi (fun pc' L' st' σ' => match S.contains pc' with
      | true => yR d mi pc' L' st' σ' Q
      | false => yWp n d mi C S pc' L' st' σ' Q) Q pc e L st σ
def chkC (mi : Nat) (C : List (Nat × yE)) : Bool := C.all (fun q => chkE mi q.1 q.2)
theorem lookup_mem {C : List (Nat × yE)} {pc : Nat} {e : yE} (h : C.lookup pc = some e) : (pc, e) ∈ C := by
  induction C with
  | nil => cases h
  | cons q C ih =>
    obtain ⟨a, b⟩ := q
    rw [List.lookup_cons] at h
    split at h
    · rename_i hq
      have := eq_of_beq hq
      cases h
      subst this
      exact List.mem_cons_self
    · exact List.mem_cons_of_mem _ (ih h)
theorem yWp_sound {mi : Nat} {C : List (Nat × yE)} {d : Nat} {S : List Nat} {Q : Option Value → yS → Prop} (hG : ∀ c ∈ yGood, chkM c = true) (hC : chkC mi C = true) : ∀ (n : Nat) {pc : Nat} {L : List (Option Value)} {st : List Value} {σ : yS}, yWp n d mi C S pc L st σ Q → yR d mi pc L st σ Q
  | 0, _, _, _, _, h => h
  | n + 1, pc, L, st, σ, h => by
    unfold yWp at h
    split at h
    · exact h.elim
    · rename_i e he
      have h1 : (fun q : Nat × yE => chkE mi q.1 q.2) (pc, e) = true := List.all_eq_true.mp hC (pc, e) (lookup_mem he)
      have h2 : chkE mi pc e = true := by simpa only using h1
      generalize hk0 : (fun pc' L' st' σ' => match S.contains pc' with
        | true => yR d mi pc' L' st' σ' Q
        | false => yWp n d mi C S pc' L' st' σ' Q) = k at h
      refine yStep_sound hG h2 (fun pc' L' st' σ' hk => ?_) h
      rw [← hk0] at hk
      try dsimp only at hk
      split at hk
      · exact hk
      · exact yWp_sound hG hC n hk
theorem gd_1 : chkM 1 = true := by decide +kernel
theorem gd_2 : chkM 2 = true := by decide +kernel
theorem gd_4 : chkM 4 = true := by decide +kernel
theorem gd_5 : chkM 5 = true := by decide +kernel
theorem gd_6 : chkM 6 = true := by decide +kernel
theorem gd_7 : chkM 7 = true := by decide +kernel
theorem gd_8 : chkM 8 = true := by decide +kernel
theorem gd_9 : chkM 9 = true := by decide +kernel
theorem gd_10 : chkM 10 = true := by decide +kernel
theorem gd_11 : chkM 11 = true := by decide +kernel
theorem gd_12 : chkM 12 = true := by decide +kernel
theorem gd_13 : chkM 13 = true := by decide +kernel
theorem gd_14 : chkM 14 = true := by decide +kernel
theorem gd_15 : chkM 15 = true := by decide +kernel
theorem gd_16 : chkM 16 = true := by decide +kernel
theorem gd_17 : chkM 17 = true := by decide +kernel
theorem gd_18 : chkM 18 = true := by decide +kernel
theorem gd_20 : chkM 20 = true := by decide +kernel
theorem gd_21 : chkM 21 = true := by decide +kernel
theorem gd_22 : chkM 22 = true := by decide +kernel
theorem gd_23 : chkM 23 = true := by decide +kernel
theorem gd_24 : chkM 24 = true := by decide +kernel
theorem gd_26 : chkM 26 = true := by decide +kernel
theorem gd_27 : chkM 27 = true := by decide +kernel
theorem gd_28 : chkM 28 = true := by decide +kernel
theorem gd_29 : chkM 29 = true := by decide +kernel
theorem gd_30 : chkM 30 = true := by decide +kernel
theorem gd_31 : chkM 31 = true := by decide +kernel
theorem gd_32 : chkM 32 = true := by decide +kernel
theorem gd_33 : chkM 33 = true := by decide +kernel
theorem gd_34 : chkM 34 = true := by decide +kernel
theorem gd_35 : chkM 35 = true := by decide +kernel
theorem gd_36 : chkM 36 = true := by decide +kernel
theorem gd_37 : chkM 37 = true := by decide +kernel
theorem gd_38 : chkM 38 = true := by decide +kernel
theorem gd_39 : chkM 39 = true := by decide +kernel
theorem gd_40 : chkM 40 = true := by decide +kernel
theorem gd_41 : chkM 41 = true := by decide +kernel
theorem gd_42 : chkM 42 = true := by decide +kernel
theorem gd_43 : chkM 43 = true := by decide +kernel
theorem gd_44 : chkM 44 = true := by decide +kernel
theorem gd_45 : chkM 45 = true := by decide +kernel
theorem gd_46 : chkM 46 = true := by decide +kernel
theorem gd_48 : chkM 48 = true := by decide +kernel
theorem gd_49 : chkM 49 = true := by decide +kernel
theorem gd_50 : chkM 50 = true := by decide +kernel
theorem gd_52 : chkM 52 = true := by decide +kernel
theorem gd_53 : chkM 53 = true := by decide +kernel
theorem gd_54 : chkM 54 = true := by decide +kernel
theorem gd_55 : chkM 55 = true := by decide +kernel
theorem gd_56 : chkM 56 = true := by decide +kernel
theorem gd_57 : chkM 57 = true := by decide +kernel
theorem gd_58 : chkM 58 = true := by decide +kernel
theorem gd_59 : chkM 59 = true := by decide +kernel
theorem gd_60 : chkM 60 = true := by decide +kernel
theorem gd_61 : chkM 61 = true := by decide +kernel
theorem gd_62 : chkM 62 = true := by decide +kernel
theorem gd_63 : chkM 63 = true := by decide +kernel
theorem gd_64 : chkM 64 = true := by decide +kernel
theorem gd_65 : chkM 65 = true := by decide +kernel
theorem gd_66 : chkM 66 = true := by decide +kernel
theorem gd_67 : chkM 67 = true := by decide +kernel
theorem gd_68 : chkM 68 = true := by decide +kernel
theorem gd_69 : chkM 69 = true := by decide +kernel
theorem gd_70 : chkM 70 = true := by decide +kernel
theorem gd_71 : chkM 71 = true := by decide +kernel
theorem gd_72 : chkM 72 = true := by decide +kernel
theorem gd_73 : chkM 73 = true := by decide +kernel
theorem gd_74 : chkM 74 = true := by decide +kernel
theorem gd_75 : chkM 75 = true := by decide +kernel
theorem gd_76 : chkM 76 = true := by decide +kernel
theorem gd_77 : chkM 77 = true := by decide +kernel
theorem gd_78 : chkM 78 = true := by decide +kernel
theorem gd_80 : chkM 80 = true := by decide +kernel
theorem gd_81 : chkM 81 = true := by decide +kernel
theorem gd_82 : chkM 82 = true := by decide +kernel
theorem gd_83 : chkM 83 = true := by decide +kernel
theorem gd_84 : chkM 84 = true := by decide +kernel
theorem gd_85 : chkM 85 = true := by decide +kernel
theorem gd_86 : chkM 86 = true := by decide +kernel
theorem gd_87 : chkM 87 = true := by decide +kernel
theorem gd_88 : chkM 88 = true := by decide +kernel
theorem gd_89 : chkM 89 = true := by decide +kernel
theorem gd_90 : chkM 90 = true := by decide +kernel
theorem gd_91 : chkM 91 = true := by decide +kernel
theorem gd_92 : chkM 92 = true := by decide +kernel
theorem gd_93 : chkM 93 = true := by decide +kernel
theorem gd_94 : chkM 94 = true := by decide +kernel
theorem gd_95 : chkM 95 = true := by decide +kernel
theorem gd_96 : chkM 96 = true := by decide +kernel
theorem gd_97 : chkM 97 = true := by decide +kernel
theorem gd_98 : chkM 98 = true := by decide +kernel
theorem gd_99 : chkM 99 = true := by decide +kernel
theorem gd_100 : chkM 100 = true := by decide +kernel
theorem gd_101 : chkM 101 = true := by decide +kernel
theorem gd_102 : chkM 102 = true := by decide +kernel
theorem gd_103 : chkM 103 = true := by decide +kernel
theorem gd_104 : chkM 104 = true := by decide +kernel
theorem gd_105 : chkM 105 = true := by decide +kernel
theorem gd_106 : chkM 106 = true := by decide +kernel
theorem gd_107 : chkM 107 = true := by decide +kernel
theorem gd_108 : chkM 108 = true := by decide +kernel
theorem gd_109 : chkM 109 = true := by decide +kernel
theorem gd_110 : chkM 110 = true := by decide +kernel
theorem gd_111 : chkM 111 = true := by decide +kernel
theorem gd_112 : chkM 112 = true := by decide +kernel
theorem gd_113 : chkM 113 = true := by decide +kernel
theorem gd_114 : chkM 114 = true := by decide +kernel
theorem gd_115 : chkM 115 = true := by decide +kernel
theorem gd_116 : chkM 116 = true := by decide +kernel
theorem gd_117 : chkM 117 = true := by decide +kernel
theorem gd_118 : chkM 118 = true := by decide +kernel
theorem gd_119 : chkM 119 = true := by decide +kernel
theorem gd_120 : chkM 120 = true := by decide +kernel
theorem gd_121 : chkM 121 = true := by decide +kernel
theorem gd_122 : chkM 122 = true := by decide +kernel
theorem gd_123 : chkM 123 = true := by decide +kernel
theorem gd_124 : chkM 124 = true := by decide +kernel
theorem gd_125 : chkM 125 = true := by decide +kernel
theorem gd_126 : chkM 126 = true := by decide +kernel
theorem gd_127 : chkM 127 = true := by decide +kernel
theorem gd_128 : chkM 128 = true := by decide +kernel
theorem gd_129 : chkM 129 = true := by decide +kernel
theorem gd_130 : chkM 130 = true := by decide +kernel
theorem gd_131 : chkM 131 = true := by decide +kernel
theorem gd_132 : chkM 132 = true := by decide +kernel
theorem gd_133 : chkM 133 = true := by decide +kernel
theorem gd_134 : chkM 134 = true := by decide +kernel
theorem gd_135 : chkM 135 = true := by decide +kernel
theorem gd_136 : chkM 136 = true := by decide +kernel
theorem gd_137 : chkM 137 = true := by decide +kernel
theorem gd_138 : chkM 138 = true := by decide +kernel
theorem gd_139 : chkM 139 = true := by decide +kernel
theorem gd_140 : chkM 140 = true := by decide +kernel
theorem gd_141 : chkM 141 = true := by decide +kernel
theorem gd_142 : chkM 142 = true := by decide +kernel
theorem gd_143 : chkM 143 = true := by decide +kernel
theorem gd_144 : chkM 144 = true := by decide +kernel
theorem gd_145 : chkM 145 = true := by decide +kernel
theorem gd_146 : chkM 146 = true := by decide +kernel
theorem gd_147 : chkM 147 = true := by decide +kernel
theorem gd_148 : chkM 148 = true := by decide +kernel
theorem gd_149 : chkM 149 = true := by decide +kernel
theorem yGood_ok : ∀ c ∈ yGood, chkM c = true := by
  intro c hc
  simp only [yGood, List.mem_cons, List.not_mem_nil, or_false] at hc
  rcases hc with rfl | rfl | rfl | rfl | rfl | rfl | rfl | rfl | rfl | rfl | rfl | rfl | rfl | rfl | rfl | rfl | rfl | rfl | rfl | rfl | rfl | rfl | rfl | rfl | rfl | rfl | rfl | rfl | rfl | rfl | rfl | rfl | rfl | rfl | rfl | rfl | rfl | rfl | rfl | rfl | rfl | rfl | rfl | rfl | rfl | rfl | rfl | rfl | rfl | rfl | rfl | rfl | rfl | rfl | rfl | rfl | rfl | rfl | rfl | rfl | rfl | rfl | rfl | rfl | rfl | rfl | rfl | rfl | rfl | rfl | rfl | rfl | rfl | rfl | rfl | rfl | rfl | rfl | rfl | rfl | rfl | rfl | rfl | rfl | rfl | rfl | rfl | rfl | rfl | rfl | rfl | rfl | rfl | rfl | rfl | rfl | rfl | rfl | rfl | rfl | rfl | rfl | rfl | rfl | rfl | rfl | rfl | rfl | rfl | rfl | rfl | rfl | rfl | rfl | rfl | rfl | rfl | rfl | rfl | rfl | rfl | rfl | rfl | rfl | rfl | rfl | rfl | rfl | rfl | rfl | rfl | rfl | rfl | rfl | rfl | rfl | rfl | rfl | rfl | rfl | rfl | rfl | rfl
  · exact gd_1
  · exact gd_2
  · exact gd_4
  · exact gd_5
  · exact gd_6
  · exact gd_7
  · exact gd_8
  · exact gd_9
  · exact gd_10
  · exact gd_11
  · exact gd_12
  · exact gd_13
  · exact gd_14
  · exact gd_15
  · exact gd_16
  · exact gd_17
  · exact gd_18
  · exact gd_20
  · exact gd_21
  · exact gd_22
  · exact gd_23
  · exact gd_24
  · exact gd_26
  · exact gd_27
  · exact gd_28
  · exact gd_29
  · exact gd_30
  · exact gd_31
  · exact gd_32
  · exact gd_33
  · exact gd_34
  · exact gd_35
  · exact gd_36
  · exact gd_37
  · exact gd_38
  · exact gd_39
  · exact gd_40
  · exact gd_41
  · exact gd_42
  · exact gd_43
  · exact gd_44
  · exact gd_45
  · exact gd_46
  · exact gd_48
  · exact gd_49
  · exact gd_50
  · exact gd_52
  · exact gd_53
  · exact gd_54
  · exact gd_55
  · exact gd_56
  · exact gd_57
  · exact gd_58
  · exact gd_59
  · exact gd_60
  · exact gd_61
  · exact gd_62
  · exact gd_63
  · exact gd_64
  · exact gd_65
  · exact gd_66
  · exact gd_67
  · exact gd_68
  · exact gd_69
  · exact gd_70
  · exact gd_71
  · exact gd_72
  · exact gd_73
  · exact gd_74
  · exact gd_75
  · exact gd_76
  · exact gd_77
  · exact gd_78
  · exact gd_80
  · exact gd_81
  · exact gd_82
  · exact gd_83
  · exact gd_84
  · exact gd_85
  · exact gd_86
  · exact gd_87
  · exact gd_88
  · exact gd_89
  · exact gd_90
  · exact gd_91
  · exact gd_92
  · exact gd_93
  · exact gd_94
  · exact gd_95
  · exact gd_96
  · exact gd_97
  · exact gd_98
  · exact gd_99
  · exact gd_100
  · exact gd_101
  · exact gd_102
  · exact gd_103
  · exact gd_104
  · exact gd_105
  · exact gd_106
  · exact gd_107
  · exact gd_108
  · exact gd_109
  · exact gd_110
  · exact gd_111
  · exact gd_112
  · exact gd_113
  · exact gd_114
  · exact gd_115
  · exact gd_116
  · exact gd_117
  · exact gd_118
  · exact gd_119
  · exact gd_120
  · exact gd_121
  · exact gd_122
  · exact gd_123
  · exact gd_124
  · exact gd_125
  · exact gd_126
  · exact gd_127
  · exact gd_128
  · exact gd_129
  · exact gd_130
  · exact gd_131
  · exact gd_132
  · exact gd_133
  · exact gd_134
  · exact gd_135
  · exact gd_136
  · exact gd_137
  · exact gd_138
  · exact gd_139
  · exact gd_140
  · exact gd_141
  · exact gd_142
  · exact gd_143
  · exact gd_144
  · exact gd_145
  · exact gd_146
  · exact gd_147
  · exact gd_148
  · exact gd_149
