/-! All of the check. Printed by wip/gen/gen_ck.py. -/
theorem ck_all (k : Nat) (hk : k < 260) : ∀ q e, cd k q = some e → chkE k q e = true := by
  rcases Nat.lt_or_ge k 130 with h130 | h130
  · rcases Nat.lt_or_ge k 65 with h65 | h65
    · rcases Nat.lt_or_ge k 32 with h32 | h32
      · rcases Nat.lt_or_ge k 16 with h16 | h16
        · rcases Nat.lt_or_ge k 8 with h8 | h8
          · rcases Nat.lt_or_ge k 4 with h4 | h4
            · rcases Nat.lt_or_ge k 2 with h2 | h2
              · rcases Nat.lt_or_ge k 1 with h1 | h1
                · have e : k = 0 := by omega
                  subst e
                  exact ckk0
                · have e : k = 1 := by omega
                  subst e
                  exact ckk1
              · rcases Nat.lt_or_ge k 3 with h3 | h3
                · have e : k = 2 := by omega
                  subst e
                  exact ckk2
                · have e : k = 3 := by omega
                  subst e
                  exact ckk3
            · rcases Nat.lt_or_ge k 6 with h6 | h6
              · rcases Nat.lt_or_ge k 5 with h5 | h5
                · have e : k = 4 := by omega
                  subst e
                  exact ckk4
                · have e : k = 5 := by omega
                  subst e
                  exact ckk5
              · rcases Nat.lt_or_ge k 7 with h7 | h7
                · have e : k = 6 := by omega
                  subst e
                  exact ckk6
                · have e : k = 7 := by omega
                  subst e
                  exact ckk7
          · rcases Nat.lt_or_ge k 12 with h12 | h12
            · rcases Nat.lt_or_ge k 10 with h10 | h10
              · rcases Nat.lt_or_ge k 9 with h9 | h9
                · have e : k = 8 := by omega
                  subst e
                  exact ckk8
                · have e : k = 9 := by omega
                  subst e
                  exact ckk9
              · rcases Nat.lt_or_ge k 11 with h11 | h11
                · have e : k = 10 := by omega
                  subst e
                  exact ckk10
                · have e : k = 11 := by omega
                  subst e
                  exact ckk11
            · rcases Nat.lt_or_ge k 14 with h14 | h14
              · rcases Nat.lt_or_ge k 13 with h13 | h13
                · have e : k = 12 := by omega
                  subst e
                  exact ckk12
                · have e : k = 13 := by omega
                  subst e
                  exact ckk13
              · rcases Nat.lt_or_ge k 15 with h15 | h15
                · have e : k = 14 := by omega
                  subst e
                  exact ckk14
                · have e : k = 15 := by omega
                  subst e
                  exact ckk15
        · rcases Nat.lt_or_ge k 24 with h24 | h24
          · rcases Nat.lt_or_ge k 20 with h20 | h20
            · rcases Nat.lt_or_ge k 18 with h18 | h18
              · rcases Nat.lt_or_ge k 17 with h17 | h17
                · have e : k = 16 := by omega
                  subst e
                  exact ckk16
                · have e : k = 17 := by omega
                  subst e
                  exact ckk17
              · rcases Nat.lt_or_ge k 19 with h19 | h19
                · have e : k = 18 := by omega
                  subst e
                  exact ckk18
                · have e : k = 19 := by omega
                  subst e
                  exact ckk19
            · rcases Nat.lt_or_ge k 22 with h22 | h22
              · rcases Nat.lt_or_ge k 21 with h21 | h21
                · have e : k = 20 := by omega
                  subst e
                  exact ckk20
                · have e : k = 21 := by omega
                  subst e
                  exact ckk21
              · rcases Nat.lt_or_ge k 23 with h23 | h23
                · have e : k = 22 := by omega
                  subst e
                  exact ckk22
                · have e : k = 23 := by omega
                  subst e
                  exact ckk23
          · rcases Nat.lt_or_ge k 28 with h28 | h28
            · rcases Nat.lt_or_ge k 26 with h26 | h26
              · rcases Nat.lt_or_ge k 25 with h25 | h25
                · have e : k = 24 := by omega
                  subst e
                  exact ckk24
                · have e : k = 25 := by omega
                  subst e
                  exact ckk25
              · rcases Nat.lt_or_ge k 27 with h27 | h27
                · have e : k = 26 := by omega
                  subst e
                  exact ckk26
                · have e : k = 27 := by omega
                  subst e
                  exact ckk27
            · rcases Nat.lt_or_ge k 30 with h30 | h30
              · rcases Nat.lt_or_ge k 29 with h29 | h29
                · have e : k = 28 := by omega
                  subst e
                  exact ckk28
                · have e : k = 29 := by omega
                  subst e
                  exact ckk29
              · rcases Nat.lt_or_ge k 31 with h31 | h31
                · have e : k = 30 := by omega
                  subst e
                  exact ckk30
                · have e : k = 31 := by omega
                  subst e
                  exact ckk31
      · rcases Nat.lt_or_ge k 48 with h48 | h48
        · rcases Nat.lt_or_ge k 40 with h40 | h40
          · rcases Nat.lt_or_ge k 36 with h36 | h36
            · rcases Nat.lt_or_ge k 34 with h34 | h34
              · rcases Nat.lt_or_ge k 33 with h33 | h33
                · have e : k = 32 := by omega
                  subst e
                  exact ckk32
                · have e : k = 33 := by omega
                  subst e
                  exact ckk33
              · rcases Nat.lt_or_ge k 35 with h35 | h35
                · have e : k = 34 := by omega
                  subst e
                  exact ckk34
                · have e : k = 35 := by omega
                  subst e
                  exact ckk35
            · rcases Nat.lt_or_ge k 38 with h38 | h38
              · rcases Nat.lt_or_ge k 37 with h37 | h37
                · have e : k = 36 := by omega
                  subst e
                  exact ckk36
                · have e : k = 37 := by omega
                  subst e
                  exact ckk37
              · rcases Nat.lt_or_ge k 39 with h39 | h39
                · have e : k = 38 := by omega
                  subst e
                  exact ckk38
                · have e : k = 39 := by omega
                  subst e
                  exact ckk39
          · rcases Nat.lt_or_ge k 44 with h44 | h44
            · rcases Nat.lt_or_ge k 42 with h42 | h42
              · rcases Nat.lt_or_ge k 41 with h41 | h41
                · have e : k = 40 := by omega
                  subst e
                  exact ckk40
                · have e : k = 41 := by omega
                  subst e
                  exact ckk41
              · rcases Nat.lt_or_ge k 43 with h43 | h43
                · have e : k = 42 := by omega
                  subst e
                  exact ckk42
                · have e : k = 43 := by omega
                  subst e
                  exact ckk43
            · rcases Nat.lt_or_ge k 46 with h46 | h46
              · rcases Nat.lt_or_ge k 45 with h45 | h45
                · have e : k = 44 := by omega
                  subst e
                  exact ckk44
                · have e : k = 45 := by omega
                  subst e
                  exact ckk45
              · rcases Nat.lt_or_ge k 47 with h47 | h47
                · have e : k = 46 := by omega
                  subst e
                  exact ckk46
                · have e : k = 47 := by omega
                  subst e
                  exact ckk47
        · rcases Nat.lt_or_ge k 56 with h56 | h56
          · rcases Nat.lt_or_ge k 52 with h52 | h52
            · rcases Nat.lt_or_ge k 50 with h50 | h50
              · rcases Nat.lt_or_ge k 49 with h49 | h49
                · have e : k = 48 := by omega
                  subst e
                  exact ckk48
                · have e : k = 49 := by omega
                  subst e
                  exact ckk49
              · rcases Nat.lt_or_ge k 51 with h51 | h51
                · have e : k = 50 := by omega
                  subst e
                  exact ckk50
                · have e : k = 51 := by omega
                  subst e
                  exact ckk51
            · rcases Nat.lt_or_ge k 54 with h54 | h54
              · rcases Nat.lt_or_ge k 53 with h53 | h53
                · have e : k = 52 := by omega
                  subst e
                  exact ckk52
                · have e : k = 53 := by omega
                  subst e
                  exact ckk53
              · rcases Nat.lt_or_ge k 55 with h55 | h55
                · have e : k = 54 := by omega
                  subst e
                  exact ckk54
                · have e : k = 55 := by omega
                  subst e
                  exact ckk55
          · rcases Nat.lt_or_ge k 60 with h60 | h60
            · rcases Nat.lt_or_ge k 58 with h58 | h58
              · rcases Nat.lt_or_ge k 57 with h57 | h57
                · have e : k = 56 := by omega
                  subst e
                  exact ckk56
                · have e : k = 57 := by omega
                  subst e
                  exact ckk57
              · rcases Nat.lt_or_ge k 59 with h59 | h59
                · have e : k = 58 := by omega
                  subst e
                  exact ckk58
                · have e : k = 59 := by omega
                  subst e
                  exact ckk59
            · rcases Nat.lt_or_ge k 62 with h62 | h62
              · rcases Nat.lt_or_ge k 61 with h61 | h61
                · have e : k = 60 := by omega
                  subst e
                  exact ckk60
                · have e : k = 61 := by omega
                  subst e
                  exact ckk61
              · rcases Nat.lt_or_ge k 63 with h63 | h63
                · have e : k = 62 := by omega
                  subst e
                  exact ckk62
                · rcases Nat.lt_or_ge k 64 with h64 | h64
                  · have e : k = 63 := by omega
                    subst e
                    exact ckk63
                  · have e : k = 64 := by omega
                    subst e
                    exact ckk64
    · rcases Nat.lt_or_ge k 97 with h97 | h97
      · rcases Nat.lt_or_ge k 81 with h81 | h81
        · rcases Nat.lt_or_ge k 73 with h73 | h73
          · rcases Nat.lt_or_ge k 69 with h69 | h69
            · rcases Nat.lt_or_ge k 67 with h67 | h67
              · rcases Nat.lt_or_ge k 66 with h66 | h66
                · have e : k = 65 := by omega
                  subst e
                  exact ckk65
                · have e : k = 66 := by omega
                  subst e
                  exact ckk66
              · rcases Nat.lt_or_ge k 68 with h68 | h68
                · have e : k = 67 := by omega
                  subst e
                  exact ckk67
                · have e : k = 68 := by omega
                  subst e
                  exact ckk68
            · rcases Nat.lt_or_ge k 71 with h71 | h71
              · rcases Nat.lt_or_ge k 70 with h70 | h70
                · have e : k = 69 := by omega
                  subst e
                  exact ckk69
                · have e : k = 70 := by omega
                  subst e
                  exact ckk70
              · rcases Nat.lt_or_ge k 72 with h72 | h72
                · have e : k = 71 := by omega
                  subst e
                  exact ckk71
                · have e : k = 72 := by omega
                  subst e
                  exact ckk72
          · rcases Nat.lt_or_ge k 77 with h77 | h77
            · rcases Nat.lt_or_ge k 75 with h75 | h75
              · rcases Nat.lt_or_ge k 74 with h74 | h74
                · have e : k = 73 := by omega
                  subst e
                  exact ckk73
                · have e : k = 74 := by omega
                  subst e
                  exact ckk74
              · rcases Nat.lt_or_ge k 76 with h76 | h76
                · have e : k = 75 := by omega
                  subst e
                  exact ckk75
                · have e : k = 76 := by omega
                  subst e
                  exact ckk76
            · rcases Nat.lt_or_ge k 79 with h79 | h79
              · rcases Nat.lt_or_ge k 78 with h78 | h78
                · have e : k = 77 := by omega
                  subst e
                  exact ckk77
                · have e : k = 78 := by omega
                  subst e
                  exact ckk78
              · rcases Nat.lt_or_ge k 80 with h80 | h80
                · have e : k = 79 := by omega
                  subst e
                  exact ckk79
                · have e : k = 80 := by omega
                  subst e
                  exact ckk80
        · rcases Nat.lt_or_ge k 89 with h89 | h89
          · rcases Nat.lt_or_ge k 85 with h85 | h85
            · rcases Nat.lt_or_ge k 83 with h83 | h83
              · rcases Nat.lt_or_ge k 82 with h82 | h82
                · have e : k = 81 := by omega
                  subst e
                  exact ckk81
                · have e : k = 82 := by omega
                  subst e
                  exact ckk82
              · rcases Nat.lt_or_ge k 84 with h84 | h84
                · have e : k = 83 := by omega
                  subst e
                  exact ckk83
                · have e : k = 84 := by omega
                  subst e
                  exact ckk84
            · rcases Nat.lt_or_ge k 87 with h87 | h87
              · rcases Nat.lt_or_ge k 86 with h86 | h86
                · have e : k = 85 := by omega
                  subst e
                  exact ckk85
                · have e : k = 86 := by omega
                  subst e
                  exact ckk86
              · rcases Nat.lt_or_ge k 88 with h88 | h88
                · have e : k = 87 := by omega
                  subst e
                  exact ckk87
                · have e : k = 88 := by omega
                  subst e
                  exact ckk88
          · rcases Nat.lt_or_ge k 93 with h93 | h93
            · rcases Nat.lt_or_ge k 91 with h91 | h91
              · rcases Nat.lt_or_ge k 90 with h90 | h90
                · have e : k = 89 := by omega
                  subst e
                  exact ckk89
                · have e : k = 90 := by omega
                  subst e
                  exact ckk90
              · rcases Nat.lt_or_ge k 92 with h92 | h92
                · have e : k = 91 := by omega
                  subst e
                  exact ckk91
                · have e : k = 92 := by omega
                  subst e
                  exact ckk92
            · rcases Nat.lt_or_ge k 95 with h95 | h95
              · rcases Nat.lt_or_ge k 94 with h94 | h94
                · have e : k = 93 := by omega
                  subst e
                  exact ckk93
                · have e : k = 94 := by omega
                  subst e
                  exact ckk94
              · rcases Nat.lt_or_ge k 96 with h96 | h96
                · have e : k = 95 := by omega
                  subst e
                  exact ckk95
                · have e : k = 96 := by omega
                  subst e
                  exact ckk96
      · rcases Nat.lt_or_ge k 113 with h113 | h113
        · rcases Nat.lt_or_ge k 105 with h105 | h105
          · rcases Nat.lt_or_ge k 101 with h101 | h101
            · rcases Nat.lt_or_ge k 99 with h99 | h99
              · rcases Nat.lt_or_ge k 98 with h98 | h98
                · have e : k = 97 := by omega
                  subst e
                  exact ckk97
                · have e : k = 98 := by omega
                  subst e
                  exact ckk98
              · rcases Nat.lt_or_ge k 100 with h100 | h100
                · have e : k = 99 := by omega
                  subst e
                  exact ckk99
                · have e : k = 100 := by omega
                  subst e
                  exact ckk100
            · rcases Nat.lt_or_ge k 103 with h103 | h103
              · rcases Nat.lt_or_ge k 102 with h102 | h102
                · have e : k = 101 := by omega
                  subst e
                  exact ckk101
                · have e : k = 102 := by omega
                  subst e
                  exact ckk102
              · rcases Nat.lt_or_ge k 104 with h104 | h104
                · have e : k = 103 := by omega
                  subst e
                  exact ckk103
                · have e : k = 104 := by omega
                  subst e
                  exact ckk104
          · rcases Nat.lt_or_ge k 109 with h109 | h109
            · rcases Nat.lt_or_ge k 107 with h107 | h107
              · rcases Nat.lt_or_ge k 106 with h106 | h106
                · have e : k = 105 := by omega
                  subst e
                  exact ckk105
                · have e : k = 106 := by omega
                  subst e
                  exact ckk106
              · rcases Nat.lt_or_ge k 108 with h108 | h108
                · have e : k = 107 := by omega
                  subst e
                  exact ckk107
                · have e : k = 108 := by omega
                  subst e
                  exact ckk108
            · rcases Nat.lt_or_ge k 111 with h111 | h111
              · rcases Nat.lt_or_ge k 110 with h110 | h110
                · have e : k = 109 := by omega
                  subst e
                  exact ckk109
                · have e : k = 110 := by omega
                  subst e
                  exact ckk110
              · rcases Nat.lt_or_ge k 112 with h112 | h112
                · have e : k = 111 := by omega
                  subst e
                  exact ckk111
                · have e : k = 112 := by omega
                  subst e
                  exact ckk112
        · rcases Nat.lt_or_ge k 121 with h121 | h121
          · rcases Nat.lt_or_ge k 117 with h117 | h117
            · rcases Nat.lt_or_ge k 115 with h115 | h115
              · rcases Nat.lt_or_ge k 114 with h114 | h114
                · have e : k = 113 := by omega
                  subst e
                  exact ckk113
                · have e : k = 114 := by omega
                  subst e
                  exact ckk114
              · rcases Nat.lt_or_ge k 116 with h116 | h116
                · have e : k = 115 := by omega
                  subst e
                  exact ckk115
                · have e : k = 116 := by omega
                  subst e
                  exact ckk116
            · rcases Nat.lt_or_ge k 119 with h119 | h119
              · rcases Nat.lt_or_ge k 118 with h118 | h118
                · have e : k = 117 := by omega
                  subst e
                  exact ckk117
                · have e : k = 118 := by omega
                  subst e
                  exact ckk118
              · rcases Nat.lt_or_ge k 120 with h120 | h120
                · have e : k = 119 := by omega
                  subst e
                  exact ckk119
                · have e : k = 120 := by omega
                  subst e
                  exact ckk120
          · rcases Nat.lt_or_ge k 125 with h125 | h125
            · rcases Nat.lt_or_ge k 123 with h123 | h123
              · rcases Nat.lt_or_ge k 122 with h122 | h122
                · have e : k = 121 := by omega
                  subst e
                  exact ckk121
                · have e : k = 122 := by omega
                  subst e
                  exact ckk122
              · rcases Nat.lt_or_ge k 124 with h124 | h124
                · have e : k = 123 := by omega
                  subst e
                  exact ckk123
                · have e : k = 124 := by omega
                  subst e
                  exact ckk124
            · rcases Nat.lt_or_ge k 127 with h127 | h127
              · rcases Nat.lt_or_ge k 126 with h126 | h126
                · have e : k = 125 := by omega
                  subst e
                  exact ckk125
                · have e : k = 126 := by omega
                  subst e
                  exact ckk126
              · rcases Nat.lt_or_ge k 128 with h128 | h128
                · have e : k = 127 := by omega
                  subst e
                  exact ckk127
                · rcases Nat.lt_or_ge k 129 with h129 | h129
                  · have e : k = 128 := by omega
                    subst e
                    exact ckk128
                  · have e : k = 129 := by omega
                    subst e
                    exact ckk129
  · rcases Nat.lt_or_ge k 195 with h195 | h195
    · rcases Nat.lt_or_ge k 162 with h162 | h162
      · rcases Nat.lt_or_ge k 146 with h146 | h146
        · rcases Nat.lt_or_ge k 138 with h138 | h138
          · rcases Nat.lt_or_ge k 134 with h134 | h134
            · rcases Nat.lt_or_ge k 132 with h132 | h132
              · rcases Nat.lt_or_ge k 131 with h131 | h131
                · have e : k = 130 := by omega
                  subst e
                  exact ckk130
                · have e : k = 131 := by omega
                  subst e
                  exact ckk131
              · rcases Nat.lt_or_ge k 133 with h133 | h133
                · have e : k = 132 := by omega
                  subst e
                  exact ckk132
                · have e : k = 133 := by omega
                  subst e
                  exact ckk133
            · rcases Nat.lt_or_ge k 136 with h136 | h136
              · rcases Nat.lt_or_ge k 135 with h135 | h135
                · have e : k = 134 := by omega
                  subst e
                  exact ckk134
                · have e : k = 135 := by omega
                  subst e
                  exact ckk135
              · rcases Nat.lt_or_ge k 137 with h137 | h137
                · have e : k = 136 := by omega
                  subst e
                  exact ckk136
                · have e : k = 137 := by omega
                  subst e
                  exact ckk137
          · rcases Nat.lt_or_ge k 142 with h142 | h142
            · rcases Nat.lt_or_ge k 140 with h140 | h140
              · rcases Nat.lt_or_ge k 139 with h139 | h139
                · have e : k = 138 := by omega
                  subst e
                  exact ckk138
                · have e : k = 139 := by omega
                  subst e
                  exact ckk139
              · rcases Nat.lt_or_ge k 141 with h141 | h141
                · have e : k = 140 := by omega
                  subst e
                  exact ckk140
                · have e : k = 141 := by omega
                  subst e
                  exact ckk141
            · rcases Nat.lt_or_ge k 144 with h144 | h144
              · rcases Nat.lt_or_ge k 143 with h143 | h143
                · have e : k = 142 := by omega
                  subst e
                  exact ckk142
                · have e : k = 143 := by omega
                  subst e
                  exact ckk143
              · rcases Nat.lt_or_ge k 145 with h145 | h145
                · have e : k = 144 := by omega
                  subst e
                  exact ckk144
                · have e : k = 145 := by omega
                  subst e
                  exact ckk145
        · rcases Nat.lt_or_ge k 154 with h154 | h154
          · rcases Nat.lt_or_ge k 150 with h150 | h150
            · rcases Nat.lt_or_ge k 148 with h148 | h148
              · rcases Nat.lt_or_ge k 147 with h147 | h147
                · have e : k = 146 := by omega
                  subst e
                  exact ckk146
                · have e : k = 147 := by omega
                  subst e
                  exact ckk147
              · rcases Nat.lt_or_ge k 149 with h149 | h149
                · have e : k = 148 := by omega
                  subst e
                  exact ckk148
                · have e : k = 149 := by omega
                  subst e
                  exact ckk149
            · rcases Nat.lt_or_ge k 152 with h152 | h152
              · rcases Nat.lt_or_ge k 151 with h151 | h151
                · have e : k = 150 := by omega
                  subst e
                  exact ckk150
                · have e : k = 151 := by omega
                  subst e
                  exact ckk151
              · rcases Nat.lt_or_ge k 153 with h153 | h153
                · have e : k = 152 := by omega
                  subst e
                  exact ckk152
                · have e : k = 153 := by omega
                  subst e
                  exact ckk153
          · rcases Nat.lt_or_ge k 158 with h158 | h158
            · rcases Nat.lt_or_ge k 156 with h156 | h156
              · rcases Nat.lt_or_ge k 155 with h155 | h155
                · have e : k = 154 := by omega
                  subst e
                  exact ckk154
                · have e : k = 155 := by omega
                  subst e
                  exact ckk155
              · rcases Nat.lt_or_ge k 157 with h157 | h157
                · have e : k = 156 := by omega
                  subst e
                  exact ckk156
                · have e : k = 157 := by omega
                  subst e
                  exact ckk157
            · rcases Nat.lt_or_ge k 160 with h160 | h160
              · rcases Nat.lt_or_ge k 159 with h159 | h159
                · have e : k = 158 := by omega
                  subst e
                  exact ckk158
                · have e : k = 159 := by omega
                  subst e
                  exact ckk159
              · rcases Nat.lt_or_ge k 161 with h161 | h161
                · have e : k = 160 := by omega
                  subst e
                  exact ckk160
                · have e : k = 161 := by omega
                  subst e
                  exact ckk161
      · rcases Nat.lt_or_ge k 178 with h178 | h178
        · rcases Nat.lt_or_ge k 170 with h170 | h170
          · rcases Nat.lt_or_ge k 166 with h166 | h166
            · rcases Nat.lt_or_ge k 164 with h164 | h164
              · rcases Nat.lt_or_ge k 163 with h163 | h163
                · have e : k = 162 := by omega
                  subst e
                  exact ckk162
                · have e : k = 163 := by omega
                  subst e
                  exact ckk163
              · rcases Nat.lt_or_ge k 165 with h165 | h165
                · have e : k = 164 := by omega
                  subst e
                  exact ckk164
                · have e : k = 165 := by omega
                  subst e
                  exact ckk165
            · rcases Nat.lt_or_ge k 168 with h168 | h168
              · rcases Nat.lt_or_ge k 167 with h167 | h167
                · have e : k = 166 := by omega
                  subst e
                  exact ckk166
                · have e : k = 167 := by omega
                  subst e
                  exact ckk167
              · rcases Nat.lt_or_ge k 169 with h169 | h169
                · have e : k = 168 := by omega
                  subst e
                  exact ckk168
                · have e : k = 169 := by omega
                  subst e
                  exact ckk169
          · rcases Nat.lt_or_ge k 174 with h174 | h174
            · rcases Nat.lt_or_ge k 172 with h172 | h172
              · rcases Nat.lt_or_ge k 171 with h171 | h171
                · have e : k = 170 := by omega
                  subst e
                  exact ckk170
                · have e : k = 171 := by omega
                  subst e
                  exact ckk171
              · rcases Nat.lt_or_ge k 173 with h173 | h173
                · have e : k = 172 := by omega
                  subst e
                  exact ckk172
                · have e : k = 173 := by omega
                  subst e
                  exact ckk173
            · rcases Nat.lt_or_ge k 176 with h176 | h176
              · rcases Nat.lt_or_ge k 175 with h175 | h175
                · have e : k = 174 := by omega
                  subst e
                  exact ckk174
                · have e : k = 175 := by omega
                  subst e
                  exact ckk175
              · rcases Nat.lt_or_ge k 177 with h177 | h177
                · have e : k = 176 := by omega
                  subst e
                  exact ckk176
                · have e : k = 177 := by omega
                  subst e
                  exact ckk177
        · rcases Nat.lt_or_ge k 186 with h186 | h186
          · rcases Nat.lt_or_ge k 182 with h182 | h182
            · rcases Nat.lt_or_ge k 180 with h180 | h180
              · rcases Nat.lt_or_ge k 179 with h179 | h179
                · have e : k = 178 := by omega
                  subst e
                  exact ckk178
                · have e : k = 179 := by omega
                  subst e
                  exact ckk179
              · rcases Nat.lt_or_ge k 181 with h181 | h181
                · have e : k = 180 := by omega
                  subst e
                  exact ckk180
                · have e : k = 181 := by omega
                  subst e
                  exact ckk181
            · rcases Nat.lt_or_ge k 184 with h184 | h184
              · rcases Nat.lt_or_ge k 183 with h183 | h183
                · have e : k = 182 := by omega
                  subst e
                  exact ckk182
                · have e : k = 183 := by omega
                  subst e
                  exact ckk183
              · rcases Nat.lt_or_ge k 185 with h185 | h185
                · have e : k = 184 := by omega
                  subst e
                  exact ckk184
                · have e : k = 185 := by omega
                  subst e
                  exact ckk185
          · rcases Nat.lt_or_ge k 190 with h190 | h190
            · rcases Nat.lt_or_ge k 188 with h188 | h188
              · rcases Nat.lt_or_ge k 187 with h187 | h187
                · have e : k = 186 := by omega
                  subst e
                  exact ckk186
                · have e : k = 187 := by omega
                  subst e
                  exact ckk187
              · rcases Nat.lt_or_ge k 189 with h189 | h189
                · have e : k = 188 := by omega
                  subst e
                  exact ckk188
                · have e : k = 189 := by omega
                  subst e
                  exact ckk189
            · rcases Nat.lt_or_ge k 192 with h192 | h192
              · rcases Nat.lt_or_ge k 191 with h191 | h191
                · have e : k = 190 := by omega
                  subst e
                  exact ckk190
                · have e : k = 191 := by omega
                  subst e
                  exact ckk191
              · rcases Nat.lt_or_ge k 193 with h193 | h193
                · have e : k = 192 := by omega
                  subst e
                  exact ckk192
                · rcases Nat.lt_or_ge k 194 with h194 | h194
                  · have e : k = 193 := by omega
                    subst e
                    exact ckk193
                  · have e : k = 194 := by omega
                    subst e
                    exact ckk194
    · rcases Nat.lt_or_ge k 227 with h227 | h227
      · rcases Nat.lt_or_ge k 211 with h211 | h211
        · rcases Nat.lt_or_ge k 203 with h203 | h203
          · rcases Nat.lt_or_ge k 199 with h199 | h199
            · rcases Nat.lt_or_ge k 197 with h197 | h197
              · rcases Nat.lt_or_ge k 196 with h196 | h196
                · have e : k = 195 := by omega
                  subst e
                  exact ckk195
                · have e : k = 196 := by omega
                  subst e
                  exact ckk196
              · rcases Nat.lt_or_ge k 198 with h198 | h198
                · have e : k = 197 := by omega
                  subst e
                  exact ckk197
                · have e : k = 198 := by omega
                  subst e
                  exact ckk198
            · rcases Nat.lt_or_ge k 201 with h201 | h201
              · rcases Nat.lt_or_ge k 200 with h200 | h200
                · have e : k = 199 := by omega
                  subst e
                  exact ckk199
                · have e : k = 200 := by omega
                  subst e
                  exact ckk200
              · rcases Nat.lt_or_ge k 202 with h202 | h202
                · have e : k = 201 := by omega
                  subst e
                  exact ckk201
                · have e : k = 202 := by omega
                  subst e
                  exact ckk202
          · rcases Nat.lt_or_ge k 207 with h207 | h207
            · rcases Nat.lt_or_ge k 205 with h205 | h205
              · rcases Nat.lt_or_ge k 204 with h204 | h204
                · have e : k = 203 := by omega
                  subst e
                  exact ckk203
                · have e : k = 204 := by omega
                  subst e
                  exact ckk204
              · rcases Nat.lt_or_ge k 206 with h206 | h206
                · have e : k = 205 := by omega
                  subst e
                  exact ckk205
                · have e : k = 206 := by omega
                  subst e
                  exact ckk206
            · rcases Nat.lt_or_ge k 209 with h209 | h209
              · rcases Nat.lt_or_ge k 208 with h208 | h208
                · have e : k = 207 := by omega
                  subst e
                  exact ckk207
                · have e : k = 208 := by omega
                  subst e
                  exact ckk208
              · rcases Nat.lt_or_ge k 210 with h210 | h210
                · have e : k = 209 := by omega
                  subst e
                  exact ckk209
                · have e : k = 210 := by omega
                  subst e
                  exact ckk210
        · rcases Nat.lt_or_ge k 219 with h219 | h219
          · rcases Nat.lt_or_ge k 215 with h215 | h215
            · rcases Nat.lt_or_ge k 213 with h213 | h213
              · rcases Nat.lt_or_ge k 212 with h212 | h212
                · have e : k = 211 := by omega
                  subst e
                  exact ckk211
                · have e : k = 212 := by omega
                  subst e
                  exact ckk212
              · rcases Nat.lt_or_ge k 214 with h214 | h214
                · have e : k = 213 := by omega
                  subst e
                  exact ckk213
                · have e : k = 214 := by omega
                  subst e
                  exact ckk214
            · rcases Nat.lt_or_ge k 217 with h217 | h217
              · rcases Nat.lt_or_ge k 216 with h216 | h216
                · have e : k = 215 := by omega
                  subst e
                  exact ckk215
                · have e : k = 216 := by omega
                  subst e
                  exact ckk216
              · rcases Nat.lt_or_ge k 218 with h218 | h218
                · have e : k = 217 := by omega
                  subst e
                  exact ckk217
                · have e : k = 218 := by omega
                  subst e
                  exact ckk218
          · rcases Nat.lt_or_ge k 223 with h223 | h223
            · rcases Nat.lt_or_ge k 221 with h221 | h221
              · rcases Nat.lt_or_ge k 220 with h220 | h220
                · have e : k = 219 := by omega
                  subst e
                  exact ckk219
                · have e : k = 220 := by omega
                  subst e
                  exact ckk220
              · rcases Nat.lt_or_ge k 222 with h222 | h222
                · have e : k = 221 := by omega
                  subst e
                  exact ckk221
                · have e : k = 222 := by omega
                  subst e
                  exact ckk222
            · rcases Nat.lt_or_ge k 225 with h225 | h225
              · rcases Nat.lt_or_ge k 224 with h224 | h224
                · have e : k = 223 := by omega
                  subst e
                  exact ckk223
                · have e : k = 224 := by omega
                  subst e
                  exact ckk224
              · rcases Nat.lt_or_ge k 226 with h226 | h226
                · have e : k = 225 := by omega
                  subst e
                  exact ckk225
                · have e : k = 226 := by omega
                  subst e
                  exact ckk226
      · rcases Nat.lt_or_ge k 243 with h243 | h243
        · rcases Nat.lt_or_ge k 235 with h235 | h235
          · rcases Nat.lt_or_ge k 231 with h231 | h231
            · rcases Nat.lt_or_ge k 229 with h229 | h229
              · rcases Nat.lt_or_ge k 228 with h228 | h228
                · have e : k = 227 := by omega
                  subst e
                  exact ckk227
                · have e : k = 228 := by omega
                  subst e
                  exact ckk228
              · rcases Nat.lt_or_ge k 230 with h230 | h230
                · have e : k = 229 := by omega
                  subst e
                  exact ckk229
                · have e : k = 230 := by omega
                  subst e
                  exact ckk230
            · rcases Nat.lt_or_ge k 233 with h233 | h233
              · rcases Nat.lt_or_ge k 232 with h232 | h232
                · have e : k = 231 := by omega
                  subst e
                  exact ckk231
                · have e : k = 232 := by omega
                  subst e
                  exact ckk232
              · rcases Nat.lt_or_ge k 234 with h234 | h234
                · have e : k = 233 := by omega
                  subst e
                  exact ckk233
                · have e : k = 234 := by omega
                  subst e
                  exact ckk234
          · rcases Nat.lt_or_ge k 239 with h239 | h239
            · rcases Nat.lt_or_ge k 237 with h237 | h237
              · rcases Nat.lt_or_ge k 236 with h236 | h236
                · have e : k = 235 := by omega
                  subst e
                  exact ckk235
                · have e : k = 236 := by omega
                  subst e
                  exact ckk236
              · rcases Nat.lt_or_ge k 238 with h238 | h238
                · have e : k = 237 := by omega
                  subst e
                  exact ckk237
                · have e : k = 238 := by omega
                  subst e
                  exact ckk238
            · rcases Nat.lt_or_ge k 241 with h241 | h241
              · rcases Nat.lt_or_ge k 240 with h240 | h240
                · have e : k = 239 := by omega
                  subst e
                  exact ckk239
                · have e : k = 240 := by omega
                  subst e
                  exact ckk240
              · rcases Nat.lt_or_ge k 242 with h242 | h242
                · have e : k = 241 := by omega
                  subst e
                  exact ckk241
                · have e : k = 242 := by omega
                  subst e
                  exact ckk242
        · rcases Nat.lt_or_ge k 251 with h251 | h251
          · rcases Nat.lt_or_ge k 247 with h247 | h247
            · rcases Nat.lt_or_ge k 245 with h245 | h245
              · rcases Nat.lt_or_ge k 244 with h244 | h244
                · have e : k = 243 := by omega
                  subst e
                  exact ckk243
                · have e : k = 244 := by omega
                  subst e
                  exact ckk244
              · rcases Nat.lt_or_ge k 246 with h246 | h246
                · have e : k = 245 := by omega
                  subst e
                  exact ckk245
                · have e : k = 246 := by omega
                  subst e
                  exact ckk246
            · rcases Nat.lt_or_ge k 249 with h249 | h249
              · rcases Nat.lt_or_ge k 248 with h248 | h248
                · have e : k = 247 := by omega
                  subst e
                  exact ckk247
                · have e : k = 248 := by omega
                  subst e
                  exact ckk248
              · rcases Nat.lt_or_ge k 250 with h250 | h250
                · have e : k = 249 := by omega
                  subst e
                  exact ckk249
                · have e : k = 250 := by omega
                  subst e
                  exact ckk250
          · rcases Nat.lt_or_ge k 255 with h255 | h255
            · rcases Nat.lt_or_ge k 253 with h253 | h253
              · rcases Nat.lt_or_ge k 252 with h252 | h252
                · have e : k = 251 := by omega
                  subst e
                  exact ckk251
                · have e : k = 252 := by omega
                  subst e
                  exact ckk252
              · rcases Nat.lt_or_ge k 254 with h254 | h254
                · have e : k = 253 := by omega
                  subst e
                  exact ckk253
                · have e : k = 254 := by omega
                  subst e
                  exact ckk254
            · rcases Nat.lt_or_ge k 257 with h257 | h257
              · rcases Nat.lt_or_ge k 256 with h256 | h256
                · have e : k = 255 := by omega
                  subst e
                  exact ckk255
                · have e : k = 256 := by omega
                  subst e
                  exact ckk256
              · rcases Nat.lt_or_ge k 258 with h258 | h258
                · have e : k = 257 := by omega
                  subst e
                  exact ckk257
                · rcases Nat.lt_or_ge k 259 with h259 | h259
                  · have e : k = 258 := by omega
                    subst e
                    exact ckk258
                  · have e : k = 259 := by omega
                    subst e
                    exact ckk259
theorem cd_big {k q : Nat} {e : Ex} (h : cd k q = some e) : k < 260 := by
  rcases Nat.lt_or_ge k 260 with h1 | h1
  · exact h1
  · unfold cd at h
    rw [Nat.ble_eq_true_of_le h1] at h
    cases h
theorem ckm_all (j : Nat) (hj0 : j < kL) : chkM j = true := by
  have hj : j < 259 := hj0
  rcases Nat.lt_or_ge j 128 with h8 | h8
  · rcases Nat.lt_or_ge j 64 with h4 | h4
    · rcases Nat.lt_or_ge j 32 with h2 | h2
      · rcases Nat.lt_or_ge j 16 with h1 | h1
        · have h9 := ckm0 (j - 0) (by omega)
          rw [Nat.sub_add_cancel (by omega)] at h9
          exact h9
        · have h9 := ckm1 (j - 16) (by omega)
          rw [Nat.sub_add_cancel (by omega)] at h9
          exact h9
      · rcases Nat.lt_or_ge j 48 with h3 | h3
        · have h9 := ckm2 (j - 32) (by omega)
          rw [Nat.sub_add_cancel (by omega)] at h9
          exact h9
        · have h9 := ckm3 (j - 48) (by omega)
          rw [Nat.sub_add_cancel (by omega)] at h9
          exact h9
    · rcases Nat.lt_or_ge j 96 with h6 | h6
      · rcases Nat.lt_or_ge j 80 with h5 | h5
        · have h9 := ckm4 (j - 64) (by omega)
          rw [Nat.sub_add_cancel (by omega)] at h9
          exact h9
        · have h9 := ckm5 (j - 80) (by omega)
          rw [Nat.sub_add_cancel (by omega)] at h9
          exact h9
      · rcases Nat.lt_or_ge j 112 with h7 | h7
        · have h9 := ckm6 (j - 96) (by omega)
          rw [Nat.sub_add_cancel (by omega)] at h9
          exact h9
        · have h9 := ckm7 (j - 112) (by omega)
          rw [Nat.sub_add_cancel (by omega)] at h9
          exact h9
  · rcases Nat.lt_or_ge j 192 with h12 | h12
    · rcases Nat.lt_or_ge j 160 with h10 | h10
      · rcases Nat.lt_or_ge j 144 with h9 | h9
        · have h9 := ckm8 (j - 128) (by omega)
          rw [Nat.sub_add_cancel (by omega)] at h9
          exact h9
        · have h9 := ckm9 (j - 144) (by omega)
          rw [Nat.sub_add_cancel (by omega)] at h9
          exact h9
      · rcases Nat.lt_or_ge j 176 with h11 | h11
        · have h9 := ckm10 (j - 160) (by omega)
          rw [Nat.sub_add_cancel (by omega)] at h9
          exact h9
        · have h9 := ckm11 (j - 176) (by omega)
          rw [Nat.sub_add_cancel (by omega)] at h9
          exact h9
    · rcases Nat.lt_or_ge j 224 with h14 | h14
      · rcases Nat.lt_or_ge j 208 with h13 | h13
        · have h9 := ckm12 (j - 192) (by omega)
          rw [Nat.sub_add_cancel (by omega)] at h9
          exact h9
        · have h9 := ckm13 (j - 208) (by omega)
          rw [Nat.sub_add_cancel (by omega)] at h9
          exact h9
      · rcases Nat.lt_or_ge j 240 with h15 | h15
        · have h9 := ckm14 (j - 224) (by omega)
          rw [Nat.sub_add_cancel (by omega)] at h9
          exact h9
        · rcases Nat.lt_or_ge j 256 with h16 | h16
          · have h9 := ckm15 (j - 240) (by omega)
            rw [Nat.sub_add_cancel (by omega)] at h9
            exact h9
          · have h9 := ckm16 (j - 256) (by omega)
            rw [Nat.sub_add_cancel (by omega)] at h9
            exact h9
set_option maxRecDepth 100000 in
theorem ckc_all : ∀ b, b < 13 → chkC b = true := by decide +kernel
theorem CHK_ok : CHK := ⟨fun k q e h => ck_all k (cd_big h) q e h, ckm_all, fun b => by
  rcases Nat.lt_or_ge b 13 with h | h
  · exact ckc_all b h
  · unfold chkC
    rw [List.getElem?_eq_none (show clx.length ≤ b from h)]⟩
