/-! NEW OBJECTS: the Model -/
def LT12 : List (Nat × (Nat × Nat)) := [(107, (40, 24)), (106, (43, 48)), (105, (40, 36)), (104, (40, 6)), (103, (40, 1024)), (102, (40, 10)), (101, (40, 72)), (100, (40, 72)), (99, (42, 240)), (98, (40, 240)), (97, (40, 240)), (96, (40, 240)), (95, (40, 240)), (94, (40, 240)), (93, (40, 240)), (92, (40, 12)), (91, (40, 6)), (90, (40, 8)), (89, (40, 8)), (88, (43, 8)), (87, (42, 8)), (86, (40, 256)), (85, (40, 6)), (84, (40, 6)), (83, (43, 256)), (82, (40, 256)), (81, (40, 256)), (80, (40, 256)), (79, (40, 256)), (78, (40, 8)), (77, (40, 1600)), (76, (40, 96)), (75, (42, 96)), (74, (42, 96)), (73, (40, 6)), (72, (40, 6)), (71, (41, 600)), (70, (40, 2304)), (69, (40, 2304)), (68, (40, 2304)), (67, (40, 2304)), (66, (40, 2304)), (65, (40, 2304)), (64, (40, 2304)), (63, (40, 2304)), (62, (40, 2304)), (61, (40, 2304)), (60, (40, 2304)), (59, (40, 2304)), (58, (40, 2304)), (57, (40, 24)), (56, (40, 24)), (55, (40, 24)), (54, (40, 24)), (53, (40, 24)), (52, (40, 8))]
def LR12 : List ((Nat × Nat) × Nat) := [((51, 92), 107), ((51, 91), 106), ((51, 90), 105), ((51, 89), 104), ((51, 87), 103), ((51, 86), 102), ((51, 82), 101), ((51, 81), 100), ((51, 77), 99), ((51, 76), 98), ((51, 75), 97), ((51, 74), 96), ((51, 73), 95), ((51, 72), 94), ((51, 71), 93), ((51, 70), 92), ((51, 69), 91), ((51, 66), 90), ((51, 65), 89), ((51, 64), 88), ((51, 63), 87), ((51, 62), 86), ((51, 57), 85), ((51, 56), 84), ((51, 53), 83), ((51, 52), 82), ((51, 51), 81), ((51, 50), 80), ((51, 49), 79), ((51, 46), 78), ((51, 44), 77), ((51, 40), 76), ((51, 39), 75), ((51, 38), 74), ((51, 31), 73), ((51, 30), 72), ((51, 20), 71), ((51, 19), 70), ((51, 18), 69), ((51, 17), 68), ((51, 16), 67), ((51, 15), 66), ((51, 14), 65), ((51, 13), 64), ((51, 12), 63), ((51, 11), 62), ((51, 10), 61), ((51, 9), 60), ((51, 8), 59), ((51, 7), 58), ((51, 6), 57), ((51, 5), 56), ((51, 4), 55), ((51, 3), 54), ((51, 2), 53), ((51, 0), 52)]
def LI12 : List ((Nat × Nat) × Int32) := [((52, 7), n32 7), ((52, 6), n32 6), ((52, 5), n32 5), ((52, 4), n32 4), ((52, 3), n32 3), ((52, 2), n32 2), ((52, 1), n32 1), ((52, 0), n32 0), ((51, 22), (-1))]
set_option maxHeartbeats 4000000 in
set_option maxRecDepth 100000 in
theorem i_X12 {h : Hp} {Lt : List (Nat × (Nat × Nat))} {Lr : List ((Nat × Nat) × Nat)} {Li : List ((Nat × Nat) × Int32)} {Q : Hp → Prop} (R0 : Rl 52 Lt Lr Li h) (k : ∀ h', Rl 108 (LT12 ++ Lt) (LR12 ++ Lr) (LI12 ++ Li) h' → Q h') : m_X12_init 51 h Q := by
  unfold m_X12_init
  intro a1 ea1 h2 eh2
  obtain rfl : a1 = 52 := ea1.trans R0.1
  have R3 := R0.nw (m := 53) eh2 rfl
  have R4 := R3.wR 51 0 52 (by decide)
  intro a5 ea5 h6 eh6
  obtain rfl : a5 = 53 := ea5.trans R4.1
  have R7 := R4.nw (m := 54) eh6 rfl
  have R8 := R7.wR 51 2 53 (by decide)
  intro a9 ea9 h10 eh10
  obtain rfl : a9 = 54 := ea9.trans R8.1
  have R11 := R8.nw (m := 55) eh10 rfl
  have R12 := R11.wR 51 3 54 (by decide)
  intro a13 ea13 h14 eh14
  obtain rfl : a13 = 55 := ea13.trans R12.1
  have R15 := R12.nw (m := 56) eh14 rfl
  have R16 := R15.wR 51 4 55 (by decide)
  intro a17 ea17 h18 eh18
  obtain rfl : a17 = 56 := ea17.trans R16.1
  have R19 := R16.nw (m := 57) eh18 rfl
  have R20 := R19.wR 51 5 56 (by decide)
  intro a21 ea21 h22 eh22
  obtain rfl : a21 = 57 := ea21.trans R20.1
  have R23 := R20.nw (m := 58) eh22 rfl
  have R24 := R23.wR 51 6 57 (by decide)
  intro a25 ea25 h26 eh26
  obtain rfl : a25 = 58 := ea25.trans R24.1
  have R27 := R24.nw (m := 59) eh26 rfl
  have R28 := R27.wR 51 7 58 (by decide)
  intro a29 ea29 h30 eh30
  obtain rfl : a29 = 59 := ea29.trans R28.1
  have R31 := R28.nw (m := 60) eh30 rfl
  have R32 := R31.wR 51 8 59 (by decide)
  intro a33 ea33 h34 eh34
  obtain rfl : a33 = 60 := ea33.trans R32.1
  have R35 := R32.nw (m := 61) eh34 rfl
  have R36 := R35.wR 51 9 60 (by decide)
  intro a37 ea37 h38 eh38
  obtain rfl : a37 = 61 := ea37.trans R36.1
  have R39 := R36.nw (m := 62) eh38 rfl
  have R40 := R39.wR 51 10 61 (by decide)
  intro a41 ea41 h42 eh42
  obtain rfl : a41 = 62 := ea41.trans R40.1
  have R43 := R40.nw (m := 63) eh42 rfl
  have R44 := R43.wR 51 11 62 (by decide)
  intro a45 ea45 h46 eh46
  obtain rfl : a45 = 63 := ea45.trans R44.1
  have R47 := R44.nw (m := 64) eh46 rfl
  have R48 := R47.wR 51 12 63 (by decide)
  intro a49 ea49 h50 eh50
  obtain rfl : a49 = 64 := ea49.trans R48.1
  have R51 := R48.nw (m := 65) eh50 rfl
  have R52 := R51.wR 51 13 64 (by decide)
  intro a53 ea53 h54 eh54
  obtain rfl : a53 = 65 := ea53.trans R52.1
  have R55 := R52.nw (m := 66) eh54 rfl
  have R56 := R55.wR 51 14 65 (by decide)
  intro a57 ea57 h58 eh58
  obtain rfl : a57 = 66 := ea57.trans R56.1
  have R59 := R56.nw (m := 67) eh58 rfl
  have R60 := R59.wR 51 15 66 (by decide)
  intro a61 ea61 h62 eh62
  obtain rfl : a61 = 67 := ea61.trans R60.1
  have R63 := R60.nw (m := 68) eh62 rfl
  have R64 := R63.wR 51 16 67 (by decide)
  intro a65 ea65 h66 eh66
  obtain rfl : a65 = 68 := ea65.trans R64.1
  have R67 := R64.nw (m := 69) eh66 rfl
  have R68 := R67.wR 51 17 68 (by decide)
  intro a69 ea69 h70 eh70
  obtain rfl : a69 = 69 := ea69.trans R68.1
  have R71 := R68.nw (m := 70) eh70 rfl
  have R72 := R71.wR 51 18 69 (by decide)
  intro a73 ea73 h74 eh74
  obtain rfl : a73 = 70 := ea73.trans R72.1
  have R75 := R72.nw (m := 71) eh74 rfl
  have R76 := R75.wR 51 19 70 (by decide)
  intro a77 ea77 h78 eh78
  obtain rfl : a77 = 71 := ea77.trans R76.1
  have R79 := R76.nw (m := 72) eh78 rfl
  have R80 := R79.wR 51 20 71 (by decide)
  have R81 := R80.wI 51 22 (-1) (by decide)
  intro a82 ea82 h83 eh83
  obtain rfl : a82 = 72 := ea82.trans R81.1
  have R84 := R81.nw (m := 73) eh83 rfl
  have R85 := R84.wR 51 30 72 (by decide)
  intro a86 ea86 h87 eh87
  obtain rfl : a86 = 73 := ea86.trans R85.1
  have R88 := R85.nw (m := 74) eh87 rfl
  have R89 := R88.wR 51 31 73 (by decide)
  intro a90 ea90 h91 eh91
  obtain rfl : a90 = 74 := ea90.trans R89.1
  have R92 := R89.nw (m := 75) eh91 rfl
  have R93 := R92.wR 51 38 74 (by decide)
  intro a94 ea94 h95 eh95
  obtain rfl : a94 = 75 := ea94.trans R93.1
  have R96 := R93.nw (m := 76) eh95 rfl
  have R97 := R96.wR 51 39 75 (by decide)
  intro a98 ea98 h99 eh99
  obtain rfl : a98 = 76 := ea98.trans R97.1
  have R100 := R97.nw (m := 77) eh99 rfl
  have R101 := R100.wR 51 40 76 (by decide)
  intro a102 ea102 h103 eh103
  obtain rfl : a102 = 77 := ea102.trans R101.1
  have R104 := R101.nw (m := 78) eh103 rfl
  have R105 := R104.wR 51 44 77 (by decide)
  intro a106 ea106 h107 eh107
  obtain rfl : a106 = 78 := ea106.trans R105.1
  have R108 := R105.nw (m := 79) eh107 rfl
  have R109 := R108.wR 51 46 78 (by decide)
  intro a110 ea110 h111 eh111
  obtain rfl : a110 = 79 := ea110.trans R109.1
  have R112 := R109.nw (m := 80) eh111 rfl
  have R113 := R112.wR 51 49 79 (by decide)
  intro a114 ea114 h115 eh115
  obtain rfl : a114 = 80 := ea114.trans R113.1
  have R116 := R113.nw (m := 81) eh115 rfl
  have R117 := R116.wR 51 50 80 (by decide)
  intro a118 ea118 h119 eh119
  obtain rfl : a118 = 81 := ea118.trans R117.1
  have R120 := R117.nw (m := 82) eh119 rfl
  have R121 := R120.wR 51 51 81 (by decide)
  intro a122 ea122 h123 eh123
  obtain rfl : a122 = 82 := ea122.trans R121.1
  have R124 := R121.nw (m := 83) eh123 rfl
  have R125 := R124.wR 51 52 82 (by decide)
  intro a126 ea126 h127 eh127
  obtain rfl : a126 = 83 := ea126.trans R125.1
  have R128 := R125.nw (m := 84) eh127 rfl
  have R129 := R128.wR 51 53 83 (by decide)
  intro a130 ea130 h131 eh131
  obtain rfl : a130 = 84 := ea130.trans R129.1
  have R132 := R129.nw (m := 85) eh131 rfl
  have R133 := R132.wR 51 56 84 (by decide)
  intro a134 ea134 h135 eh135
  obtain rfl : a134 = 85 := ea134.trans R133.1
  have R136 := R133.nw (m := 86) eh135 rfl
  have R137 := R136.wR 51 57 85 (by decide)
  intro a138 ea138 h139 eh139
  obtain rfl : a138 = 86 := ea138.trans R137.1
  have R140 := R137.nw (m := 87) eh139 rfl
  have R141 := R140.wR 51 62 86 (by decide)
  intro a142 ea142 h143 eh143
  obtain rfl : a142 = 87 := ea142.trans R141.1
  have R144 := R141.nw (m := 88) eh143 rfl
  have R145 := R144.wR 51 63 87 (by decide)
  intro a146 ea146 h147 eh147
  obtain rfl : a146 = 88 := ea146.trans R145.1
  have R148 := R145.nw (m := 89) eh147 rfl
  have R149 := R148.wR 51 64 88 (by decide)
  intro a150 ea150 h151 eh151
  obtain rfl : a150 = 89 := ea150.trans R149.1
  have R152 := R149.nw (m := 90) eh151 rfl
  have R153 := R152.wR 51 65 89 (by decide)
  intro a154 ea154 h155 eh155
  obtain rfl : a154 = 90 := ea154.trans R153.1
  have R156 := R153.nw (m := 91) eh155 rfl
  have R157 := R156.wR 51 66 90 (by decide)
  intro a158 ea158 h159 eh159
  obtain rfl : a158 = 91 := ea158.trans R157.1
  have R160 := R157.nw (m := 92) eh159 rfl
  have R161 := R160.wR 51 69 91 (by decide)
  intro a162 ea162 h163 eh163
  obtain rfl : a162 = 92 := ea162.trans R161.1
  have R164 := R161.nw (m := 93) eh163 rfl
  have R165 := R164.wR 51 70 92 (by decide)
  intro a166 ea166 h167 eh167
  obtain rfl : a166 = 93 := ea166.trans R165.1
  have R168 := R165.nw (m := 94) eh167 rfl
  have R169 := R168.wR 51 71 93 (by decide)
  intro a170 ea170 h171 eh171
  obtain rfl : a170 = 94 := ea170.trans R169.1
  have R172 := R169.nw (m := 95) eh171 rfl
  have R173 := R172.wR 51 72 94 (by decide)
  intro a174 ea174 h175 eh175
  obtain rfl : a174 = 95 := ea174.trans R173.1
  have R176 := R173.nw (m := 96) eh175 rfl
  have R177 := R176.wR 51 73 95 (by decide)
  intro a178 ea178 h179 eh179
  obtain rfl : a178 = 96 := ea178.trans R177.1
  have R180 := R177.nw (m := 97) eh179 rfl
  have R181 := R180.wR 51 74 96 (by decide)
  intro a182 ea182 h183 eh183
  obtain rfl : a182 = 97 := ea182.trans R181.1
  have R184 := R181.nw (m := 98) eh183 rfl
  have R185 := R184.wR 51 75 97 (by decide)
  intro a186 ea186 h187 eh187
  obtain rfl : a186 = 98 := ea186.trans R185.1
  have R188 := R185.nw (m := 99) eh187 rfl
  have R189 := R188.wR 51 76 98 (by decide)
  intro a190 ea190 h191 eh191
  obtain rfl : a190 = 99 := ea190.trans R189.1
  have R192 := R189.nw (m := 100) eh191 rfl
  have R193 := R192.wR 51 77 99 (by decide)
  intro a194 ea194 h195 eh195
  obtain rfl : a194 = 100 := ea194.trans R193.1
  have R196 := R193.nw (m := 101) eh195 rfl
  have R197 := R196.wR 51 81 100 (by decide)
  intro a198 ea198 h199 eh199
  obtain rfl : a198 = 101 := ea198.trans R197.1
  have R200 := R197.nw (m := 102) eh199 rfl
  have R201 := R200.wR 51 82 101 (by decide)
  intro a202 ea202 h203 eh203
  obtain rfl : a202 = 102 := ea202.trans R201.1
  have R204 := R201.nw (m := 103) eh203 rfl
  have R205 := R204.wR 51 86 102 (by decide)
  intro a206 ea206 h207 eh207
  obtain rfl : a206 = 103 := ea206.trans R205.1
  have R208 := R205.nw (m := 104) eh207 rfl
  have R209 := R208.wR 51 87 103 (by decide)
  intro a210 ea210 h211 eh211
  obtain rfl : a210 = 104 := ea210.trans R209.1
  have R212 := R209.nw (m := 105) eh211 rfl
  have R213 := R212.wR 51 89 104 (by decide)
  intro a214 ea214 h215 eh215
  obtain rfl : a214 = 105 := ea214.trans R213.1
  have R216 := R213.nw (m := 106) eh215 rfl
  have R217 := R216.wR 51 90 105 (by decide)
  intro a218 ea218 h219 eh219
  obtain rfl : a218 = 106 := ea218.trans R217.1
  have R220 := R217.nw (m := 107) eh219 rfl
  have R221 := R220.wR 51 91 106 (by decide)
  intro a222 ea222 h223 eh223
  obtain rfl : a222 = 107 := ea222.trans R221.1
  have R224 := R221.nw (m := 108) eh223 rfl
  have R225 := R224.wR 51 92 107 (by decide)
  refine ⟨9, i488 (by decide) rfl rfl 8 0 _ _ rfl R225 (fun h226 Rh226 => ?_)⟩
  exact k _ Rh226
