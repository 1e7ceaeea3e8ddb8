/-! NEW OBJECTS: the class -/
def LT11 : List (Nat × (Nat × Nat)) := [(43, (4, 0)), (50, (40, 24)), (48, (0, 0)), (49, (51, 6)), (48, (20, 0)), (47, (40, 24)), (46, (43, 72)), (45, (40, 72)), (44, (40, 72)), (43, (24, 0)), (32, (7, 0)), (42, (43, 336)), (41, (43, 480)), (39, (0, 0)), (40, (51, 6)), (39, (20, 0)), (38, (40, 1024)), (37, (40, 120)), (36, (40, 10)), (35, (40, 1024)), (34, (40, 1024)), (33, (51, 10)), (32, (27, 0)), (30, (3, 0)), (31, (40, 576)), (30, (23, 0)), (26, (9, 0)), (29, (43, 8)), (28, (43, 256)), (27, (40, 64)), (26, (29, 0)), (14, (5, 0)), (25, (40, 8)), (24, (40, 8)), (23, (43, 8)), (22, (43, 8)), (21, (43, 8)), (20, (40, 8)), (19, (43, 48)), (18, (40, 6)), (17, (40, 8)), (16, (43, 216)), (15, (40, 1296)), (14, (25, 0)), (13, (50, 6)), (11, (0, 0)), (12, (51, 6)), (11, (20, 0)), (10, (56, 12)), (9, (56, 6)), (8, (51, 24)), (4, (2, 0)), (7, (40, 8)), (5, (8, 0)), (6, (40, 512)), (5, (28, 0)), (4, (22, 0)), (2, (10, 0)), (3, (40, 600)), (2, (30, 0)), (1, (40, 8)), (0, (31, 0))]
def LR11 : List ((Nat × Nat) × Nat) := [((0, 17), 43), ((43, 6), 50), ((43, 5), 48), ((48, 0), 49), ((43, 4), 47), ((43, 2), 46), ((43, 1), 45), ((43, 0), 44), ((0, 16), 32), ((32, 1), 30), ((32, 0), 14), ((32, 14), 42), ((32, 13), 41), ((32, 12), 39), ((39, 0), 40), ((32, 10), 38), ((32, 9), 37), ((32, 8), 36), ((32, 7), 35), ((32, 4), 34), ((32, 2), 33), ((0, 15), 30), ((30, 0), 1), ((30, 1), 31), ((0, 14), 26), ((26, 4), 29), ((26, 3), 28), ((26, 2), 27), ((0, 13), 14), ((14, 0), 1), ((14, 14), 25), ((14, 13), 24), ((14, 12), 23), ((14, 11), 22), ((14, 10), 21), ((14, 9), 20), ((14, 8), 19), ((14, 7), 18), ((14, 5), 17), ((14, 2), 16), ((14, 1), 15), ((0, 11), 13), ((0, 10), 11), ((11, 0), 12), ((0, 7), 10), ((0, 5), 9), ((0, 3), 8), ((0, 2), 4), ((4, 0), 2), ((4, 2), 7), ((4, 1), 5), ((5, 1), 6), ((0, 1), 2), ((2, 0), 3), ((0, 0), 1)]
def LI11 : List ((Nat × Nat) × Int32) := [((1, 7), n32 7), ((1, 6), n32 6), ((1, 5), n32 5), ((1, 4), n32 4), ((1, 3), n32 3), ((1, 2), n32 2), ((1, 1), n32 1), ((1, 0), n32 0), ((26, 1), (-1)), ((0, 9), (-1)), ((2, 2), (-1))]
set_option maxHeartbeats 4000000 in
set_option maxRecDepth 100000 in
theorem i_X11 {h : Hp} {Q : Hp → Prop} (R0 : Rl 1 [(0, (31, 0))] [] [] h) (k : ∀ h', Rl 51 LT11 LR11 LI11 h' → Q h') : m_X11_init 0 h Q := by
  unfold m_X11_init
  intro a1 ea1 h2 eh2
  obtain rfl : a1 = 1 := ea1.trans R0.1
  have R3 := R0.nw (m := 2) eh2 rfl
  have R4 := R3.wR 0 0 1 (by decide)
  intro a5 ea5 h6 eh6
  obtain rfl : a5 = 2 := ea5.trans R4.1
  have R7 := R4.nw (m := 3) eh6 rfl
  unfold m_X10_init
  intro a8 ea8 h9 eh9
  obtain rfl : a8 = 3 := ea8.trans R7.1
  have R10 := R7.nw (m := 4) eh9 rfl
  have R11 := R10.wR 2 0 3 (by decide)
  have R12 := R11.wI 2 2 (-1) (by decide)
  refine ⟨by rw [R0.1]; decide, seal_of R12 (by decide +kernel), fun h13 eh13 => ?_⟩
  have R14 := R12.wT eh13
  have R15 := R14.wR 0 1 2 (by decide)
  intro a16 ea16 h17 eh17
  obtain rfl : a16 = 4 := ea16.trans R15.1
  have R18 := R15.nw (m := 5) eh17 rfl
  refine ⟨(R18.2.2.1 _ _).trans (by decide), (R18.2.1 _).trans (by decide), ?_⟩
  unfold m_X2_init
  intro a19 ea19 h20 eh20
  obtain rfl : a19 = 5 := ea19.trans R18.1
  have R21 := R18.nw (m := 6) eh20 rfl
  unfold m_X8_init
  intro a22 ea22 h23 eh23
  obtain rfl : a22 = 6 := ea22.trans R21.1
  have R24 := R21.nw (m := 7) eh23 rfl
  have R25 := R24.wR 5 1 6 (by decide)
  refine ⟨by rw [R18.1]; decide, seal_of R25 (by decide +kernel), fun h26 eh26 => ?_⟩
  have R27 := R25.wT eh26
  have R28 := R27.wR 4 1 5 (by decide)
  intro a29 ea29 h30 eh30
  obtain rfl : a29 = 7 := ea29.trans R28.1
  have R31 := R28.nw (m := 8) eh30 rfl
  have R32 := R31.wR 4 2 7 (by decide)
  have R33 := R32.wR 4 0 2 (by decide)
  refine ⟨by rw [R0.1]; decide, seal_of R33 (by decide +kernel), fun h34 eh34 => ?_⟩
  have R35 := R33.wT eh34
  have R36 := R35.wR 0 2 4 (by decide)
  intro a37 ea37 h38 eh38
  obtain rfl : a37 = 8 := ea37.trans R36.1
  have R39 := R36.nw (m := 9) eh38 rfl
  have R40 := R39.wR 0 3 8 (by decide)
  intro a41 ea41 h42 eh42
  obtain rfl : a41 = 9 := ea41.trans R40.1
  have R43 := R40.nw (m := 10) eh42 rfl
  have R44 := R43.wR 0 5 9 (by decide)
  intro a45 ea45 h46 eh46
  obtain rfl : a45 = 10 := ea45.trans R44.1
  have R47 := R44.nw (m := 11) eh46 rfl
  have R48 := R47.wR 0 7 10 (by decide)
  have R49 := R48.wI 0 9 (-1) (by decide)
  intro a50 ea50 h51 eh51
  obtain rfl : a50 = 11 := ea50.trans R49.1
  have R52 := R49.nw (m := 12) eh51 rfl
  unfold m_X0_init
  intro a53 ea53 h54 eh54
  obtain rfl : a53 = 12 := ea53.trans R52.1
  have R55 := R52.nw (m := 13) eh54 rfl
  have R56 := R55.wR 11 0 12 (by decide)
  refine ⟨by rw [R0.1]; decide, seal_of R56 (by decide +kernel), fun h57 eh57 => ?_⟩
  have R58 := R56.wT eh57
  have R59 := R58.wR 0 10 11 (by decide)
  intro a60 ea60 h61 eh61
  obtain rfl : a60 = 13 := ea60.trans R59.1
  have R62 := R59.nw (m := 14) eh61 rfl
  have R63 := R62.wR 0 11 13 (by decide)
  intro a64 ea64 h65 eh65
  obtain rfl : a64 = 14 := ea64.trans R63.1
  have R66 := R63.nw (m := 15) eh65 rfl
  refine ⟨(R66.2.2.1 _ _).trans (by decide), (R66.2.1 _).trans (by decide), ?_⟩
  unfold m_X5_init
  intro a67 ea67 h68 eh68
  obtain rfl : a67 = 15 := ea67.trans R66.1
  have R69 := R66.nw (m := 16) eh68 rfl
  have R70 := R69.wR 14 1 15 (by decide)
  intro a71 ea71 h72 eh72
  obtain rfl : a71 = 16 := ea71.trans R70.1
  have R73 := R70.nw (m := 17) eh72 rfl
  have R74 := R73.wR 14 2 16 (by decide)
  intro a75 ea75 h76 eh76
  obtain rfl : a75 = 17 := ea75.trans R74.1
  have R77 := R74.nw (m := 18) eh76 rfl
  have R78 := R77.wR 14 5 17 (by decide)
  intro a79 ea79 h80 eh80
  obtain rfl : a79 = 18 := ea79.trans R78.1
  have R81 := R78.nw (m := 19) eh80 rfl
  have R82 := R81.wR 14 7 18 (by decide)
  intro a83 ea83 h84 eh84
  obtain rfl : a83 = 19 := ea83.trans R82.1
  have R85 := R82.nw (m := 20) eh84 rfl
  have R86 := R85.wR 14 8 19 (by decide)
  intro a87 ea87 h88 eh88
  obtain rfl : a87 = 20 := ea87.trans R86.1
  have R89 := R86.nw (m := 21) eh88 rfl
  have R90 := R89.wR 14 9 20 (by decide)
  intro a91 ea91 h92 eh92
  obtain rfl : a91 = 21 := ea91.trans R90.1
  have R93 := R90.nw (m := 22) eh92 rfl
  have R94 := R93.wR 14 10 21 (by decide)
  intro a95 ea95 h96 eh96
  obtain rfl : a95 = 22 := ea95.trans R94.1
  have R97 := R94.nw (m := 23) eh96 rfl
  have R98 := R97.wR 14 11 22 (by decide)
  intro a99 ea99 h100 eh100
  obtain rfl : a99 = 23 := ea99.trans R98.1
  have R101 := R98.nw (m := 24) eh100 rfl
  have R102 := R101.wR 14 12 23 (by decide)
  intro a103 ea103 h104 eh104
  obtain rfl : a103 = 24 := ea103.trans R102.1
  have R105 := R102.nw (m := 25) eh104 rfl
  have R106 := R105.wR 14 13 24 (by decide)
  intro a107 ea107 h108 eh108
  obtain rfl : a107 = 25 := ea107.trans R106.1
  have R109 := R106.nw (m := 26) eh108 rfl
  have R110 := R109.wR 14 14 25 (by decide)
  have R111 := R110.wR 14 0 1 (by decide)
  refine ⟨by rw [R0.1]; decide, seal_of R111 (by decide +kernel), fun h112 eh112 => ?_⟩
  have R113 := R111.wT eh112
  have R114 := R113.wR 0 13 14 (by decide)
  intro a115 ea115 h116 eh116
  obtain rfl : a115 = 26 := ea115.trans R114.1
  have R117 := R114.nw (m := 27) eh116 rfl
  unfold m_X9_init
  have R118 := R117.wI 26 1 (-1) (by decide)
  intro a119 ea119 h120 eh120
  obtain rfl : a119 = 27 := ea119.trans R118.1
  have R121 := R118.nw (m := 28) eh120 rfl
  have R122 := R121.wR 26 2 27 (by decide)
  intro a123 ea123 h124 eh124
  obtain rfl : a123 = 28 := ea123.trans R122.1
  have R125 := R122.nw (m := 29) eh124 rfl
  have R126 := R125.wR 26 3 28 (by decide)
  intro a127 ea127 h128 eh128
  obtain rfl : a127 = 29 := ea127.trans R126.1
  have R129 := R126.nw (m := 30) eh128 rfl
  have R130 := R129.wR 26 4 29 (by decide)
  refine ⟨by rw [R0.1]; decide, seal_of R130 (by decide +kernel), fun h131 eh131 => ?_⟩
  have R132 := R130.wT eh131
  have R133 := R132.wR 0 14 26 (by decide)
  intro a134 ea134 h135 eh135
  obtain rfl : a134 = 30 := ea134.trans R133.1
  have R136 := R133.nw (m := 31) eh135 rfl
  refine ⟨(R136.2.2.1 _ _).trans (by decide), (R136.2.1 _).trans (by decide), ?_⟩
  unfold m_X3_init
  intro a137 ea137 h138 eh138
  obtain rfl : a137 = 31 := ea137.trans R136.1
  have R139 := R136.nw (m := 32) eh138 rfl
  have R140 := R139.wR 30 1 31 (by decide)
  have R141 := R140.wR 30 0 1 (by decide)
  refine ⟨by rw [R0.1]; decide, seal_of R141 (by decide +kernel), fun h142 eh142 => ?_⟩
  have R143 := R141.wT eh142
  have R144 := R143.wR 0 15 30 (by decide)
  intro a145 ea145 h146 eh146
  obtain rfl : a145 = 32 := ea145.trans R144.1
  have R147 := R144.nw (m := 33) eh146 rfl
  refine ⟨(R147.2.2.1 _ _).trans (by decide), (R147.2.1 _).trans (by decide), ?_⟩
  refine ⟨(R147.2.2.1 _ _).trans (by decide), (R147.2.1 _).trans (by decide), ?_⟩
  unfold m_X7_init
  intro a148 ea148 h149 eh149
  obtain rfl : a148 = 33 := ea148.trans R147.1
  have R150 := R147.nw (m := 34) eh149 rfl
  have R151 := R150.wR 32 2 33 (by decide)
  intro a152 ea152 h153 eh153
  obtain rfl : a152 = 34 := ea152.trans R151.1
  have R154 := R151.nw (m := 35) eh153 rfl
  have R155 := R154.wR 32 4 34 (by decide)
  intro a156 ea156 h157 eh157
  obtain rfl : a156 = 35 := ea156.trans R155.1
  have R158 := R155.nw (m := 36) eh157 rfl
  have R159 := R158.wR 32 7 35 (by decide)
  intro a160 ea160 h161 eh161
  obtain rfl : a160 = 36 := ea160.trans R159.1
  have R162 := R159.nw (m := 37) eh161 rfl
  have R163 := R162.wR 32 8 36 (by decide)
  intro a164 ea164 h165 eh165
  obtain rfl : a164 = 37 := ea164.trans R163.1
  have R166 := R163.nw (m := 38) eh165 rfl
  have R167 := R166.wR 32 9 37 (by decide)
  intro a168 ea168 h169 eh169
  obtain rfl : a168 = 38 := ea168.trans R167.1
  have R170 := R167.nw (m := 39) eh169 rfl
  have R171 := R170.wR 32 10 38 (by decide)
  intro a172 ea172 h173 eh173
  obtain rfl : a172 = 39 := ea172.trans R171.1
  have R174 := R171.nw (m := 40) eh173 rfl
  unfold m_X0_init
  intro a175 ea175 h176 eh176
  obtain rfl : a175 = 40 := ea175.trans R174.1
  have R177 := R174.nw (m := 41) eh176 rfl
  have R178 := R177.wR 39 0 40 (by decide)
  refine ⟨by rw [R147.1]; decide, seal_of R178 (by decide +kernel), fun h179 eh179 => ?_⟩
  have R180 := R178.wT eh179
  have R181 := R180.wR 32 12 39 (by decide)
  intro a182 ea182 h183 eh183
  obtain rfl : a182 = 41 := ea182.trans R181.1
  have R184 := R181.nw (m := 42) eh183 rfl
  have R185 := R184.wR 32 13 41 (by decide)
  intro a186 ea186 h187 eh187
  obtain rfl : a186 = 42 := ea186.trans R185.1
  have R188 := R185.nw (m := 43) eh187 rfl
  have R189 := R188.wR 32 14 42 (by decide)
  have R190 := R189.wR 32 0 14 (by decide)
  have R191 := R190.wR 32 1 30 (by decide)
  refine ⟨by rw [R0.1]; decide, seal_of R191 (by decide +kernel), fun h192 eh192 => ?_⟩
  have R193 := R191.wT eh192
  have R194 := R193.wR 0 16 32 (by decide)
  intro a195 ea195 h196 eh196
  obtain rfl : a195 = 43 := ea195.trans R194.1
  have R197 := R194.nw (m := 44) eh196 rfl
  unfold m_X4_init
  intro a198 ea198 h199 eh199
  obtain rfl : a198 = 44 := ea198.trans R197.1
  have R200 := R197.nw (m := 45) eh199 rfl
  have R201 := R200.wR 43 0 44 (by decide)
  intro a202 ea202 h203 eh203
  obtain rfl : a202 = 45 := ea202.trans R201.1
  have R204 := R201.nw (m := 46) eh203 rfl
  have R205 := R204.wR 43 1 45 (by decide)
  intro a206 ea206 h207 eh207
  obtain rfl : a206 = 46 := ea206.trans R205.1
  have R208 := R205.nw (m := 47) eh207 rfl
  have R209 := R208.wR 43 2 46 (by decide)
  intro a210 ea210 h211 eh211
  obtain rfl : a210 = 47 := ea210.trans R209.1
  have R212 := R209.nw (m := 48) eh211 rfl
  have R213 := R212.wR 43 4 47 (by decide)
  intro a214 ea214 h215 eh215
  obtain rfl : a214 = 48 := ea214.trans R213.1
  have R216 := R213.nw (m := 49) eh215 rfl
  unfold m_X0_init
  intro a217 ea217 h218 eh218
  obtain rfl : a217 = 49 := ea217.trans R216.1
  have R219 := R216.nw (m := 50) eh218 rfl
  have R220 := R219.wR 48 0 49 (by decide)
  refine ⟨by rw [R197.1]; decide, seal_of R220 (by decide +kernel), fun h221 eh221 => ?_⟩
  have R222 := R220.wT eh221
  have R223 := R222.wR 43 5 48 (by decide)
  intro a224 ea224 h225 eh225
  obtain rfl : a224 = 50 := ea224.trans R223.1
  have R226 := R223.nw (m := 51) eh225 rfl
  have R227 := R226.wR 43 6 50 (by decide)
  refine ⟨by rw [R0.1]; decide, seal_of R227 (by decide +kernel), fun h228 eh228 => ?_⟩
  have R229 := R227.wT eh228
  have R230 := R229.wR 0 17 43 (by decide)
  refine ⟨9, i163 (by decide) rfl rfl 8 0 _ _ rfl R230 (fun h231 Rh231 => ?_)⟩
  exact k _ Rh231
