theorem GWt1 (i : Nat) {w : Cond} (h : tables_1_1[i]? = some w) (hg : goodWord w = true) : w ∈ GW := List.mem_filter.mpr ⟨List.mem_append_right _ (List.mem_append_left _ (List.mem_of_getElem? h)), hg⟩
theorem GWt2 (i : Nat) {w : Cond} (h : tables_1_2[i]? = some w) (hg : goodWord w = true) : w ∈ GW := List.mem_filter.mpr ⟨List.mem_append_right _ (List.mem_append_right _ (List.mem_append_left _ (List.mem_of_getElem? h))), hg⟩
theorem GWt3 (i : Nat) {w : Cond} (h : tables_1_3[i]? = some w) (hg : goodWord w = true) : w ∈ GW := List.mem_filter.mpr ⟨List.mem_append_right _ (List.mem_append_right _ (List.mem_append_right _ (List.mem_append_left _ (List.mem_of_getElem? h)))), hg⟩
theorem GWt4 (i : Nat) {w : Cond} (h : tables_1_4[i]? = some w) (hg : goodWord w = true) : w ∈ GW := List.mem_filter.mpr ⟨List.mem_append_right _ (List.mem_append_right _ (List.mem_append_right _ (List.mem_append_right _ (List.mem_append_left _ (List.mem_of_getElem? h))))), hg⟩
theorem GWt5 (i : Nat) {w : Cond} (h : tables_1_5[i]? = some w) (hg : goodWord w = true) : w ∈ GW := List.mem_filter.mpr ⟨List.mem_append_right _ (List.mem_append_right _ (List.mem_append_right _ (List.mem_append_right _ (List.mem_append_right _ (List.mem_append_left _ (List.mem_of_getElem? h)))))), hg⟩
theorem GWt6 (i : Nat) {w : Cond} (h : tables_1_6[i]? = some w) (hg : goodWord w = true) : w ∈ GW := List.mem_filter.mpr ⟨List.mem_append_right _ (List.mem_append_right _ (List.mem_append_right _ (List.mem_append_right _ (List.mem_append_right _ (List.mem_append_right _ (List.mem_append_left _ (List.mem_of_getElem? h))))))), hg⟩
theorem GWt7 (i : Nat) {w : Cond} (h : tables_1_7[i]? = some w) (hg : goodWord w = true) : w ∈ GW := List.mem_filter.mpr ⟨List.mem_append_right _ (List.mem_append_right _ (List.mem_append_right _ (List.mem_append_right _ (List.mem_append_right _ (List.mem_append_right _ (List.mem_append_right _ (List.mem_append_left _ (List.mem_of_getElem? h)))))))), hg⟩
theorem GWt8 (i : Nat) {w : Cond} (h : tables_1_8[i]? = some w) (hg : goodWord w = true) : w ∈ GW := List.mem_filter.mpr ⟨List.mem_append_right _ (List.mem_append_right _ (List.mem_append_right _ (List.mem_append_right _ (List.mem_append_right _ (List.mem_append_right _ (List.mem_append_right _ (List.mem_append_right _ (List.mem_append_left _ (List.mem_of_getElem? h))))))))), hg⟩
theorem GWt9 (i : Nat) {w : Cond} (h : tables_1_9[i]? = some w) (hg : goodWord w = true) : w ∈ GW := List.mem_filter.mpr ⟨List.mem_append_right _ (List.mem_append_right _ (List.mem_append_right _ (List.mem_append_right _ (List.mem_append_right _ (List.mem_append_right _ (List.mem_append_right _ (List.mem_append_right _ (List.mem_append_right _ ((List.mem_of_getElem? h)))))))))), hg⟩
theorem GWp (q : MethodName × Nat) (h : q ∈ lw_privs) : Cond.selects q.1.cls q.1 q.1 ∈ GW := List.mem_filter.mpr ⟨List.mem_append_left _ (List.mem_map.mpr ⟨q, h, rfl⟩), rfl⟩
theorem GWp1 (i : Nat) {q : MethodName × Nat} (h : lw_privs_1[i]? = some q) : Cond.selects q.1.cls q.1 q.1 ∈ GW := GWp q (List.mem_append_left _ (List.mem_of_getElem? h))
theorem GWp2 (i : Nat) {q : MethodName × Nat} (h : lw_privs_2[i]? = some q) : Cond.selects q.1.cls q.1 q.1 ∈ GW := GWp q (List.mem_append_right _ (List.mem_append_left _ (List.mem_of_getElem? h)))
theorem GWp3 (i : Nat) {q : MethodName × Nat} (h : lw_privs_3[i]? = some q) : Cond.selects q.1.cls q.1 q.1 ∈ GW := GWp q (List.mem_append_right _ (List.mem_append_right _ (List.mem_append_left _ (List.mem_of_getElem? h))))
theorem GWp4 (i : Nat) {q : MethodName × Nat} (h : lw_privs_4[i]? = some q) : Cond.selects q.1.cls q.1 q.1 ∈ GW := GWp q (List.mem_append_right _ (List.mem_append_right _ (List.mem_append_right _ (List.mem_append_left _ (List.mem_of_getElem? h)))))
theorem GWp5 (i : Nat) {q : MethodName × Nat} (h : lw_privs_5[i]? = some q) : Cond.selects q.1.cls q.1 q.1 ∈ GW := GWp q (List.mem_append_right _ (List.mem_append_right _ (List.mem_append_right _ (List.mem_append_right _ (List.mem_append_left _ (List.mem_of_getElem? h))))))
theorem GWp6 (i : Nat) {q : MethodName × Nat} (h : lw_privs_6[i]? = some q) : Cond.selects q.1.cls q.1 q.1 ∈ GW := GWp q (List.mem_append_right _ (List.mem_append_right _ (List.mem_append_right _ (List.mem_append_right _ (List.mem_append_right _ (List.mem_append_left _ (List.mem_of_getElem? h)))))))
theorem GWp7 (i : Nat) {q : MethodName × Nat} (h : lw_privs_7[i]? = some q) : Cond.selects q.1.cls q.1 q.1 ∈ GW := GWp q (List.mem_append_right _ (List.mem_append_right _ (List.mem_append_right _ (List.mem_append_right _ (List.mem_append_right _ (List.mem_append_right _ (List.mem_append_left _ (List.mem_of_getElem? h))))))))
theorem GWp8 (i : Nat) {q : MethodName × Nat} (h : lw_privs_8[i]? = some q) : Cond.selects q.1.cls q.1 q.1 ∈ GW := GWp q (List.mem_append_right _ (List.mem_append_right _ (List.mem_append_right _ (List.mem_append_right _ (List.mem_append_right _ (List.mem_append_right _ (List.mem_append_right _ ((List.mem_of_getElem? h)))))))))
set_option maxRecDepth 100000 in
theorem t_0 : Cond.initialized RL ∈ GW := GWt1 0 rfl rfl
set_option maxRecDepth 100000 in
theorem t_1 : Cond.initialized RX11 ∈ GW := GWt1 1 rfl rfl
set_option maxRecDepth 100000 in
theorem t_2 : Cond.initialized RX10 ∈ GW := GWt1 2 rfl rfl
set_option maxRecDepth 100000 in
theorem t_3 : Cond.initialized RX2 ∈ GW := GWt1 3 rfl rfl
set_option maxRecDepth 100000 in
theorem t_4 : Cond.initialized RX8 ∈ GW := GWt1 4 rfl rfl
set_option maxRecDepth 100000 in
theorem t_5 : Cond.initialized RX0 ∈ GW := GWt1 5 rfl rfl
set_option maxRecDepth 100000 in
theorem t_6 : Cond.initialized RX5 ∈ GW := GWt1 6 rfl rfl
set_option maxRecDepth 100000 in
theorem t_7 : Cond.initialized RX9 ∈ GW := GWt1 7 rfl rfl
set_option maxRecDepth 100000 in
theorem t_8 : Cond.initialized RX3 ∈ GW := GWt1 8 rfl rfl
set_option maxRecDepth 100000 in
theorem t_9 : Cond.initialized RX7 ∈ GW := GWt1 9 rfl rfl
set_option maxRecDepth 100000 in
theorem t_10 : Cond.initialized RX4 ∈ GW := GWt1 10 rfl rfl
set_option maxRecDepth 100000 in
theorem t_11 : Cond.initialized RX12 ∈ GW := GWt1 11 rfl rfl
set_option maxRecDepth 100000 in
theorem t_12 : Cond.initialized RJ7 ∈ GW := GWt1 12 rfl rfl
set_option maxRecDepth 100000 in
theorem t_13 : Cond.initialized RX1 ∈ GW := GWt1 13 rfl rfl
set_option maxRecDepth 100000 in
theorem t_14 : Cond.initialized RJ9 ∈ GW := GWt1 14 rfl rfl
set_option maxRecDepth 100000 in
theorem t_15 : Cond.initialized RJ0 ∈ GW := GWt1 15 rfl rfl
set_option maxRecDepth 100000 in
theorem t_16 : Cond.initialized RJ1 ∈ GW := GWt1 16 rfl rfl
set_option maxRecDepth 100000 in
theorem t_17 : Cond.initialized RJ3 ∈ GW := GWt1 17 rfl rfl
set_option maxRecDepth 100000 in
theorem t_18 : Cond.initialized RJ2 ∈ GW := GWt1 18 rfl rfl
set_option maxRecDepth 100000 in
theorem t_19 : Cond.initialized RJ10 ∈ GW := GWt1 19 rfl rfl
set_option maxRecDepth 100000 in
theorem t_20 : Cond.initialized RX6 ∈ GW := GWt1 20 rfl rfl
set_option maxRecDepth 100000 in
theorem t_21 : Cond.initialized RJ6 ∈ GW := GWt1 21 rfl rfl
set_option maxRecDepth 100000 in
theorem t_22 : Cond.initialized RJ13 ∈ GW := GWt1 22 rfl rfl
set_option maxRecDepth 100000 in
theorem t_23 : Cond.classLink RL 7 RX11 ∈ GW := GWt1 23 rfl rfl
set_option maxRecDepth 100000 in
theorem t_24 : Cond.instantiable RX11 18 ∈ GW := GWt1 24 rfl rfl
set_option maxRecDepth 100000 in
theorem t_25 : Cond.methodLink RL 9 yX11_init ∈ GW := GWt1 25 rfl rfl
set_option maxRecDepth 100000 in
theorem t_26 : Cond.instanceMethod yX11_init ∈ GW := GWt1 26 rfl rfl
set_option maxRecDepth 100000 in
theorem t_27 : Cond.code yX11_init cX11_init 2 (none) ∈ GW := GWt1 27 rfl rfl
set_option maxRecDepth 100000 in
theorem t_28 : Cond.methodLink RX11 1 Lib.objectInit ∈ GW := GWt1 28 rfl rfl
set_option maxRecDepth 100000 in
theorem t_29 : Cond.instanceMethod Lib.objectInit ∈ GW := GWt1 29 rfl rfl
set_option maxRecDepth 100000 in
theorem t_30 : Cond.code Lib.objectInit ⟨#[0xb1]⟩ 1 none ∈ GW := GWt1 30 rfl rfl
set_option maxRecDepth 100000 in
theorem t_31 : Cond.classLink RX11 13 RX10 ∈ GW := GWt1 31 rfl rfl
set_option maxRecDepth 100000 in
theorem t_32 : Cond.instantiable RX10 7 ∈ GW := GWt1 32 rfl rfl
set_option maxRecDepth 100000 in
theorem t_34 : Cond.instanceMethod yX10_init ∈ GW := GWt1 34 rfl rfl
set_option maxRecDepth 100000 in
theorem t_35 : Cond.code yX10_init cX10_init 1 (none) ∈ GW := GWt1 35 rfl rfl
set_option maxRecDepth 100000 in
theorem t_36 : Cond.methodLink RX10 3 Lib.objectInit ∈ GW := GWt1 36 rfl rfl
set_option maxRecDepth 100000 in
theorem t_37 : Cond.fieldLink RX10 9 (TX10 0).1 (TX10 0).2.1 (TX10 0).2.2.1 ∈ GW := GWt1 37 rfl rfl
set_option maxRecDepth 100000 in
theorem t_38 : Cond.fieldLink RX10 19 (TX10 1).1 (TX10 1).2.1 (TX10 1).2.2.1 ∈ GW := GWt1 38 rfl rfl
set_option maxRecDepth 100000 in
theorem t_39 : Cond.fieldLink RX11 109 (TX10 1).1 (TX10 1).2.1 (TX10 1).2.2.1 ∈ GW := GWt1 39 rfl rfl
set_option maxRecDepth 100000 in
theorem t_40 : Cond.fieldLink RX10 15 (TX10 2).1 (TX10 2).2.1 (TX10 2).2.2.1 ∈ GW := GWt1 40 rfl rfl
set_option maxRecDepth 100000 in
theorem t_41 : Cond.fieldLink RX11 332 (TX10 2).1 (TX10 2).2.1 (TX10 2).2.2.1 ∈ GW := GWt1 41 rfl rfl
set_option maxRecDepth 100000 in
theorem t_42 : Cond.fieldLink RX10 28 (TX10 3).1 (TX10 3).2.1 (TX10 3).2.2.1 ∈ GW := GWt1 42 rfl rfl
set_option maxRecDepth 100000 in
theorem t_43 : Cond.fieldLink RX10 40 (TX10 4).1 (TX10 4).2.1 (TX10 4).2.2.1 ∈ GW := GWt1 43 rfl rfl
set_option maxRecDepth 100000 in
theorem t_44 : Cond.fieldLink RX10 37 (TX10 5).1 (TX10 5).2.1 (TX10 5).2.2.1 ∈ GW := GWt1 44 rfl rfl
set_option maxRecDepth 100000 in
theorem t_45 : Cond.fieldLink RX10 31 (TX10 6).1 (TX10 6).2.1 (TX10 6).2.2.1 ∈ GW := GWt1 45 rfl rfl
set_option maxRecDepth 100000 in
theorem t_61 : Cond.arrayClass .int ∈ GW := GWt1 61 rfl rfl
set_option maxRecDepth 100000 in
theorem t_62 : Cond.classLink RX11 20 RX2 ∈ GW := GWt1 62 rfl rfl
set_option maxRecDepth 100000 in
theorem t_63 : Cond.instantiable RX2 8 ∈ GW := GWt1 63 rfl rfl
set_option maxRecDepth 100000 in
theorem t_64 : Cond.methodLink RX11 22 yX2_init ∈ GW := GWt1 64 rfl rfl
set_option maxRecDepth 100000 in
theorem t_65 : Cond.instanceMethod yX2_init ∈ GW := GWt1 65 rfl rfl
set_option maxRecDepth 100000 in
theorem t_66 : Cond.code yX2_init cX2_init 2 (none) ∈ GW := GWt1 66 rfl rfl
set_option maxRecDepth 100000 in
theorem t_67 : Cond.methodLink RX2 3 Lib.objectInit ∈ GW := GWt1 67 rfl rfl
set_option maxRecDepth 100000 in
theorem t_68 : Cond.classLink RX2 9 RX8 ∈ GW := GWt1 68 rfl rfl
set_option maxRecDepth 100000 in
theorem t_69 : Cond.instantiable RX8 3 ∈ GW := GWt1 69 rfl rfl
set_option maxRecDepth 100000 in
theorem t_71 : Cond.instanceMethod yX8_init ∈ GW := GWt1 71 rfl rfl
set_option maxRecDepth 100000 in
theorem t_72 : Cond.code yX8_init cX8_init 1 (none) ∈ GW := GWt1 72 rfl rfl
set_option maxRecDepth 100000 in
theorem t_73 : Cond.methodLink RX8 3 Lib.objectInit ∈ GW := GWt1 73 rfl rfl
set_option maxRecDepth 100000 in
theorem t_74 : Cond.fieldLink RX8 15 (TX8 0).1 (TX8 0).2.1 (TX8 0).2.2.1 ∈ GW := GWt1 74 rfl rfl
set_option maxRecDepth 100000 in
theorem t_75 : Cond.fieldLink RX2 65 (TX8 0).1 (TX8 0).2.1 (TX8 0).2.2.1 ∈ GW := GWt1 75 rfl rfl
set_option maxRecDepth 100000 in
theorem t_76 : Cond.fieldLink RX8 11 (TX8 1).1 (TX8 1).2.1 (TX8 1).2.2.1 ∈ GW := GWt1 76 rfl rfl
set_option maxRecDepth 100000 in
theorem t_77 : Cond.fieldLink RX8 19 (TX8 2).1 (TX8 2).2.1 (TX8 2).2.2.1 ∈ GW := GWt1 77 rfl rfl
set_option maxRecDepth 100000 in
theorem t_85 : Cond.fieldLink RX2 22 (TX2 0).1 (TX2 0).2.1 (TX2 0).2.2.1 ∈ GW := GWt1 85 rfl rfl
set_option maxRecDepth 100000 in
theorem t_86 : Cond.fieldLink RX2 12 (TX2 1).1 (TX2 1).2.1 (TX2 1).2.2.1 ∈ GW := GWt1 86 rfl rfl
set_option maxRecDepth 100000 in
theorem t_87 : Cond.fieldLink RX2 18 (TX2 2).1 (TX2 2).2.1 (TX2 2).2.2.1 ∈ GW := GWt1 87 rfl rfl
set_option maxRecDepth 100000 in
theorem t_88 : Cond.fieldLink RX2 26 (TX2 3).1 (TX2 3).2.1 (TX2 3).2.2.1 ∈ GW := GWt1 88 rfl rfl
set_option maxRecDepth 100000 in
theorem t_89 : Cond.fieldLink RX2 36 (TX2 4).1 (TX2 4).2.1 (TX2 4).2.2.1 ∈ GW := GWt1 89 rfl rfl
set_option maxRecDepth 100000 in
theorem t_90 : Cond.fieldLink RX2 40 (TX2 5).1 (TX2 5).2.1 (TX2 5).2.2.1 ∈ GW := GWt1 90 rfl rfl
set_option maxRecDepth 100000 in
theorem t_91 : Cond.fieldLink RX2 43 (TX2 6).1 (TX2 6).2.1 (TX2 6).2.2.1 ∈ GW := GWt1 91 rfl rfl
set_option maxRecDepth 100000 in
theorem t_92 : Cond.fieldLink RX2 46 (TX2 7).1 (TX2 7).2.1 (TX2 7).2.2.1 ∈ GW := GWt1 92 rfl rfl
set_option maxRecDepth 100000 in
theorem t_110 : Cond.classLink RX11 29 RX1 ∈ GW := GWt1 110 rfl rfl
set_option maxRecDepth 100000 in
theorem t_112 : Cond.classLink RX11 35 RX6 ∈ GW := GWt1 112 rfl rfl
set_option maxRecDepth 100000 in
theorem t_114 : Cond.classLink RX11 48 RX0 ∈ GW := GWt1 114 rfl rfl
set_option maxRecDepth 100000 in
theorem t_115 : Cond.instantiable RX0 2 ∈ GW := GWt1 115 rfl rfl
set_option maxRecDepth 100000 in
theorem t_117 : Cond.instanceMethod yX0_init ∈ GW := GWt1 117 rfl rfl
set_option maxRecDepth 100000 in
theorem t_118 : Cond.code yX0_init cX0_init 1 (none) ∈ GW := GWt1 118 rfl rfl
set_option maxRecDepth 100000 in
theorem t_119 : Cond.methodLink RX0 3 Lib.objectInit ∈ GW := GWt1 119 rfl rfl
set_option maxRecDepth 100000 in
theorem t_120 : Cond.classLink RX0 9 RX1 ∈ GW := GWt1 120 rfl rfl
set_option maxRecDepth 100000 in
theorem t_121 : Cond.fieldLink RX0 11 (TX0 0).1 (TX0 0).2.1 (TX0 0).2.2.1 ∈ GW := GWt1 121 rfl rfl
set_option maxRecDepth 100000 in
theorem t_122 : Cond.fieldLink RX3 27 (TX0 0).1 (TX0 0).2.1 (TX0 0).2.2.1 ∈ GW := GWt1 122 rfl rfl
set_option maxRecDepth 100000 in
theorem t_123 : Cond.fieldLink RX5 55 (TX0 0).1 (TX0 0).2.1 (TX0 0).2.2.1 ∈ GW := GWt1 123 rfl rfl
set_option maxRecDepth 100000 in
theorem t_124 : Cond.fieldLink RX11 287 (TX0 0).1 (TX0 0).2.1 (TX0 0).2.2.1 ∈ GW := GWt1 124 rfl rfl
set_option maxRecDepth 100000 in
theorem t_125 : Cond.fieldLink RX0 17 (TX0 1).1 (TX0 1).2.1 (TX0 1).2.2.1 ∈ GW := GWt1 125 rfl rfl
set_option maxRecDepth 100000 in
theorem t_126 : Cond.fieldLink RX3 22 (TX0 1).1 (TX0 1).2.1 (TX0 1).2.2.1 ∈ GW := GWt1 126 rfl rfl
set_option maxRecDepth 100000 in
theorem t_127 : Cond.fieldLink RX5 49 (TX0 1).1 (TX0 1).2.1 (TX0 1).2.2.1 ∈ GW := GWt1 127 rfl rfl
set_option maxRecDepth 100000 in
theorem t_128 : Cond.fieldLink RX7 74 (TX0 1).1 (TX0 1).2.1 (TX0 1).2.2.1 ∈ GW := GWt1 128 rfl rfl
set_option maxRecDepth 100000 in
theorem t_129 : Cond.fieldLink RX4 117 (TX0 1).1 (TX0 1).2.1 (TX0 1).2.2.1 ∈ GW := GWt1 129 rfl rfl
set_option maxRecDepth 100000 in
theorem t_130 : Cond.fieldLink RX11 181 (TX0 1).1 (TX0 1).2.1 (TX0 1).2.2.1 ∈ GW := GWt1 130 rfl rfl
set_option maxRecDepth 100000 in
theorem t_137 : Cond.classLink RX11 59 RX5 ∈ GW := GWt1 137 rfl rfl
set_option maxRecDepth 100000 in
theorem t_138 : Cond.instantiable RX5 20 ∈ GW := GWt1 138 rfl rfl
set_option maxRecDepth 100000 in
theorem t_139 : Cond.methodLink RX11 61 yX5_init ∈ GW := GWt1 139 rfl rfl
set_option maxRecDepth 100000 in
theorem t_140 : Cond.instanceMethod yX5_init ∈ GW := GWt1 140 rfl rfl
set_option maxRecDepth 100000 in
theorem t_141 : Cond.code yX5_init cX5_init 2 (none) ∈ GW := GWt1 141 rfl rfl
set_option maxRecDepth 100000 in
theorem t_142 : Cond.methodLink RX5 3 Lib.objectInit ∈ GW := GWt1 142 rfl rfl
set_option maxRecDepth 100000 in
theorem t_143 : Cond.fieldLink RX5 46 (TX5 0).1 (TX5 0).2.1 (TX5 0).2.2.1 ∈ GW := GWt1 143 rfl rfl
set_option maxRecDepth 100000 in
theorem t_144 : Cond.fieldLink RX5 11 (TX5 1).1 (TX5 1).2.1 (TX5 1).2.2.1 ∈ GW := GWt1 144 rfl rfl
set_option maxRecDepth 100000 in
theorem t_145 : Cond.fieldLink RX5 15 (TX5 2).1 (TX5 2).2.1 (TX5 2).2.2.1 ∈ GW := GWt1 145 rfl rfl
set_option maxRecDepth 100000 in
theorem t_146 : Cond.fieldLink RX5 129 (TX5 3).1 (TX5 3).2.1 (TX5 3).2.2.1 ∈ GW := GWt1 146 rfl rfl
set_option maxRecDepth 100000 in
theorem t_147 : Cond.fieldLink RX5 111 (TX5 4).1 (TX5 4).2.1 (TX5 4).2.2.1 ∈ GW := GWt1 147 rfl rfl
set_option maxRecDepth 100000 in
theorem t_148 : Cond.fieldLink RX5 19 (TX5 5).1 (TX5 5).2.1 (TX5 5).2.2.1 ∈ GW := GWt1 148 rfl rfl
set_option maxRecDepth 100000 in
theorem t_149 : Cond.fieldLink RX5 108 (TX5 6).1 (TX5 6).2.1 (TX5 6).2.2.1 ∈ GW := GWt1 149 rfl rfl
set_option maxRecDepth 100000 in
theorem t_150 : Cond.fieldLink RX5 22 (TX5 7).1 (TX5 7).2.1 (TX5 7).2.2.1 ∈ GW := GWt1 150 rfl rfl
set_option maxRecDepth 100000 in
theorem t_151 : Cond.fieldLink RX5 25 (TX5 8).1 (TX5 8).2.1 (TX5 8).2.2.1 ∈ GW := GWt1 151 rfl rfl
set_option maxRecDepth 100000 in
theorem t_152 : Cond.fieldLink RX5 28 (TX5 9).1 (TX5 9).2.1 (TX5 9).2.2.1 ∈ GW := GWt1 152 rfl rfl
set_option maxRecDepth 100000 in
theorem t_153 : Cond.fieldLink RX5 31 (TX5 10).1 (TX5 10).2.1 (TX5 10).2.2.1 ∈ GW := GWt1 153 rfl rfl
set_option maxRecDepth 100000 in
theorem t_154 : Cond.fieldLink RX9 55 (TX5 10).1 (TX5 10).2.1 (TX5 10).2.2.1 ∈ GW := GWt1 154 rfl rfl
set_option maxRecDepth 100000 in
theorem t_155 : Cond.fieldLink RX5 34 (TX5 11).1 (TX5 11).2.1 (TX5 11).2.2.1 ∈ GW := GWt1 155 rfl rfl
set_option maxRecDepth 100000 in
theorem t_156 : Cond.fieldLink RX9 75 (TX5 11).1 (TX5 11).2.1 (TX5 11).2.2.1 ∈ GW := GWt1 156 rfl rfl
set_option maxRecDepth 100000 in
theorem t_157 : Cond.fieldLink RX5 37 (TX5 12).1 (TX5 12).2.1 (TX5 12).2.2.1 ∈ GW := GWt1 157 rfl rfl
set_option maxRecDepth 100000 in
theorem t_158 : Cond.fieldLink RX5 40 (TX5 13).1 (TX5 13).2.1 (TX5 13).2.2.1 ∈ GW := GWt1 158 rfl rfl
set_option maxRecDepth 100000 in
theorem t_159 : Cond.fieldLink RX5 43 (TX5 14).1 (TX5 14).2.1 (TX5 14).2.2.1 ∈ GW := GWt1 159 rfl rfl
set_option maxRecDepth 100000 in
theorem t_160 : Cond.fieldLink RX5 149 (TX5 15).1 (TX5 15).2.1 (TX5 15).2.2.1 ∈ GW := GWt1 160 rfl rfl
set_option maxRecDepth 100000 in
theorem t_161 : Cond.fieldLink RX5 152 (TX5 16).1 (TX5 16).2.1 (TX5 16).2.2.1 ∈ GW := GWt1 161 rfl rfl
set_option maxRecDepth 100000 in
theorem t_162 : Cond.fieldLink RX5 155 (TX5 17).1 (TX5 17).2.1 (TX5 17).2.2.1 ∈ GW := GWt1 162 rfl rfl
set_option maxRecDepth 100000 in
theorem t_163 : Cond.fieldLink RX5 168 (TX5 18).1 (TX5 18).2.1 (TX5 18).2.2.1 ∈ GW := GWt1 163 rfl rfl
set_option maxRecDepth 100000 in
theorem t_164 : Cond.fieldLink RX5 171 (TX5 19).1 (TX5 19).2.1 (TX5 19).2.2.1 ∈ GW := GWt1 164 rfl rfl
set_option maxRecDepth 100000 in
theorem t_206 : Cond.arrayClass .long ∈ GW := GWt1 206 rfl rfl
set_option maxRecDepth 100000 in
theorem t_207 : Cond.classLink RX11 68 RX9 ∈ GW := GWt1 207 rfl rfl
set_option maxRecDepth 100000 in
theorem t_208 : Cond.instantiable RX9 5 ∈ GW := GWt1 208 rfl rfl
set_option maxRecDepth 100000 in
theorem t_210 : Cond.instanceMethod yX9_init ∈ GW := GWt1 210 rfl rfl
set_option maxRecDepth 100000 in
theorem t_211 : Cond.code yX9_init cX9_init 1 (none) ∈ GW := GWt1 211 rfl rfl
set_option maxRecDepth 100000 in
theorem t_212 : Cond.methodLink RX9 3 Lib.objectInit ∈ GW := GWt1 212 rfl rfl
set_option maxRecDepth 100000 in
theorem t_213 : Cond.fieldLink RX9 26 (TX9 0).1 (TX9 0).2.1 (TX9 0).2.2.1 ∈ GW := GWt1 213 rfl rfl
set_option maxRecDepth 100000 in
theorem t_214 : Cond.fieldLink RX11 102 (TX9 0).1 (TX9 0).2.1 (TX9 0).2.2.1 ∈ GW := GWt1 214 rfl rfl
set_option maxRecDepth 100000 in
theorem t_215 : Cond.fieldLink RX9 9 (TX9 1).1 (TX9 1).2.1 (TX9 1).2.2.1 ∈ GW := GWt1 215 rfl rfl
set_option maxRecDepth 100000 in
theorem t_216 : Cond.fieldLink RX11 233 (TX9 1).1 (TX9 1).2.1 (TX9 1).2.2.1 ∈ GW := GWt1 216 rfl rfl
set_option maxRecDepth 100000 in
theorem t_217 : Cond.fieldLink RX9 15 (TX9 2).1 (TX9 2).2.1 (TX9 2).2.2.1 ∈ GW := GWt1 217 rfl rfl
set_option maxRecDepth 100000 in
theorem t_218 : Cond.fieldLink RX11 226 (TX9 2).1 (TX9 2).2.1 (TX9 2).2.2.1 ∈ GW := GWt1 218 rfl rfl
set_option maxRecDepth 100000 in
theorem t_219 : Cond.fieldLink RX9 19 (TX9 3).1 (TX9 3).2.1 (TX9 3).2.2.1 ∈ GW := GWt1 219 rfl rfl
set_option maxRecDepth 100000 in
theorem t_220 : Cond.fieldLink RX11 229 (TX9 3).1 (TX9 3).2.1 (TX9 3).2.2.1 ∈ GW := GWt1 220 rfl rfl
set_option maxRecDepth 100000 in
theorem t_221 : Cond.fieldLink RX9 23 (TX9 4).1 (TX9 4).2.1 (TX9 4).2.2.1 ∈ GW := GWt1 221 rfl rfl
set_option maxRecDepth 100000 in
theorem t_222 : Cond.fieldLink RX11 236 (TX9 4).1 (TX9 4).2.1 (TX9 4).2.2.1 ∈ GW := GWt1 222 rfl rfl
set_option maxRecDepth 100000 in
theorem t_234 : Cond.classLink RX11 75 RX3 ∈ GW := GWt1 234 rfl rfl
set_option maxRecDepth 100000 in
theorem t_235 : Cond.instantiable RX3 5 ∈ GW := GWt1 235 rfl rfl
set_option maxRecDepth 100000 in
theorem t_236 : Cond.methodLink RX11 77 yX3_init ∈ GW := GWt1 236 rfl rfl
set_option maxRecDepth 100000 in
theorem t_237 : Cond.instanceMethod yX3_init ∈ GW := GWt1 237 rfl rfl
set_option maxRecDepth 100000 in
theorem t_238 : Cond.code yX3_init cX3_init 2 (none) ∈ GW := GWt1 238 rfl rfl
set_option maxRecDepth 100000 in
theorem t_239 : Cond.methodLink RX3 3 Lib.objectInit ∈ GW := GWt1 239 rfl rfl
set_option maxRecDepth 100000 in
theorem t_240 : Cond.fieldLink RX3 15 (TX3 0).1 (TX3 0).2.1 (TX3 0).2.2.1 ∈ GW := GWt2 0 rfl rfl
set_option maxRecDepth 100000 in
theorem t_241 : Cond.fieldLink RX3 9 (TX3 1).1 (TX3 1).2.1 (TX3 1).2.2.1 ∈ GW := GWt2 1 rfl rfl
set_option maxRecDepth 100000 in
theorem t_242 : Cond.fieldLink RX3 18 (TX3 2).1 (TX3 2).2.1 (TX3 2).2.2.1 ∈ GW := GWt2 2 rfl rfl
set_option maxRecDepth 100000 in
theorem t_243 : Cond.fieldLink RX3 63 (TX3 3).1 (TX3 3).2.1 (TX3 3).2.2.1 ∈ GW := GWt2 3 rfl rfl
set_option maxRecDepth 100000 in
theorem t_244 : Cond.fieldLink RX11 251 (TX3 3).1 (TX3 3).2.1 (TX3 3).2.2.1 ∈ GW := GWt2 4 rfl rfl
set_option maxRecDepth 100000 in
theorem t_245 : Cond.fieldLink RX3 66 (TX3 4).1 (TX3 4).2.1 (TX3 4).2.2.1 ∈ GW := GWt2 5 rfl rfl
set_option maxRecDepth 100000 in
theorem t_246 : Cond.fieldLink RX11 254 (TX3 4).1 (TX3 4).2.1 (TX3 4).2.2.1 ∈ GW := GWt2 6 rfl rfl
set_option maxRecDepth 100000 in
theorem t_258 : Cond.classLink RX11 82 RX7 ∈ GW := GWt2 18 rfl rfl
set_option maxRecDepth 100000 in
theorem t_259 : Cond.instantiable RX7 15 ∈ GW := GWt2 19 rfl rfl
set_option maxRecDepth 100000 in
theorem t_260 : Cond.methodLink RX11 84 yX7_init ∈ GW := GWt2 20 rfl rfl
set_option maxRecDepth 100000 in
theorem t_261 : Cond.instanceMethod yX7_init ∈ GW := GWt2 21 rfl rfl
set_option maxRecDepth 100000 in
theorem t_262 : Cond.code yX7_init cX7_init 3 (none) ∈ GW := GWt2 22 rfl rfl
set_option maxRecDepth 100000 in
theorem t_263 : Cond.methodLink RX7 3 Lib.objectInit ∈ GW := GWt2 23 rfl rfl
set_option maxRecDepth 100000 in
theorem t_264 : Cond.classLink RX7 9 RX1 ∈ GW := GWt2 24 rfl rfl
set_option maxRecDepth 100000 in
theorem t_265 : Cond.classLink RX7 33 RX0 ∈ GW := GWt2 25 rfl rfl
set_option maxRecDepth 100000 in
theorem t_267 : Cond.fieldLink RX7 47 (TX7 0).1 (TX7 0).2.1 (TX7 0).2.2.1 ∈ GW := GWt2 27 rfl rfl
set_option maxRecDepth 100000 in
theorem t_268 : Cond.fieldLink RX7 51 (TX7 1).1 (TX7 1).2.1 (TX7 1).2.2.1 ∈ GW := GWt2 28 rfl rfl
set_option maxRecDepth 100000 in
theorem t_269 : Cond.fieldLink RX7 11 (TX7 2).1 (TX7 2).2.1 (TX7 2).2.2.1 ∈ GW := GWt2 29 rfl rfl
set_option maxRecDepth 100000 in
theorem t_270 : Cond.fieldLink RX7 65 (TX7 3).1 (TX7 3).2.1 (TX7 3).2.2.1 ∈ GW := GWt2 30 rfl rfl
set_option maxRecDepth 100000 in
theorem t_271 : Cond.fieldLink RX11 260 (TX7 3).1 (TX7 3).2.1 (TX7 3).2.2.1 ∈ GW := GWt2 31 rfl rfl
set_option maxRecDepth 100000 in
theorem t_272 : Cond.fieldLink RX7 17 (TX7 4).1 (TX7 4).2.1 (TX7 4).2.2.1 ∈ GW := GWt2 32 rfl rfl
set_option maxRecDepth 100000 in
theorem t_273 : Cond.fieldLink RX7 71 (TX7 5).1 (TX7 5).2.1 (TX7 5).2.2.1 ∈ GW := GWt2 33 rfl rfl
set_option maxRecDepth 100000 in
theorem t_274 : Cond.fieldLink RX7 55 (TX7 6).1 (TX7 6).2.1 (TX7 6).2.2.1 ∈ GW := GWt2 34 rfl rfl
set_option maxRecDepth 100000 in
theorem t_275 : Cond.fieldLink RX7 21 (TX7 7).1 (TX7 7).2.1 (TX7 7).2.2.1 ∈ GW := GWt2 35 rfl rfl
set_option maxRecDepth 100000 in
theorem t_276 : Cond.fieldLink RX7 24 (TX7 8).1 (TX7 8).2.1 (TX7 8).2.2.1 ∈ GW := GWt2 36 rfl rfl
set_option maxRecDepth 100000 in
theorem t_277 : Cond.fieldLink RX7 27 (TX7 9).1 (TX7 9).2.1 (TX7 9).2.2.1 ∈ GW := GWt2 37 rfl rfl
set_option maxRecDepth 100000 in
theorem t_278 : Cond.fieldLink RX7 30 (TX7 10).1 (TX7 10).2.1 (TX7 10).2.2.1 ∈ GW := GWt2 38 rfl rfl
set_option maxRecDepth 100000 in
theorem t_279 : Cond.fieldLink RX7 133 (TX7 11).1 (TX7 11).2.1 (TX7 11).2.2.1 ∈ GW := GWt2 39 rfl rfl
set_option maxRecDepth 100000 in
theorem t_280 : Cond.fieldLink RX7 36 (TX7 12).1 (TX7 12).2.1 (TX7 12).2.2.1 ∈ GW := GWt2 40 rfl rfl
set_option maxRecDepth 100000 in
theorem t_281 : Cond.fieldLink RX7 40 (TX7 13).1 (TX7 13).2.1 (TX7 13).2.2.1 ∈ GW := GWt2 41 rfl rfl
set_option maxRecDepth 100000 in
theorem t_282 : Cond.fieldLink RX7 44 (TX7 14).1 (TX7 14).2.1 (TX7 14).2.2.1 ∈ GW := GWt2 42 rfl rfl
set_option maxRecDepth 100000 in
theorem t_314 : Cond.classLink RX11 91 RX4 ∈ GW := GWt2 74 rfl rfl
set_option maxRecDepth 100000 in
theorem t_315 : Cond.instantiable RX4 7 ∈ GW := GWt2 75 rfl rfl
set_option maxRecDepth 100000 in
theorem t_317 : Cond.instanceMethod yX4_init ∈ GW := GWt2 77 rfl rfl
set_option maxRecDepth 100000 in
theorem t_318 : Cond.code yX4_init cX4_init 1 (none) ∈ GW := GWt2 78 rfl rfl
set_option maxRecDepth 100000 in
theorem t_319 : Cond.methodLink RX4 3 Lib.objectInit ∈ GW := GWt2 79 rfl rfl
set_option maxRecDepth 100000 in
theorem t_320 : Cond.classLink RX4 25 RX0 ∈ GW := GWt2 80 rfl rfl
set_option maxRecDepth 100000 in
theorem t_322 : Cond.fieldLink RX4 9 (TX4 0).1 (TX4 0).2.1 (TX4 0).2.2.1 ∈ GW := GWt2 82 rfl rfl
set_option maxRecDepth 100000 in
theorem t_323 : Cond.fieldLink RX4 15 (TX4 1).1 (TX4 1).2.1 (TX4 1).2.2.1 ∈ GW := GWt2 83 rfl rfl
set_option maxRecDepth 100000 in
theorem t_324 : Cond.fieldLink RX4 18 (TX4 2).1 (TX4 2).2.1 (TX4 2).2.2.1 ∈ GW := GWt2 84 rfl rfl
set_option maxRecDepth 100000 in
theorem t_325 : Cond.fieldLink RX4 35 (TX4 3).1 (TX4 3).2.1 (TX4 3).2.2.1 ∈ GW := GWt2 85 rfl rfl
set_option maxRecDepth 100000 in
theorem t_326 : Cond.fieldLink RX4 22 (TX4 4).1 (TX4 4).2.1 (TX4 4).2.2.1 ∈ GW := GWt2 86 rfl rfl
set_option maxRecDepth 100000 in
theorem t_327 : Cond.fieldLink RX11 310 (TX4 4).1 (TX4 4).2.1 (TX4 4).2.2.1 ∈ GW := GWt2 87 rfl rfl
set_option maxRecDepth 100000 in
theorem t_328 : Cond.fieldLink RX4 28 (TX4 5).1 (TX4 5).2.1 (TX4 5).2.2.1 ∈ GW := GWt2 88 rfl rfl
set_option maxRecDepth 100000 in
theorem t_329 : Cond.fieldLink RX11 317 (TX4 5).1 (TX4 5).2.1 (TX4 5).2.2.1 ∈ GW := GWt2 89 rfl rfl
set_option maxRecDepth 100000 in
theorem t_330 : Cond.fieldLink RX4 32 (TX4 6).1 (TX4 6).2.1 (TX4 6).2.2.1 ∈ GW := GWt2 90 rfl rfl
set_option maxRecDepth 100000 in
theorem t_346 : Cond.fieldLink RX11 9 (TX11 0).1 (TX11 0).2.1 (TX11 0).2.2.1 ∈ GW := GWt2 106 rfl rfl
set_option maxRecDepth 100000 in
theorem t_347 : Cond.fieldLink RX11 16 (TX11 1).1 (TX11 1).2.1 (TX11 1).2.2.1 ∈ GW := GWt2 107 rfl rfl
set_option maxRecDepth 100000 in
theorem t_348 : Cond.fieldLink RX11 25 (TX11 2).1 (TX11 2).2.1 (TX11 2).2.2.1 ∈ GW := GWt2 108 rfl rfl
set_option maxRecDepth 100000 in
theorem t_349 : Cond.fieldLink RX11 31 (TX11 3).1 (TX11 3).2.1 (TX11 3).2.2.1 ∈ GW := GWt2 109 rfl rfl
set_option maxRecDepth 100000 in
theorem t_350 : Cond.fieldLink RX11 116 (TX11 4).1 (TX11 4).2.1 (TX11 4).2.2.1 ∈ GW := GWt2 110 rfl rfl
set_option maxRecDepth 100000 in
theorem t_351 : Cond.fieldLink RX11 37 (TX11 5).1 (TX11 5).2.1 (TX11 5).2.2.1 ∈ GW := GWt2 111 rfl rfl
set_option maxRecDepth 100000 in
theorem t_352 : Cond.fieldLink RX11 139 (TX11 6).1 (TX11 6).2.1 (TX11 6).2.2.1 ∈ GW := GWt2 112 rfl rfl
set_option maxRecDepth 100000 in
theorem t_353 : Cond.fieldLink RX11 41 (TX11 7).1 (TX11 7).2.1 (TX11 7).2.2.1 ∈ GW := GWt2 113 rfl rfl
set_option maxRecDepth 100000 in
theorem t_354 : Cond.fieldLink RX11 149 (TX11 8).1 (TX11 8).2.1 (TX11 8).2.2.1 ∈ GW := GWt2 114 rfl rfl
set_option maxRecDepth 100000 in
theorem t_355 : Cond.fieldLink RX11 44 (TX11 9).1 (TX11 9).2.1 (TX11 9).2.2.1 ∈ GW := GWt2 115 rfl rfl
set_option maxRecDepth 100000 in
theorem t_356 : Cond.fieldLink RX11 51 (TX11 10).1 (TX11 10).2.1 (TX11 10).2.2.1 ∈ GW := GWt2 116 rfl rfl
set_option maxRecDepth 100000 in
theorem t_357 : Cond.fieldLink RX11 55 (TX11 11).1 (TX11 11).2.1 (TX11 11).2.2.1 ∈ GW := GWt2 117 rfl rfl
set_option maxRecDepth 100000 in
theorem t_358 : Cond.fieldLink RX11 273 (TX11 12).1 (TX11 12).2.1 (TX11 12).2.2.1 ∈ GW := GWt2 118 rfl rfl
set_option maxRecDepth 100000 in
theorem t_359 : Cond.fieldLink RX11 64 (TX11 13).1 (TX11 13).2.1 (TX11 13).2.2.1 ∈ GW := GWt2 119 rfl rfl
set_option maxRecDepth 100000 in
theorem t_360 : Cond.fieldLink RX11 71 (TX11 14).1 (TX11 14).2.1 (TX11 14).2.2.1 ∈ GW := GWt2 120 rfl rfl
set_option maxRecDepth 100000 in
theorem t_361 : Cond.fieldLink RX11 78 (TX11 15).1 (TX11 15).2.1 (TX11 15).2.2.1 ∈ GW := GWt2 121 rfl rfl
set_option maxRecDepth 100000 in
theorem t_362 : Cond.fieldLink RX11 87 (TX11 16).1 (TX11 16).2.1 (TX11 16).2.2.1 ∈ GW := GWt2 122 rfl rfl
set_option maxRecDepth 100000 in
theorem t_363 : Cond.fieldLink RX11 94 (TX11 17).1 (TX11 17).2.1 (TX11 17).2.2.1 ∈ GW := GWt2 123 rfl rfl
set_option maxRecDepth 100000 in
theorem t_401 : Cond.methodLink RL 13 yX11_family ∈ GW := GWt2 161 rfl rfl
set_option maxRecDepth 100000 in
theorem t_402 : Cond.instanceMethod yX11_family ∈ GW := GWt2 162 rfl rfl
set_option maxRecDepth 100000 in
theorem t_403 : Cond.selects RX11 yX11_family yX11_family ∈ GW := GWt2 163 rfl rfl
set_option maxRecDepth 100000 in
theorem t_404 : Cond.code yX11_family cX11_family 3 (some .boolean) ∈ GW := GWt2 164 rfl rfl
set_option maxRecDepth 100000 in
theorem t_405 : Cond.methodLink RX11 98 yX11_isWithin ∈ GW := GWt2 165 rfl rfl
set_option maxRecDepth 100000 in
theorem t_406 : Cond.static yX11_isWithin ∈ GW := GWt2 166 rfl rfl
set_option maxRecDepth 100000 in
theorem t_407 : Cond.code yX11_isWithin cX11_isWithin 2 (some .boolean) ∈ GW := GWt2 167 rfl rfl
set_option maxRecDepth 100000 in
theorem t_408 : Cond.methodLink RX11 106 yX7_forgetAll ∈ GW := GWt2 168 rfl rfl
set_option maxRecDepth 100000 in
theorem t_409 : Cond.instanceMethod yX7_forgetAll ∈ GW := GWt2 169 rfl rfl
set_option maxRecDepth 100000 in
theorem t_410 : Cond.selects RX7 yX7_forgetAll yX7_forgetAll ∈ GW := GWt2 170 rfl rfl
set_option maxRecDepth 100000 in
theorem t_411 : Cond.code yX7_forgetAll cX7_forgetAll 1 (none) ∈ GW := GWt2 171 rfl rfl
set_option maxRecDepth 100000 in
theorem t_412 : Cond.methodLink RX7 59 yJ7_fill_53178 ∈ GW := GWt2 172 rfl rfl
set_option maxRecDepth 100000 in
theorem t_413 : Cond.static yJ7_fill_53178 ∈ GW := GWt2 173 rfl rfl
set_option maxRecDepth 100000 in
theorem t_414 : Cond.code yJ7_fill_53178 cJ7_fill_53178 4 (none) ∈ GW := GWt2 174 rfl rfl
set_option maxRecDepth 100000 in
theorem t_415 : Cond.methodLink RL 18 yX11_feed ∈ GW := GWt2 175 rfl rfl
set_option maxRecDepth 100000 in
theorem t_416 : Cond.instanceMethod yX11_feed ∈ GW := GWt2 176 rfl rfl
set_option maxRecDepth 100000 in
theorem t_417 : Cond.selects RX11 yX11_feed yX11_feed ∈ GW := GWt2 177 rfl rfl
set_option maxRecDepth 100000 in
theorem t_418 : Cond.code yX11_feed cX11_feed 6 (some .int) ∈ GW := GWt2 178 rfl rfl
set_option maxRecDepth 100000 in
theorem t_419 : Cond.methodLink RX11 112 yX10_putFour ∈ GW := GWt2 179 rfl rfl
set_option maxRecDepth 100000 in
theorem t_420 : Cond.instanceMethod yX10_putFour ∈ GW := GWt2 180 rfl rfl
set_option maxRecDepth 100000 in
theorem t_421 : Cond.selects RX10 yX10_putFour yX10_putFour ∈ GW := GWt2 181 rfl rfl
set_option maxRecDepth 100000 in
theorem t_422 : Cond.code yX10_putFour cX10_putFour 3 (none) ∈ GW := GWt2 182 rfl rfl
set_option maxRecDepth 100000 in
theorem t_423 : Cond.methodLink RL 23 yX11_deal ∈ GW := GWt2 183 rfl rfl
set_option maxRecDepth 100000 in
theorem t_424 : Cond.instanceMethod yX11_deal ∈ GW := GWt2 184 rfl rfl
set_option maxRecDepth 100000 in
theorem t_425 : Cond.selects RX11 yX11_deal yX11_deal ∈ GW := GWt2 185 rfl rfl
set_option maxRecDepth 100000 in
theorem t_426 : Cond.code yX11_deal cX11_deal 5 (some .int) ∈ GW := GWt2 186 rfl rfl
set_option maxRecDepth 100000 in
theorem t_427 : Cond.methodLink RX11 119 yX11_refusalOf ∈ GW := GWt2 187 rfl rfl
set_option maxRecDepth 100000 in
theorem t_429 : Cond.instanceMethod yX11_refusalOf ∈ GW := GWt2 189 rfl rfl
set_option maxRecDepth 100000 in
theorem t_430 : Cond.code yX11_refusalOf cX11_refusalOf 4 (some .int) ∈ GW := GWt2 190 rfl rfl
set_option maxRecDepth 100000 in
theorem t_431 : Cond.instantiable RX1 13 ∈ GW := GWt2 191 rfl rfl
set_option maxRecDepth 100000 in
theorem t_432 : Cond.methodLink RX11 123 yX1_init ∈ GW := GWt2 192 rfl rfl
set_option maxRecDepth 100000 in
theorem t_433 : Cond.instanceMethod yX1_init ∈ GW := GWt2 193 rfl rfl
set_option maxRecDepth 100000 in
theorem t_434 : Cond.code yX1_init cX1_init 2 (none) ∈ GW := GWt2 194 rfl rfl
set_option maxRecDepth 100000 in
theorem t_435 : Cond.methodLink RX1 3 Lib.objectInit ∈ GW := GWt2 195 rfl rfl
set_option maxRecDepth 100000 in
theorem t_436 : Cond.fieldLink RX1 25 (TX1 0).1 (TX1 0).2.1 (TX1 0).2.2.1 ∈ GW := GWt2 196 rfl rfl
set_option maxRecDepth 100000 in
theorem t_437 : Cond.fieldLink RX4 105 (TX1 0).1 (TX1 0).2.1 (TX1 0).2.2.1 ∈ GW := GWt2 197 rfl rfl
set_option maxRecDepth 100000 in
theorem t_438 : Cond.fieldLink RX11 288 (TX1 0).1 (TX1 0).2.1 (TX1 0).2.2.1 ∈ GW := GWt2 198 rfl rfl
set_option maxRecDepth 100000 in
theorem t_439 : Cond.fieldLink RX11 132 (TX1 1).1 (TX1 1).2.1 (TX1 1).2.2.1 ∈ GW := GWt2 199 rfl rfl
set_option maxRecDepth 100000 in
theorem t_440 : Cond.fieldLink RX4 108 (TX1 1).1 (TX1 1).2.1 (TX1 1).2.2.1 ∈ GW := GWt2 200 rfl rfl
set_option maxRecDepth 100000 in
theorem t_441 : Cond.fieldLink RX1 29 (TX1 2).1 (TX1 2).2.1 (TX1 2).2.2.1 ∈ GW := GWt2 201 rfl rfl
set_option maxRecDepth 100000 in
theorem t_442 : Cond.fieldLink RX3 35 (TX1 2).1 (TX1 2).2.1 (TX1 2).2.2.1 ∈ GW := GWt2 202 rfl rfl
set_option maxRecDepth 100000 in
theorem t_443 : Cond.fieldLink RX2 109 (TX1 2).1 (TX1 2).2.1 (TX1 2).2.2.1 ∈ GW := GWt2 203 rfl rfl
set_option maxRecDepth 100000 in
theorem t_444 : Cond.fieldLink RX0 28 (TX1 2).1 (TX1 2).2.1 (TX1 2).2.2.1 ∈ GW := GWt2 204 rfl rfl
set_option maxRecDepth 100000 in
theorem t_445 : Cond.fieldLink RX11 152 (TX1 2).1 (TX1 2).2.1 (TX1 2).2.2.1 ∈ GW := GWt2 205 rfl rfl
set_option maxRecDepth 100000 in
theorem t_446 : Cond.fieldLink RX1 32 (TX1 3).1 (TX1 3).2.1 (TX1 3).2.2.1 ∈ GW := GWt2 206 rfl rfl
set_option maxRecDepth 100000 in
theorem t_447 : Cond.fieldLink RX4 43 (TX1 3).1 (TX1 3).2.1 (TX1 3).2.2.1 ∈ GW := GWt2 207 rfl rfl
set_option maxRecDepth 100000 in
theorem t_448 : Cond.fieldLink RX5 83 (TX1 3).1 (TX1 3).2.1 (TX1 3).2.2.1 ∈ GW := GWt2 208 rfl rfl
set_option maxRecDepth 100000 in
theorem t_449 : Cond.fieldLink RX0 25 (TX1 3).1 (TX1 3).2.1 (TX1 3).2.2.1 ∈ GW := GWt2 209 rfl rfl
set_option maxRecDepth 100000 in
theorem t_450 : Cond.fieldLink RX11 155 (TX1 3).1 (TX1 3).2.1 (TX1 3).2.2.1 ∈ GW := GWt2 210 rfl rfl
set_option maxRecDepth 100000 in
theorem t_451 : Cond.fieldLink RX2 182 (TX1 3).1 (TX1 3).2.1 (TX1 3).2.2.1 ∈ GW := GWt2 211 rfl rfl
set_option maxRecDepth 100000 in
theorem t_452 : Cond.fieldLink RX1 35 (TX1 4).1 (TX1 4).2.1 (TX1 4).2.2.1 ∈ GW := GWt2 212 rfl rfl
set_option maxRecDepth 100000 in
theorem t_453 : Cond.fieldLink RX4 54 (TX1 4).1 (TX1 4).2.1 (TX1 4).2.2.1 ∈ GW := GWt2 213 rfl rfl
set_option maxRecDepth 100000 in
theorem t_454 : Cond.fieldLink RX0 35 (TX1 4).1 (TX1 4).2.1 (TX1 4).2.2.1 ∈ GW := GWt2 214 rfl rfl
set_option maxRecDepth 100000 in
theorem t_455 : Cond.fieldLink RX11 158 (TX1 4).1 (TX1 4).2.1 (TX1 4).2.2.1 ∈ GW := GWt2 215 rfl rfl
set_option maxRecDepth 100000 in
theorem t_456 : Cond.fieldLink RX2 173 (TX1 4).1 (TX1 4).2.1 (TX1 4).2.2.1 ∈ GW := GWt2 216 rfl rfl
set_option maxRecDepth 100000 in
theorem t_457 : Cond.fieldLink RX1 38 (TX1 5).1 (TX1 5).2.1 (TX1 5).2.2.1 ∈ GW := GWt2 217 rfl rfl
set_option maxRecDepth 100000 in
theorem t_458 : Cond.fieldLink RX4 102 (TX1 5).1 (TX1 5).2.1 (TX1 5).2.2.1 ∈ GW := GWt2 218 rfl rfl
set_option maxRecDepth 100000 in
theorem t_459 : Cond.fieldLink RX11 165 (TX1 5).1 (TX1 5).2.1 (TX1 5).2.2.1 ∈ GW := GWt2 219 rfl rfl
set_option maxRecDepth 100000 in
theorem t_460 : Cond.fieldLink RX1 41 (TX1 6).1 (TX1 6).2.1 (TX1 6).2.2.1 ∈ GW := GWt2 220 rfl rfl
set_option maxRecDepth 100000 in
theorem t_461 : Cond.fieldLink RX5 63 (TX1 6).1 (TX1 6).2.1 (TX1 6).2.2.1 ∈ GW := GWt2 221 rfl rfl
set_option maxRecDepth 100000 in
theorem t_462 : Cond.fieldLink RX4 77 (TX1 6).1 (TX1 6).2.1 (TX1 6).2.2.1 ∈ GW := GWt2 222 rfl rfl
set_option maxRecDepth 100000 in
theorem t_463 : Cond.fieldLink RX0 54 (TX1 6).1 (TX1 6).2.1 (TX1 6).2.2.1 ∈ GW := GWt2 223 rfl rfl
set_option maxRecDepth 100000 in
theorem t_464 : Cond.fieldLink RX2 68 (TX1 7).1 (TX1 7).2.1 (TX1 7).2.2.1 ∈ GW := GWt2 224 rfl rfl
set_option maxRecDepth 100000 in
theorem t_465 : Cond.fieldLink RX11 171 (TX1 7).1 (TX1 7).2.1 (TX1 7).2.2.1 ∈ GW := GWt2 225 rfl rfl
set_option maxRecDepth 100000 in
theorem t_466 : Cond.fieldLink RX2 75 (TX1 8).1 (TX1 8).2.1 (TX1 8).2.2.1 ∈ GW := GWt2 226 rfl rfl
set_option maxRecDepth 100000 in
theorem t_467 : Cond.fieldLink RX11 174 (TX1 8).1 (TX1 8).2.1 (TX1 8).2.2.1 ∈ GW := GWt2 227 rfl rfl
set_option maxRecDepth 100000 in
theorem t_468 : Cond.fieldLink RX1 9 (TX1 9).1 (TX1 9).2.1 (TX1 9).2.2.1 ∈ GW := GWt2 228 rfl rfl
set_option maxRecDepth 100000 in
theorem t_469 : Cond.fieldLink RX3 38 (TX1 9).1 (TX1 9).2.1 (TX1 9).2.2.1 ∈ GW := GWt2 229 rfl rfl
set_option maxRecDepth 100000 in
theorem t_470 : Cond.fieldLink RX11 168 (TX1 9).1 (TX1 9).2.1 (TX1 9).2.2.1 ∈ GW := GWt2 230 rfl rfl
set_option maxRecDepth 100000 in
theorem t_471 : Cond.fieldLink RX1 15 (TX1 10).1 (TX1 10).2.1 (TX1 10).2.2.1 ∈ GW := GWt2 231 rfl rfl
set_option maxRecDepth 100000 in
theorem t_472 : Cond.fieldLink RX5 68 (TX1 10).1 (TX1 10).2.1 (TX1 10).2.2.1 ∈ GW := GWt2 232 rfl rfl
set_option maxRecDepth 100000 in
theorem t_473 : Cond.fieldLink RX4 80 (TX1 10).1 (TX1 10).2.1 (TX1 10).2.2.1 ∈ GW := GWt2 233 rfl rfl
set_option maxRecDepth 100000 in
theorem t_474 : Cond.fieldLink RX0 65 (TX1 10).1 (TX1 10).2.1 (TX1 10).2.2.1 ∈ GW := GWt2 234 rfl rfl
set_option maxRecDepth 100000 in
theorem t_475 : Cond.fieldLink RX1 18 (TX1 11).1 (TX1 11).2.1 (TX1 11).2.2.1 ∈ GW := GWt2 235 rfl rfl
set_option maxRecDepth 100000 in
theorem t_476 : Cond.fieldLink RX5 86 (TX1 11).1 (TX1 11).2.1 (TX1 11).2.2.1 ∈ GW := GWt2 236 rfl rfl
set_option maxRecDepth 100000 in
theorem t_477 : Cond.fieldLink RX4 87 (TX1 11).1 (TX1 11).2.1 (TX1 11).2.2.1 ∈ GW := GWt2 237 rfl rfl
set_option maxRecDepth 100000 in
theorem t_478 : Cond.fieldLink RX0 61 (TX1 11).1 (TX1 11).2.1 (TX1 11).2.2.1 ∈ GW := GWt2 238 rfl rfl
set_option maxRecDepth 100000 in
theorem t_479 : Cond.fieldLink RX1 22 (TX1 12).1 (TX1 12).2.1 (TX1 12).2.2.1 ∈ GW := GWt2 239 rfl rfl
set_option maxRecDepth 100000 in
theorem t_480 : Cond.fieldLink RX5 136 (TX1 12).1 (TX1 12).2.1 (TX1 12).2.2.1 ∈ GW := GWt3 0 rfl rfl
set_option maxRecDepth 100000 in
theorem t_508 : Cond.methodLink RX11 125 yX10_open ∈ GW := GWt3 28 rfl rfl
set_option maxRecDepth 100000 in
theorem t_509 : Cond.instanceMethod yX10_open ∈ GW := GWt3 29 rfl rfl
set_option maxRecDepth 100000 in
theorem t_510 : Cond.selects RX10 yX10_open yX10_open ∈ GW := GWt3 30 rfl rfl
set_option maxRecDepth 100000 in
theorem t_511 : Cond.code yX10_open cX10_open 2 (none) ∈ GW := GWt3 31 rfl rfl
set_option maxRecDepth 100000 in
theorem t_512 : Cond.methodLink RX10 22 yJ9_min_7cf53 ∈ GW := GWt3 32 rfl rfl
set_option maxRecDepth 100000 in
theorem t_513 : Cond.static yJ9_min_7cf53 ∈ GW := GWt3 33 rfl rfl
set_option maxRecDepth 100000 in
theorem t_514 : Cond.code yJ9_min_7cf53 cJ9_min_7cf53 2 (some .int) ∈ GW := GWt3 34 rfl rfl
set_option maxRecDepth 100000 in
theorem t_515 : Cond.methodLink RX10 34 yX10_advance ∈ GW := GWt3 35 rfl rfl
set_option maxRecDepth 100000 in
theorem t_516 : Cond.instanceMethod yX10_advance ∈ GW := GWt3 36 rfl rfl
set_option maxRecDepth 100000 in
theorem t_517 : Cond.selects RX10 yX10_advance yX10_advance ∈ GW := GWt3 37 rfl rfl
set_option maxRecDepth 100000 in
theorem t_518 : Cond.code yX10_advance cX10_advance 1 (none) ∈ GW := GWt3 38 rfl rfl
set_option maxRecDepth 100000 in
theorem t_519 : Cond.methodLink RX11 128 yX2_readDeal ∈ GW := GWt3 39 rfl rfl
set_option maxRecDepth 100000 in
theorem t_520 : Cond.instanceMethod yX2_readDeal ∈ GW := GWt3 40 rfl rfl
set_option maxRecDepth 100000 in
theorem t_521 : Cond.selects RX2 yX2_readDeal yX2_readDeal ∈ GW := GWt3 41 rfl rfl
set_option maxRecDepth 100000 in
theorem t_522 : Cond.code yX2_readDeal cX2_readDeal 2 (some .boolean) ∈ GW := GWt3 42 rfl rfl
set_option maxRecDepth 100000 in
theorem t_523 : Cond.methodLink RX2 30 yX1_empty ∈ GW := GWt3 43 rfl rfl
set_option maxRecDepth 100000 in
theorem t_524 : Cond.instanceMethod yX1_empty ∈ GW := GWt3 44 rfl rfl
set_option maxRecDepth 100000 in
theorem t_525 : Cond.selects RX1 yX1_empty yX1_empty ∈ GW := GWt3 45 rfl rfl
set_option maxRecDepth 100000 in
theorem t_526 : Cond.code yX1_empty cX1_empty 1 (none) ∈ GW := GWt3 46 rfl rfl
set_option maxRecDepth 100000 in
theorem t_527 : Cond.methodLink RX2 35 yX8_empty ∈ GW := GWt3 47 rfl rfl
set_option maxRecDepth 100000 in
theorem t_528 : Cond.instanceMethod yX8_empty ∈ GW := GWt3 48 rfl rfl
set_option maxRecDepth 100000 in
theorem t_529 : Cond.selects RX8 yX8_empty yX8_empty ∈ GW := GWt3 49 rfl rfl
set_option maxRecDepth 100000 in
theorem t_530 : Cond.code yX8_empty cX8_empty 1 (none) ∈ GW := GWt3 50 rfl rfl
set_option maxRecDepth 100000 in
theorem t_531 : Cond.methodLink RX2 49 yX2_readAll ∈ GW := GWt3 51 rfl rfl
set_option maxRecDepth 100000 in
theorem t_533 : Cond.instanceMethod yX2_readAll ∈ GW := GWt3 53 rfl rfl
set_option maxRecDepth 100000 in
theorem t_534 : Cond.code yX2_readAll cX2_readAll 3 (some .boolean) ∈ GW := GWt3 54 rfl rfl
set_option maxRecDepth 100000 in
theorem t_535 : Cond.methodLink RX2 78 yX2_readPart ∈ GW := GWt3 55 rfl rfl
set_option maxRecDepth 100000 in
theorem t_537 : Cond.instanceMethod yX2_readPart ∈ GW := GWt3 57 rfl rfl
set_option maxRecDepth 100000 in
theorem t_538 : Cond.code yX2_readPart cX2_readPart 3 (some .boolean) ∈ GW := GWt3 58 rfl rfl
set_option maxRecDepth 100000 in
theorem t_540 : Cond.methodLink RX2 90 yX10_placeIn ∈ GW := GWt3 60 rfl rfl
set_option maxRecDepth 100000 in
theorem t_541 : Cond.instanceMethod yX10_placeIn ∈ GW := GWt3 61 rfl rfl
set_option maxRecDepth 100000 in
theorem t_542 : Cond.selects RX10 yX10_placeIn yX10_placeIn ∈ GW := GWt3 62 rfl rfl
set_option maxRecDepth 100000 in
theorem t_543 : Cond.code yX10_placeIn cX10_placeIn 6 (some .int) ∈ GW := GWt3 63 rfl rfl
set_option maxRecDepth 100000 in
theorem t_544 : Cond.methodLink RX10 51 yJ0_length_8abf5 ∈ GW := GWt3 64 rfl rfl
set_option maxRecDepth 100000 in
theorem t_545 : Cond.instanceMethod yJ0_length_8abf5 ∈ GW := GWt3 65 rfl rfl
set_option maxRecDepth 100000 in
theorem t_546 : Cond.selects RJ0 yJ0_length_8abf5 yJ0_length_8abf5 ∈ GW := GWt3 66 rfl rfl
set_option maxRecDepth 100000 in
theorem t_547 : Cond.code yJ0_length_8abf5 cJ0_length_8abf5 1 (some .int) ∈ GW := GWt3 67 rfl rfl
set_option maxRecDepth 100000 in
theorem t_548 : Cond.methodLink RJ0 335 yJ0_coder_7d493 ∈ GW := GWt3 68 rfl rfl
set_option maxRecDepth 100000 in
theorem t_549 : Cond.instanceMethod yJ0_coder_7d493 ∈ GW := GWt3 69 rfl rfl
set_option maxRecDepth 100000 in
theorem t_550 : Cond.selects RJ0 yJ0_coder_7d493 yJ0_coder_7d493 ∈ GW := GWt3 70 rfl rfl
set_option maxRecDepth 100000 in
theorem t_551 : Cond.code yJ0_coder_7d493 cJ0_coder_7d493 1 (some .byte) ∈ GW := GWt3 71 rfl rfl
set_option maxRecDepth 100000 in
theorem t_552 : Cond.fieldLink RJ0 38 "java/lang/String" "COMPACT_STRINGS" "Z" ∈ GW := GWt3 72 rfl rfl
set_option maxRecDepth 100000 in
theorem t_554 : Cond.methodLink RX10 56 yJ0_charAt_5068e ∈ GW := GWt3 74 rfl rfl
set_option maxRecDepth 100000 in
theorem t_555 : Cond.instanceMethod yJ0_charAt_5068e ∈ GW := GWt3 75 rfl rfl
set_option maxRecDepth 100000 in
theorem t_556 : Cond.selects RJ0 yJ0_charAt_5068e yJ0_charAt_5068e ∈ GW := GWt3 76 rfl rfl
set_option maxRecDepth 100000 in
theorem t_557 : Cond.code yJ0_charAt_5068e cJ0_charAt_5068e 2 (some .char) ∈ GW := GWt3 77 rfl rfl
set_option maxRecDepth 100000 in
theorem t_558 : Cond.methodLink RJ0 492 yJ0_isLatin1_aae02 ∈ GW := GWt3 78 rfl rfl
set_option maxRecDepth 100000 in
theorem t_559 : Cond.instanceMethod yJ0_isLatin1_aae02 ∈ GW := GWt3 79 rfl rfl
set_option maxRecDepth 100000 in
theorem t_560 : Cond.selects RJ0 yJ0_isLatin1_aae02 yJ0_isLatin1_aae02 ∈ GW := GWt3 80 rfl rfl
set_option maxRecDepth 100000 in
theorem t_561 : Cond.code yJ0_isLatin1_aae02 cJ0_isLatin1_aae02 1 (some .boolean) ∈ GW := GWt3 81 rfl rfl
set_option maxRecDepth 100000 in
theorem t_562 : Cond.methodLink RJ0 495 yJ1_charAt_3b067 ∈ GW := GWt3 82 rfl rfl
set_option maxRecDepth 100000 in
theorem t_563 : Cond.static yJ1_charAt_3b067 ∈ GW := GWt3 83 rfl rfl
set_option maxRecDepth 100000 in
theorem t_564 : Cond.code yJ1_charAt_3b067 cJ1_charAt_3b067 2 (some .char) ∈ GW := GWt3 84 rfl rfl
set_option maxRecDepth 100000 in
theorem t_565 : Cond.methodLink RJ1 9 yJ0_checkIndex_df160 ∈ GW := GWt3 85 rfl rfl
set_option maxRecDepth 100000 in
theorem t_566 : Cond.static yJ0_checkIndex_df160 ∈ GW := GWt3 86 rfl rfl
set_option maxRecDepth 100000 in
theorem t_567 : Cond.code yJ0_checkIndex_df160 cJ0_checkIndex_df160 2 (none) ∈ GW := GWt3 87 rfl rfl
set_option maxRecDepth 100000 in
theorem t_568 : Cond.fieldLink RJ0 1053 "jdk/internal/util/Preconditions" "SIOOBE_FORMATTER" "Ljava/util/function/BiFunction;" ∈ GW := GWt3 88 rfl rfl
set_option maxRecDepth 100000 in
theorem t_570 : Cond.methodLink RJ0 1059 yJ3_checkIndex_8e157 ∈ GW := GWt3 90 rfl rfl
set_option maxRecDepth 100000 in
theorem t_571 : Cond.static yJ3_checkIndex_8e157 ∈ GW := GWt3 91 rfl rfl
set_option maxRecDepth 100000 in
theorem t_572 : Cond.code yJ3_checkIndex_8e157 cJ3_checkIndex_8e157 3 (some .int) ∈ GW := GWt3 92 rfl rfl
set_option maxRecDepth 100000 in
theorem t_573 : Cond.methodLink RJ0 498 yJ2_charAt_3b067 ∈ GW := GWt3 93 rfl rfl
set_option maxRecDepth 100000 in
theorem t_574 : Cond.static yJ2_charAt_3b067 ∈ GW := GWt3 94 rfl rfl
set_option maxRecDepth 100000 in
theorem t_575 : Cond.code yJ2_charAt_3b067 cJ2_charAt_3b067 2 (some .char) ∈ GW := GWt3 95 rfl rfl
set_option maxRecDepth 100000 in
theorem t_576 : Cond.methodLink RJ2 67 yJ2_checkIndex_2214a ∈ GW := GWt3 96 rfl rfl
set_option maxRecDepth 100000 in
theorem t_577 : Cond.static yJ2_checkIndex_2214a ∈ GW := GWt3 97 rfl rfl
set_option maxRecDepth 100000 in
theorem t_578 : Cond.code yJ2_checkIndex_2214a cJ2_checkIndex_2214a 2 (none) ∈ GW := GWt3 98 rfl rfl
set_option maxRecDepth 100000 in
theorem t_579 : Cond.methodLink RJ2 48 yJ2_length_9d52b ∈ GW := GWt3 99 rfl rfl
set_option maxRecDepth 100000 in
theorem t_580 : Cond.static yJ2_length_9d52b ∈ GW := GWt3 100 rfl rfl
set_option maxRecDepth 100000 in
theorem t_581 : Cond.code yJ2_length_9d52b cJ2_length_9d52b 1 (some .int) ∈ GW := GWt3 101 rfl rfl
set_option maxRecDepth 100000 in
theorem t_582 : Cond.methodLink RJ2 414 yJ0_checkIndex_df160 ∈ GW := GWt3 102 rfl rfl
set_option maxRecDepth 100000 in
theorem t_583 : Cond.methodLink RJ2 71 yJ2_getChar_3b067 ∈ GW := GWt3 103 rfl rfl
set_option maxRecDepth 100000 in
theorem t_584 : Cond.static yJ2_getChar_3b067 ∈ GW := GWt3 104 rfl rfl
set_option maxRecDepth 100000 in
theorem t_585 : Cond.code yJ2_getChar_3b067 cJ2_getChar_3b067 2 (some .char) ∈ GW := GWt3 105 rfl rfl
set_option maxRecDepth 100000 in
theorem t_586 : Cond.fieldLink RJ2 44 "java/lang/StringUTF16" "$assertionsDisabled" "Z" ∈ GW := GWt3 106 rfl rfl
set_option maxRecDepth 100000 in
theorem t_588 : Cond.fieldLink RJ2 59 "java/lang/StringUTF16" "HI_BYTE_SHIFT" "I" ∈ GW := GWt3 108 rfl rfl
set_option maxRecDepth 100000 in
theorem t_590 : Cond.fieldLink RJ2 63 "java/lang/StringUTF16" "LO_BYTE_SHIFT" "I" ∈ GW := GWt3 110 rfl rfl
set_option maxRecDepth 100000 in
theorem t_592 : Cond.methodLink RX2 94 yX2_readLeaf ∈ GW := GWt3 112 rfl rfl
set_option maxRecDepth 100000 in
theorem t_594 : Cond.instanceMethod yX2_readLeaf ∈ GW := GWt3 114 rfl rfl
set_option maxRecDepth 100000 in
theorem t_595 : Cond.code yX2_readLeaf cX2_readLeaf 2 (some .boolean) ∈ GW := GWt3 115 rfl rfl
set_option maxRecDepth 100000 in
theorem t_596 : Cond.methodLink RX2 59 yX10_refuse ∈ GW := GWt3 116 rfl rfl
set_option maxRecDepth 100000 in
theorem t_597 : Cond.instanceMethod yX10_refuse ∈ GW := GWt3 117 rfl rfl
set_option maxRecDepth 100000 in
theorem t_598 : Cond.selects RX10 yX10_refuse yX10_refuse ∈ GW := GWt3 118 rfl rfl
set_option maxRecDepth 100000 in
theorem t_599 : Cond.code yX10_refuse cX10_refuse 1 (some .boolean) ∈ GW := GWt3 119 rfl rfl
set_option maxRecDepth 100000 in
theorem t_600 : Cond.methodLink RX2 85 yX10_advance ∈ GW := GWt3 120 rfl rfl
set_option maxRecDepth 100000 in
theorem t_601 : Cond.methodLink RX2 112 yX2_readTwo ∈ GW := GWt3 121 rfl rfl
set_option maxRecDepth 100000 in
theorem t_603 : Cond.instanceMethod yX2_readTwo ∈ GW := GWt3 123 rfl rfl
set_option maxRecDepth 100000 in
theorem t_604 : Cond.code yX2_readTwo cX2_readTwo 1 (some .boolean) ∈ GW := GWt3 124 rfl rfl
set_option maxRecDepth 100000 in
theorem t_606 : Cond.methodLink RX2 137 yX10_takeOneOf ∈ GW := GWt3 126 rfl rfl
set_option maxRecDepth 100000 in
theorem t_607 : Cond.instanceMethod yX10_takeOneOf ∈ GW := GWt3 127 rfl rfl
set_option maxRecDepth 100000 in
theorem t_608 : Cond.selects RX10 yX10_takeOneOf yX10_takeOneOf ∈ GW := GWt3 128 rfl rfl
set_option maxRecDepth 100000 in
theorem t_609 : Cond.code yX10_takeOneOf cX10_takeOneOf 3 (some .int) ∈ GW := GWt3 129 rfl rfl
set_option maxRecDepth 100000 in
theorem t_610 : Cond.methodLink RX10 60 yX10_placeIn ∈ GW := GWt3 130 rfl rfl
set_option maxRecDepth 100000 in
theorem t_611 : Cond.methodLink RX10 47 yX10_refuse ∈ GW := GWt3 131 rfl rfl
set_option maxRecDepth 100000 in
theorem t_612 : Cond.methodLink RX2 115 yX2_readSo ∈ GW := GWt3 132 rfl rfl
set_option maxRecDepth 100000 in
theorem t_614 : Cond.instanceMethod yX2_readSo ∈ GW := GWt3 134 rfl rfl
set_option maxRecDepth 100000 in
theorem t_615 : Cond.code yX2_readSo cX2_readSo 1 (some .boolean) ∈ GW := GWt3 135 rfl rfl
set_option maxRecDepth 100000 in
theorem t_617 : Cond.methodLink RX2 142 yX10_takeNumber ∈ GW := GWt3 137 rfl rfl
set_option maxRecDepth 100000 in
theorem t_618 : Cond.instanceMethod yX10_takeNumber ∈ GW := GWt3 138 rfl rfl
set_option maxRecDepth 100000 in
theorem t_619 : Cond.selects RX10 yX10_takeNumber yX10_takeNumber ∈ GW := GWt3 139 rfl rfl
set_option maxRecDepth 100000 in
theorem t_620 : Cond.code yX10_takeNumber cX10_takeNumber 5 (some .int) ∈ GW := GWt3 140 rfl rfl
set_option maxRecDepth 100000 in
theorem t_621 : Cond.methodLink RX2 118 yX2_readPay ∈ GW := GWt3 141 rfl rfl
set_option maxRecDepth 100000 in
theorem t_623 : Cond.instanceMethod yX2_readPay ∈ GW := GWt3 143 rfl rfl
set_option maxRecDepth 100000 in
theorem t_624 : Cond.code yX2_readPay cX2_readPay 2 (some .boolean) ∈ GW := GWt3 144 rfl rfl
set_option maxRecDepth 100000 in
theorem t_626 : Cond.methodLink RX2 148 yX10_takeWord ∈ GW := GWt3 146 rfl rfl
set_option maxRecDepth 100000 in
theorem t_627 : Cond.instanceMethod yX10_takeWord ∈ GW := GWt3 147 rfl rfl
set_option maxRecDepth 100000 in
theorem t_628 : Cond.selects RX10 yX10_takeWord yX10_takeWord ∈ GW := GWt3 148 rfl rfl
set_option maxRecDepth 100000 in
theorem t_629 : Cond.code yX10_takeWord cX10_takeWord 2 (some .boolean) ∈ GW := GWt3 149 rfl rfl
set_option maxRecDepth 100000 in
theorem t_630 : Cond.methodLink RX10 64 yX10_isWord ∈ GW := GWt3 150 rfl rfl
set_option maxRecDepth 100000 in
theorem t_631 : Cond.instanceMethod yX10_isWord ∈ GW := GWt3 151 rfl rfl
set_option maxRecDepth 100000 in
theorem t_632 : Cond.selects RX10 yX10_isWord yX10_isWord ∈ GW := GWt3 152 rfl rfl
set_option maxRecDepth 100000 in
theorem t_633 : Cond.code yX10_isWord cX10_isWord 2 (some .boolean) ∈ GW := GWt3 153 rfl rfl
set_option maxRecDepth 100000 in
theorem t_634 : Cond.methodLink RX2 121 yX2_readDays ∈ GW := GWt3 154 rfl rfl
set_option maxRecDepth 100000 in
theorem t_636 : Cond.instanceMethod yX2_readDays ∈ GW := GWt3 156 rfl rfl
set_option maxRecDepth 100000 in
theorem t_637 : Cond.code yX2_readDays cX2_readDays 3 (some .boolean) ∈ GW := GWt3 157 rfl rfl
set_option maxRecDepth 100000 in
theorem t_640 : Cond.methodLink RX2 156 yX10_isWord ∈ GW := GWt3 160 rfl rfl
set_option maxRecDepth 100000 in
theorem t_642 : Cond.methodLink RX2 124 yX8_putLeaf ∈ GW := GWt3 162 rfl rfl
set_option maxRecDepth 100000 in
theorem t_643 : Cond.instanceMethod yX8_putLeaf ∈ GW := GWt3 163 rfl rfl
set_option maxRecDepth 100000 in
theorem t_644 : Cond.selects RX8 yX8_putLeaf yX8_putLeaf ∈ GW := GWt3 164 rfl rfl
set_option maxRecDepth 100000 in
theorem t_645 : Cond.code yX8_putLeaf cX8_putLeaf 2 (none) ∈ GW := GWt3 165 rfl rfl
set_option maxRecDepth 100000 in
theorem t_646 : Cond.methodLink RX8 22 yX8_hasRoom ∈ GW := GWt3 166 rfl rfl
set_option maxRecDepth 100000 in
theorem t_648 : Cond.instanceMethod yX8_hasRoom ∈ GW := GWt3 168 rfl rfl
set_option maxRecDepth 100000 in
theorem t_649 : Cond.code yX8_hasRoom cX8_hasRoom 2 (some .boolean) ∈ GW := GWt3 169 rfl rfl
set_option maxRecDepth 100000 in
theorem t_650 : Cond.methodLink RX8 26 arraycopyName ∈ GW := GWt3 170 rfl rfl
set_option maxRecDepth 100000 in
theorem t_651 : Cond.static arraycopyName ∈ GW := GWt3 171 rfl rfl
set_option maxRecDepth 100000 in
theorem t_652 : Cond.native arraycopyName ∈ GW := GWt3 172 rfl rfl
set_option maxRecDepth 100000 in
theorem t_653 : Cond.methodLink RX2 128 yX1_putLeaf ∈ GW := GWt3 173 rfl rfl
set_option maxRecDepth 100000 in
theorem t_654 : Cond.instanceMethod yX1_putLeaf ∈ GW := GWt3 174 rfl rfl
set_option maxRecDepth 100000 in
theorem t_655 : Cond.selects RX1 yX1_putLeaf yX1_putLeaf ∈ GW := GWt3 175 rfl rfl
set_option maxRecDepth 100000 in
theorem t_656 : Cond.code yX1_putLeaf cX1_putLeaf 4 (none) ∈ GW := GWt3 176 rfl rfl
set_option maxRecDepth 100000 in
theorem t_657 : Cond.methodLink RX1 44 arraycopyName ∈ GW := GWt3 177 rfl rfl
set_option maxRecDepth 100000 in
theorem t_658 : Cond.methodLink RX2 131 yX1_putRows ∈ GW := GWt3 178 rfl rfl
set_option maxRecDepth 100000 in
theorem t_659 : Cond.instanceMethod yX1_putRows ∈ GW := GWt3 179 rfl rfl
set_option maxRecDepth 100000 in
theorem t_660 : Cond.selects RX1 yX1_putRows yX1_putRows ∈ GW := GWt3 180 rfl rfl
set_option maxRecDepth 100000 in
theorem t_661 : Cond.code yX1_putRows cX1_putRows 9 (none) ∈ GW := GWt3 181 rfl rfl
set_option maxRecDepth 100000 in
theorem t_662 : Cond.methodLink RX1 50 yX1_putRow ∈ GW := GWt3 182 rfl rfl
set_option maxRecDepth 100000 in
theorem t_664 : Cond.instanceMethod yX1_putRow ∈ GW := GWt3 184 rfl rfl
set_option maxRecDepth 100000 in
theorem t_665 : Cond.code yX1_putRow cX1_putRow 9 (none) ∈ GW := GWt3 185 rfl rfl
set_option maxRecDepth 100000 in
theorem t_666 : Cond.methodLink RX2 97 yX2_readAfter ∈ GW := GWt3 186 rfl rfl
set_option maxRecDepth 100000 in
theorem t_668 : Cond.instanceMethod yX2_readAfter ∈ GW := GWt3 188 rfl rfl
set_option maxRecDepth 100000 in
theorem t_669 : Cond.code yX2_readAfter cX2_readAfter 5 (some .boolean) ∈ GW := GWt3 189 rfl rfl
set_option maxRecDepth 100000 in
theorem t_670 : Cond.methodLink RX2 161 yX8_begin ∈ GW := GWt3 190 rfl rfl
set_option maxRecDepth 100000 in
theorem t_671 : Cond.instanceMethod yX8_begin ∈ GW := GWt3 191 rfl rfl
set_option maxRecDepth 100000 in
theorem t_672 : Cond.selects RX8 yX8_begin yX8_begin ∈ GW := GWt3 192 rfl rfl
set_option maxRecDepth 100000 in
theorem t_673 : Cond.code yX8_begin cX8_begin 4 (some .int) ∈ GW := GWt3 193 rfl rfl
set_option maxRecDepth 100000 in
theorem t_674 : Cond.methodLink RX2 164 yX2_readBlock ∈ GW := GWt3 194 rfl rfl
set_option maxRecDepth 100000 in
theorem t_676 : Cond.instanceMethod yX2_readBlock ∈ GW := GWt3 196 rfl rfl
set_option maxRecDepth 100000 in
theorem t_677 : Cond.code yX2_readBlock cX2_readBlock 2 (some .boolean) ∈ GW := GWt3 197 rfl rfl
set_option maxRecDepth 100000 in
theorem t_678 : Cond.methodLink RX2 197 yX10_takeSign ∈ GW := GWt3 198 rfl rfl
set_option maxRecDepth 100000 in
theorem t_679 : Cond.instanceMethod yX10_takeSign ∈ GW := GWt3 199 rfl rfl
set_option maxRecDepth 100000 in
theorem t_680 : Cond.selects RX10 yX10_takeSign yX10_takeSign ∈ GW := GWt3 200 rfl rfl
set_option maxRecDepth 100000 in
theorem t_681 : Cond.code yX10_takeSign cX10_takeSign 2 (some .boolean) ∈ GW := GWt3 201 rfl rfl
set_option maxRecDepth 100000 in
theorem t_682 : Cond.methodLink RX10 43 yX10_isSign ∈ GW := GWt3 202 rfl rfl
set_option maxRecDepth 100000 in
theorem t_683 : Cond.instanceMethod yX10_isSign ∈ GW := GWt3 203 rfl rfl
set_option maxRecDepth 100000 in
theorem t_684 : Cond.selects RX10 yX10_isSign yX10_isSign ∈ GW := GWt3 204 rfl rfl
set_option maxRecDepth 100000 in
theorem t_685 : Cond.code yX10_isSign cX10_isSign 2 (some .boolean) ∈ GW := GWt3 205 rfl rfl
set_option maxRecDepth 100000 in
theorem t_686 : Cond.methodLink RX2 167 yX8_endOne ∈ GW := GWt3 206 rfl rfl
set_option maxRecDepth 100000 in
theorem t_687 : Cond.instanceMethod yX8_endOne ∈ GW := GWt3 207 rfl rfl
set_option maxRecDepth 100000 in
theorem t_688 : Cond.selects RX8 yX8_endOne yX8_endOne ∈ GW := GWt3 208 rfl rfl
set_option maxRecDepth 100000 in
theorem t_689 : Cond.code yX8_endOne cX8_endOne 6 (none) ∈ GW := GWt3 209 rfl rfl
set_option maxRecDepth 100000 in
theorem t_690 : Cond.methodLink RX8 32 yX8_isBegun ∈ GW := GWt3 210 rfl rfl
set_option maxRecDepth 100000 in
theorem t_692 : Cond.instanceMethod yX8_isBegun ∈ GW := GWt3 212 rfl rfl
set_option maxRecDepth 100000 in
theorem t_693 : Cond.code yX8_isBegun cX8_isBegun 2 (some .boolean) ∈ GW := GWt3 213 rfl rfl
set_option maxRecDepth 100000 in
theorem t_694 : Cond.methodLink RX8 35 yX8_lift ∈ GW := GWt3 214 rfl rfl
set_option maxRecDepth 100000 in
theorem t_696 : Cond.instanceMethod yX8_lift ∈ GW := GWt3 216 rfl rfl
set_option maxRecDepth 100000 in
theorem t_697 : Cond.code yX8_lift cX8_lift 4 (none) ∈ GW := GWt3 217 rfl rfl
set_option maxRecDepth 100000 in
theorem t_698 : Cond.methodLink RX8 39 yX8_isJustAfter ∈ GW := GWt3 218 rfl rfl
set_option maxRecDepth 100000 in
theorem t_700 : Cond.instanceMethod yX8_isJustAfter ∈ GW := GWt3 220 rfl rfl
set_option maxRecDepth 100000 in
theorem t_701 : Cond.code yX8_isJustAfter cX8_isJustAfter 3 (some .boolean) ∈ GW := GWt3 221 rfl rfl
set_option maxRecDepth 100000 in
theorem t_702 : Cond.methodLink RX2 100 yX2_readTimes ∈ GW := GWt3 222 rfl rfl
set_option maxRecDepth 100000 in
theorem t_704 : Cond.instanceMethod yX2_readTimes ∈ GW := GWt3 224 rfl rfl
set_option maxRecDepth 100000 in
theorem t_705 : Cond.code yX2_readTimes cX2_readTimes 6 (some .boolean) ∈ GW := GWt3 225 rfl rfl
set_option maxRecDepth 100000 in
theorem t_706 : Cond.methodLink RX2 103 yX2_readIf ∈ GW := GWt3 226 rfl rfl
set_option maxRecDepth 100000 in
theorem t_708 : Cond.instanceMethod yX2_readIf ∈ GW := GWt3 228 rfl rfl
set_option maxRecDepth 100000 in
theorem t_709 : Cond.code yX2_readIf cX2_readIf 3 (some .boolean) ∈ GW := GWt3 229 rfl rfl
set_option maxRecDepth 100000 in
theorem t_712 : Cond.methodLink RX2 178 yX2_readBranches ∈ GW := GWt3 232 rfl rfl
set_option maxRecDepth 100000 in
theorem t_714 : Cond.instanceMethod yX2_readBranches ∈ GW := GWt3 234 rfl rfl
set_option maxRecDepth 100000 in
theorem t_715 : Cond.code yX2_readBranches cX2_readBranches 7 (some .boolean) ∈ GW := GWt3 235 rfl rfl
set_option maxRecDepth 100000 in
theorem t_716 : Cond.methodLink RX2 187 yX2_readBranch ∈ GW := GWt3 236 rfl rfl
set_option maxRecDepth 100000 in
theorem t_718 : Cond.instanceMethod yX2_readBranch ∈ GW := GWt3 238 rfl rfl
set_option maxRecDepth 100000 in
theorem t_719 : Cond.code yX2_readBranch cX2_readBranch 8 (some .boolean) ∈ GW := GWt3 239 rfl rfl
set_option maxRecDepth 100000 in
theorem t_720 : Cond.methodLink RX2 191 yX8_turn ∈ GW := GWt4 0 rfl rfl
set_option maxRecDepth 100000 in
theorem t_721 : Cond.instanceMethod yX8_turn ∈ GW := GWt4 1 rfl rfl
set_option maxRecDepth 100000 in
theorem t_722 : Cond.selects RX8 yX8_turn yX8_turn ∈ GW := GWt4 2 rfl rfl
set_option maxRecDepth 100000 in
theorem t_723 : Cond.code yX8_turn cX8_turn 2 (none) ∈ GW := GWt4 3 rfl rfl
set_option maxRecDepth 100000 in
theorem t_724 : Cond.methodLink RX2 194 yX8_endTwo ∈ GW := GWt4 4 rfl rfl
set_option maxRecDepth 100000 in
theorem t_725 : Cond.instanceMethod yX8_endTwo ∈ GW := GWt4 5 rfl rfl
set_option maxRecDepth 100000 in
theorem t_726 : Cond.selects RX8 yX8_endTwo yX8_endTwo ∈ GW := GWt4 6 rfl rfl
set_option maxRecDepth 100000 in
theorem t_727 : Cond.code yX8_endTwo cX8_endTwo 6 (none) ∈ GW := GWt4 7 rfl rfl
set_option maxRecDepth 100000 in
theorem t_728 : Cond.methodLink RX8 43 yX8_isAlike ∈ GW := GWt4 8 rfl rfl
set_option maxRecDepth 100000 in
theorem t_730 : Cond.instanceMethod yX8_isAlike ∈ GW := GWt4 10 rfl rfl
set_option maxRecDepth 100000 in
theorem t_731 : Cond.code yX8_isAlike cX8_isAlike 5 (some .boolean) ∈ GW := GWt4 11 rfl rfl
set_option maxRecDepth 100000 in
theorem t_732 : Cond.methodLink RX2 106 yX2_readChoice ∈ GW := GWt4 12 rfl rfl
set_option maxRecDepth 100000 in
theorem t_734 : Cond.instanceMethod yX2_readChoice ∈ GW := GWt4 14 rfl rfl
set_option maxRecDepth 100000 in
theorem t_735 : Cond.code yX2_readChoice cX2_readChoice 4 (some .boolean) ∈ GW := GWt4 15 rfl rfl
set_option maxRecDepth 100000 in
theorem t_737 : Cond.methodLink RX2 81 yX10_isSign ∈ GW := GWt4 17 rfl rfl
set_option maxRecDepth 100000 in
theorem t_738 : Cond.methodLink RX2 53 yX10_isAtEnd ∈ GW := GWt4 18 rfl rfl
set_option maxRecDepth 100000 in
theorem t_739 : Cond.instanceMethod yX10_isAtEnd ∈ GW := GWt4 19 rfl rfl
set_option maxRecDepth 100000 in
theorem t_740 : Cond.selects RX10 yX10_isAtEnd yX10_isAtEnd ∈ GW := GWt4 20 rfl rfl
set_option maxRecDepth 100000 in
theorem t_741 : Cond.code yX10_isAtEnd cX10_isAtEnd 1 (some .boolean) ∈ GW := GWt4 21 rfl rfl
set_option maxRecDepth 100000 in
theorem t_742 : Cond.methodLink RX2 62 yX1_sortByDay ∈ GW := GWt4 22 rfl rfl
set_option maxRecDepth 100000 in
theorem t_743 : Cond.instanceMethod yX1_sortByDay ∈ GW := GWt4 23 rfl rfl
set_option maxRecDepth 100000 in
theorem t_744 : Cond.selects RX1 yX1_sortByDay yX1_sortByDay ∈ GW := GWt4 24 rfl rfl
set_option maxRecDepth 100000 in
theorem t_745 : Cond.code yX1_sortByDay cX1_sortByDay 3 (none) ∈ GW := GWt4 25 rfl rfl
set_option maxRecDepth 100000 in
theorem t_746 : Cond.methodLink RX1 54 yX1_dayOf ∈ GW := GWt4 26 rfl rfl
set_option maxRecDepth 100000 in
theorem t_747 : Cond.instanceMethod yX1_dayOf ∈ GW := GWt4 27 rfl rfl
set_option maxRecDepth 100000 in
theorem t_748 : Cond.selects RX1 yX1_dayOf yX1_dayOf ∈ GW := GWt4 28 rfl rfl
set_option maxRecDepth 100000 in
theorem t_749 : Cond.code yX1_dayOf cX1_dayOf 2 (some .int) ∈ GW := GWt4 29 rfl rfl
set_option maxRecDepth 100000 in
theorem t_750 : Cond.methodLink RX2 71 yX8_leavesLeft ∈ GW := GWt4 30 rfl rfl
set_option maxRecDepth 100000 in
theorem t_751 : Cond.instanceMethod yX8_leavesLeft ∈ GW := GWt4 31 rfl rfl
set_option maxRecDepth 100000 in
theorem t_752 : Cond.selects RX8 yX8_leavesLeft yX8_leavesLeft ∈ GW := GWt4 32 rfl rfl
set_option maxRecDepth 100000 in
theorem t_753 : Cond.code yX8_leavesLeft cX8_leavesLeft 3 (some .int) ∈ GW := GWt4 33 rfl rfl
set_option maxRecDepth 100000 in
theorem t_754 : Cond.methodLink RX11 135 yX11_closeText ∈ GW := GWt4 34 rfl rfl
set_option maxRecDepth 100000 in
theorem t_756 : Cond.instanceMethod yX11_closeText ∈ GW := GWt4 36 rfl rfl
set_option maxRecDepth 100000 in
theorem t_757 : Cond.code yX11_closeText cX11_closeText 3 (some .int) ∈ GW := GWt4 37 rfl rfl
set_option maxRecDepth 100000 in
theorem t_758 : Cond.arrayClass .byte ∈ GW := GWt4 38 rfl rfl
set_option maxRecDepth 100000 in
theorem t_759 : Cond.methodLink RL 28 yX11_law ∈ GW := GWt4 39 rfl rfl
set_option maxRecDepth 100000 in
theorem t_760 : Cond.instanceMethod yX11_law ∈ GW := GWt4 40 rfl rfl
set_option maxRecDepth 100000 in
theorem t_761 : Cond.selects RX11 yX11_law yX11_law ∈ GW := GWt4 41 rfl rfl
set_option maxRecDepth 100000 in
theorem t_762 : Cond.code yX11_law cX11_law 3 (some .int) ∈ GW := GWt4 42 rfl rfl
set_option maxRecDepth 100000 in
theorem t_763 : Cond.methodLink RX11 142 yX11_tellRules ∈ GW := GWt4 43 rfl rfl
set_option maxRecDepth 100000 in
theorem t_765 : Cond.instanceMethod yX11_tellRules ∈ GW := GWt4 45 rfl rfl
set_option maxRecDepth 100000 in
theorem t_766 : Cond.code yX11_tellRules cX11_tellRules 7 (some .int) ∈ GW := GWt4 46 rfl rfl
set_option maxRecDepth 100000 in
theorem t_767 : Cond.instantiable RX6 2 ∈ GW := GWt4 47 rfl rfl
set_option maxRecDepth 100000 in
theorem t_769 : Cond.instanceMethod yX6_init ∈ GW := GWt4 49 rfl rfl
set_option maxRecDepth 100000 in
theorem t_770 : Cond.code yX6_init cX6_init 1 (none) ∈ GW := GWt4 50 rfl rfl
set_option maxRecDepth 100000 in
theorem t_771 : Cond.methodLink RX6 3 Lib.objectInit ∈ GW := GWt4 51 rfl rfl
set_option maxRecDepth 100000 in
theorem t_772 : Cond.fieldLink RX6 11 (TX6 0).1 (TX6 0).2.1 (TX6 0).2.2.1 ∈ GW := GWt4 52 rfl rfl
set_option maxRecDepth 100000 in
theorem t_773 : Cond.fieldLink RX3 48 (TX6 0).1 (TX6 0).2.1 (TX6 0).2.2.1 ∈ GW := GWt4 53 rfl rfl
set_option maxRecDepth 100000 in
theorem t_774 : Cond.fieldLink RX6 15 (TX6 1).1 (TX6 1).2.1 (TX6 1).2.2.1 ∈ GW := GWt4 54 rfl rfl
set_option maxRecDepth 100000 in
theorem t_775 : Cond.fieldLink RX3 45 (TX6 1).1 (TX6 1).2.1 (TX6 1).2.2.1 ∈ GW := GWt4 55 rfl rfl
set_option maxRecDepth 100000 in
theorem t_776 : Cond.fieldLink RX11 320 (TX6 1).1 (TX6 1).2.1 (TX6 1).2.2.1 ∈ GW := GWt4 56 rfl rfl
set_option maxRecDepth 100000 in
theorem t_782 : Cond.methodLink RX11 328 yX6_readRules ∈ GW := GWt4 62 rfl rfl
set_option maxRecDepth 100000 in
theorem t_783 : Cond.instanceMethod yX6_readRules ∈ GW := GWt4 63 rfl rfl
set_option maxRecDepth 100000 in
theorem t_784 : Cond.selects RX6 yX6_readRules yX6_readRules ∈ GW := GWt4 64 rfl rfl
set_option maxRecDepth 100000 in
theorem t_785 : Cond.code yX6_readRules cX6_readRules 5 (some .boolean) ∈ GW := GWt4 65 rfl rfl
set_option maxRecDepth 100000 in
theorem t_786 : Cond.methodLink RX6 19 yX10_isAtEnd ∈ GW := GWt4 66 rfl rfl
set_option maxRecDepth 100000 in
theorem t_787 : Cond.methodLink RX6 25 yX6_readStatement ∈ GW := GWt4 67 rfl rfl
set_option maxRecDepth 100000 in
theorem t_789 : Cond.instanceMethod yX6_readStatement ∈ GW := GWt4 69 rfl rfl
set_option maxRecDepth 100000 in
theorem t_790 : Cond.code yX6_readStatement cX6_readStatement 3 (some .boolean) ∈ GW := GWt4 70 rfl rfl
set_option maxRecDepth 100000 in
theorem t_792 : Cond.methodLink RX6 34 yX10_takeWord ∈ GW := GWt4 72 rfl rfl
set_option maxRecDepth 100000 in
theorem t_793 : Cond.methodLink RX6 38 yX6_readForm ∈ GW := GWt4 73 rfl rfl
set_option maxRecDepth 100000 in
theorem t_795 : Cond.instanceMethod yX6_readForm ∈ GW := GWt4 75 rfl rfl
set_option maxRecDepth 100000 in
theorem t_796 : Cond.code yX6_readForm cX6_readForm 3 (some .boolean) ∈ GW := GWt4 76 rfl rfl
set_option maxRecDepth 100000 in
theorem t_798 : Cond.methodLink RX6 62 yX10_takeOneOf ∈ GW := GWt4 78 rfl rfl
set_option maxRecDepth 100000 in
theorem t_800 : Cond.methodLink RX6 43 yX10_isWord ∈ GW := GWt4 80 rfl rfl
set_option maxRecDepth 100000 in
theorem t_801 : Cond.methodLink RX6 46 yX10_advance ∈ GW := GWt4 81 rfl rfl
set_option maxRecDepth 100000 in
theorem t_804 : Cond.methodLink RX6 49 yX6_readTies ∈ GW := GWt4 84 rfl rfl
set_option maxRecDepth 100000 in
theorem t_806 : Cond.instanceMethod yX6_readTies ∈ GW := GWt4 86 rfl rfl
set_option maxRecDepth 100000 in
theorem t_807 : Cond.code yX6_readTies cX6_readTies 5 (none) ∈ GW := GWt4 87 rfl rfl
set_option maxRecDepth 100000 in
theorem t_809 : Cond.methodLink RX6 72 yX10_placeIn ∈ GW := GWt4 89 rfl rfl
set_option maxRecDepth 100000 in
theorem t_810 : Cond.methodLink RX6 53 yX6_readWithin ∈ GW := GWt4 90 rfl rfl
set_option maxRecDepth 100000 in
theorem t_812 : Cond.instanceMethod yX6_readWithin ∈ GW := GWt4 92 rfl rfl
set_option maxRecDepth 100000 in
theorem t_813 : Cond.code yX6_readWithin cX6_readWithin 3 (some .boolean) ∈ GW := GWt4 93 rfl rfl
set_option maxRecDepth 100000 in
theorem t_815 : Cond.methodLink RX6 77 yX10_takeNumber ∈ GW := GWt4 95 rfl rfl
set_option maxRecDepth 100000 in
theorem t_816 : Cond.methodLink RX6 56 yX10_takeSign ∈ GW := GWt4 96 rfl rfl
set_option maxRecDepth 100000 in
theorem t_817 : Cond.methodLink RX6 29 yX10_refuse ∈ GW := GWt4 97 rfl rfl
set_option maxRecDepth 100000 in
theorem t_818 : Cond.methodLink RX11 146 yX7_forget ∈ GW := GWt4 98 rfl rfl
set_option maxRecDepth 100000 in
theorem t_819 : Cond.instanceMethod yX7_forget ∈ GW := GWt4 99 rfl rfl
set_option maxRecDepth 100000 in
theorem t_820 : Cond.selects RX7 yX7_forget yX7_forget ∈ GW := GWt4 100 rfl rfl
set_option maxRecDepth 100000 in
theorem t_821 : Cond.code yX7_forget cX7_forget 1 (none) ∈ GW := GWt4 101 rfl rfl
set_option maxRecDepth 100000 in
theorem t_822 : Cond.methodLink RL 33 yX11_word ∈ GW := GWt4 102 rfl rfl
set_option maxRecDepth 100000 in
theorem t_823 : Cond.instanceMethod yX11_word ∈ GW := GWt4 103 rfl rfl
set_option maxRecDepth 100000 in
theorem t_824 : Cond.selects RX11 yX11_word yX11_word ∈ GW := GWt4 104 rfl rfl
set_option maxRecDepth 100000 in
theorem t_825 : Cond.code yX11_word cX11_word 3 (some .int) ∈ GW := GWt4 105 rfl rfl
set_option maxRecDepth 100000 in
theorem t_826 : Cond.methodLink RL 37 yX11_fault ∈ GW := GWt4 106 rfl rfl
set_option maxRecDepth 100000 in
theorem t_827 : Cond.instanceMethod yX11_fault ∈ GW := GWt4 107 rfl rfl
set_option maxRecDepth 100000 in
theorem t_828 : Cond.selects RX11 yX11_fault yX11_fault ∈ GW := GWt4 108 rfl rfl
set_option maxRecDepth 100000 in
theorem t_829 : Cond.code yX11_fault cX11_fault 1 (some .int) ∈ GW := GWt4 109 rfl rfl
set_option maxRecDepth 100000 in
theorem t_830 : Cond.methodLink RL 42 yX11_size ∈ GW := GWt4 110 rfl rfl
set_option maxRecDepth 100000 in
theorem t_831 : Cond.instanceMethod yX11_size ∈ GW := GWt4 111 rfl rfl
set_option maxRecDepth 100000 in
theorem t_832 : Cond.selects RX11 yX11_size yX11_size ∈ GW := GWt4 112 rfl rfl
set_option maxRecDepth 100000 in
theorem t_833 : Cond.code yX11_size cX11_size 4 (some .int) ∈ GW := GWt4 113 rfl rfl
set_option maxRecDepth 100000 in
theorem t_834 : Cond.methodLink RX11 161 yX1_familiesIn ∈ GW := GWt4 114 rfl rfl
set_option maxRecDepth 100000 in
theorem t_835 : Cond.instanceMethod yX1_familiesIn ∈ GW := GWt4 115 rfl rfl
set_option maxRecDepth 100000 in
theorem t_836 : Cond.selects RX1 yX1_familiesIn yX1_familiesIn ∈ GW := GWt4 116 rfl rfl
set_option maxRecDepth 100000 in
theorem t_837 : Cond.code yX1_familiesIn cX1_familiesIn 4 (some .int) ∈ GW := GWt4 117 rfl rfl
set_option maxRecDepth 100000 in
theorem t_838 : Cond.methodLink RL 46 yX11_leaf ∈ GW := GWt4 118 rfl rfl
set_option maxRecDepth 100000 in
theorem t_839 : Cond.instanceMethod yX11_leaf ∈ GW := GWt4 119 rfl rfl
set_option maxRecDepth 100000 in
theorem t_840 : Cond.selects RX11 yX11_leaf yX11_leaf ∈ GW := GWt4 120 rfl rfl
set_option maxRecDepth 100000 in
theorem t_841 : Cond.code yX11_leaf cX11_leaf 5 (some .int) ∈ GW := GWt4 121 rfl rfl
set_option maxRecDepth 100000 in
theorem t_842 : Cond.methodLink RL 51 yX11_plain ∈ GW := GWt4 122 rfl rfl
set_option maxRecDepth 100000 in
theorem t_843 : Cond.instanceMethod yX11_plain ∈ GW := GWt4 123 rfl rfl
set_option maxRecDepth 100000 in
theorem t_844 : Cond.selects RX11 yX11_plain yX11_plain ∈ GW := GWt4 124 rfl rfl
set_option maxRecDepth 100000 in
theorem t_845 : Cond.code yX11_plain cX11_plain 3 (some .int) ∈ GW := GWt4 125 rfl rfl
set_option maxRecDepth 100000 in
theorem t_846 : Cond.methodLink RL 55 yX11_same ∈ GW := GWt4 126 rfl rfl
set_option maxRecDepth 100000 in
theorem t_847 : Cond.instanceMethod yX11_same ∈ GW := GWt4 127 rfl rfl
set_option maxRecDepth 100000 in
theorem t_848 : Cond.selects RX11 yX11_same yX11_same ∈ GW := GWt4 128 rfl rfl
set_option maxRecDepth 100000 in
theorem t_849 : Cond.code yX11_same cX11_same 3 (some .int) ∈ GW := GWt4 129 rfl rfl
set_option maxRecDepth 100000 in
theorem t_850 : Cond.methodLink RX11 177 yX4_firstApart ∈ GW := GWt4 130 rfl rfl
set_option maxRecDepth 100000 in
theorem t_851 : Cond.instanceMethod yX4_firstApart ∈ GW := GWt4 131 rfl rfl
set_option maxRecDepth 100000 in
theorem t_852 : Cond.selects RX4 yX4_firstApart yX4_firstApart ∈ GW := GWt4 132 rfl rfl
set_option maxRecDepth 100000 in
theorem t_853 : Cond.code yX4_firstApart cX4_firstApart 8 (some .int) ∈ GW := GWt4 133 rfl rfl
set_option maxRecDepth 100000 in
theorem t_854 : Cond.methodLink RX4 39 yX4_giveSlots ∈ GW := GWt4 134 rfl rfl
set_option maxRecDepth 100000 in
theorem t_856 : Cond.instanceMethod yX4_giveSlots ∈ GW := GWt4 136 rfl rfl
set_option maxRecDepth 100000 in
theorem t_857 : Cond.code yX4_giveSlots cX4_giveSlots 7 (none) ∈ GW := GWt4 137 rfl rfl
set_option maxRecDepth 100000 in
theorem t_858 : Cond.methodLink RX4 48 yJ9_max_7cf53 ∈ GW := GWt4 138 rfl rfl
set_option maxRecDepth 100000 in
theorem t_859 : Cond.static yJ9_max_7cf53 ∈ GW := GWt4 139 rfl rfl
set_option maxRecDepth 100000 in
theorem t_860 : Cond.code yJ9_max_7cf53 cJ9_max_7cf53 2 (some .int) ∈ GW := GWt4 140 rfl rfl
set_option maxRecDepth 100000 in
theorem t_861 : Cond.methodLink RX4 57 yJ6_bitCount_0f7a4 ∈ GW := GWt4 141 rfl rfl
set_option maxRecDepth 100000 in
theorem t_862 : Cond.static yJ6_bitCount_0f7a4 ∈ GW := GWt4 142 rfl rfl
set_option maxRecDepth 100000 in
theorem t_863 : Cond.code yJ6_bitCount_0f7a4 cJ6_bitCount_0f7a4 1 (some .int) ∈ GW := GWt4 143 rfl rfl
set_option maxRecDepth 100000 in
theorem t_864 : Cond.constant RJ6 265 (1431655765) ∈ GW := GWt4 144 rfl rfl
set_option maxRecDepth 100000 in
theorem t_865 : Cond.constant RJ6 266 (858993459) ∈ GW := GWt4 145 rfl rfl
set_option maxRecDepth 100000 in
theorem t_866 : Cond.constant RJ6 267 (252645135) ∈ GW := GWt4 146 rfl rfl
set_option maxRecDepth 100000 in
theorem t_867 : Cond.methodLink RX4 63 yJ7_fill_d0a16 ∈ GW := GWt4 147 rfl rfl
set_option maxRecDepth 100000 in
theorem t_868 : Cond.static yJ7_fill_d0a16 ∈ GW := GWt4 148 rfl rfl
set_option maxRecDepth 100000 in
theorem t_869 : Cond.code yJ7_fill_d0a16 cJ7_fill_d0a16 5 (none) ∈ GW := GWt4 149 rfl rfl
set_option maxRecDepth 100000 in
theorem t_870 : Cond.methodLink RX4 69 yX4_pour ∈ GW := GWt4 150 rfl rfl
set_option maxRecDepth 100000 in
theorem t_872 : Cond.instanceMethod yX4_pour ∈ GW := GWt4 152 rfl rfl
set_option maxRecDepth 100000 in
theorem t_873 : Cond.code yX4_pour cX4_pour 6 (none) ∈ GW := GWt4 153 rfl rfl
set_option maxRecDepth 100000 in
theorem t_874 : Cond.methodLink RX4 83 yX1_isPassing ∈ GW := GWt4 154 rfl rfl
set_option maxRecDepth 100000 in
theorem t_875 : Cond.instanceMethod yX1_isPassing ∈ GW := GWt4 155 rfl rfl
set_option maxRecDepth 100000 in
theorem t_876 : Cond.selects RX1 yX1_isPassing yX1_isPassing ∈ GW := GWt4 156 rfl rfl
set_option maxRecDepth 100000 in
theorem t_877 : Cond.code yX1_isPassing cX1_isPassing 3 (some .boolean) ∈ GW := GWt4 157 rfl rfl
set_option maxRecDepth 100000 in
theorem t_878 : Cond.methodLink RX4 73 yX4_isLevel ∈ GW := GWt4 158 rfl rfl
set_option maxRecDepth 100000 in
theorem t_880 : Cond.instanceMethod yX4_isLevel ∈ GW := GWt4 160 rfl rfl
set_option maxRecDepth 100000 in
theorem t_881 : Cond.code yX4_isLevel cX4_isLevel 2 (some .boolean) ∈ GW := GWt4 161 rfl rfl
set_option maxRecDepth 100000 in
theorem t_882 : Cond.methodLink RL 59 yX11_add ∈ GW := GWt4 162 rfl rfl
set_option maxRecDepth 100000 in
theorem t_883 : Cond.instanceMethod yX11_add ∈ GW := GWt4 163 rfl rfl
set_option maxRecDepth 100000 in
theorem t_884 : Cond.selects RX11 yX11_add yX11_add ∈ GW := GWt4 164 rfl rfl
set_option maxRecDepth 100000 in
theorem t_885 : Cond.code yX11_add cX11_add 2 (some .int) ∈ GW := GWt4 165 rfl rfl
set_option maxRecDepth 100000 in
theorem t_886 : Cond.methodLink RX11 184 yX0_holds ∈ GW := GWt4 166 rfl rfl
set_option maxRecDepth 100000 in
theorem t_887 : Cond.instanceMethod yX0_holds ∈ GW := GWt4 167 rfl rfl
set_option maxRecDepth 100000 in
theorem t_888 : Cond.selects RX0 yX0_holds yX0_holds ∈ GW := GWt4 168 rfl rfl
set_option maxRecDepth 100000 in
theorem t_889 : Cond.code yX0_holds cX0_holds 3 (some .boolean) ∈ GW := GWt4 169 rfl rfl
set_option maxRecDepth 100000 in
theorem t_890 : Cond.methodLink RX11 187 yX0_push ∈ GW := GWt4 170 rfl rfl
set_option maxRecDepth 100000 in
theorem t_891 : Cond.instanceMethod yX0_push ∈ GW := GWt4 171 rfl rfl
set_option maxRecDepth 100000 in
theorem t_892 : Cond.selects RX0 yX0_push yX0_push ∈ GW := GWt4 172 rfl rfl
set_option maxRecDepth 100000 in
theorem t_893 : Cond.code yX0_push cX0_push 2 (none) ∈ GW := GWt4 173 rfl rfl
set_option maxRecDepth 100000 in
theorem t_894 : Cond.methodLink RL 63 yX11_clear ∈ GW := GWt4 174 rfl rfl
set_option maxRecDepth 100000 in
theorem t_895 : Cond.instanceMethod yX11_clear ∈ GW := GWt4 175 rfl rfl
set_option maxRecDepth 100000 in
theorem t_896 : Cond.selects RX11 yX11_clear yX11_clear ∈ GW := GWt4 176 rfl rfl
set_option maxRecDepth 100000 in
theorem t_897 : Cond.code yX11_clear cX11_clear 2 (some .int) ∈ GW := GWt4 177 rfl rfl
set_option maxRecDepth 100000 in
theorem t_898 : Cond.methodLink RL 67 yX11_passed ∈ GW := GWt4 178 rfl rfl
set_option maxRecDepth 100000 in
theorem t_899 : Cond.instanceMethod yX11_passed ∈ GW := GWt4 179 rfl rfl
set_option maxRecDepth 100000 in
theorem t_900 : Cond.selects RX11 yX11_passed yX11_passed ∈ GW := GWt4 180 rfl rfl
set_option maxRecDepth 100000 in
theorem t_901 : Cond.code yX11_passed cX11_passed 4 (some .long) ∈ GW := GWt4 181 rfl rfl
set_option maxRecDepth 100000 in
theorem t_902 : Cond.methodLink RX11 191 yX0_hasCode ∈ GW := GWt4 182 rfl rfl
set_option maxRecDepth 100000 in
theorem t_903 : Cond.instanceMethod yX0_hasCode ∈ GW := GWt4 183 rfl rfl
set_option maxRecDepth 100000 in
theorem t_904 : Cond.selects RX0 yX0_hasCode yX0_hasCode ∈ GW := GWt4 184 rfl rfl
set_option maxRecDepth 100000 in
theorem t_905 : Cond.code yX0_hasCode cX0_hasCode 2 (some .boolean) ∈ GW := GWt4 185 rfl rfl
set_option maxRecDepth 100000 in
theorem t_906 : Cond.methodLink RX0 38 yX0_allChoices ∈ GW := GWt4 186 rfl rfl
set_option maxRecDepth 100000 in
theorem t_907 : Cond.instanceMethod yX0_allChoices ∈ GW := GWt4 187 rfl rfl
set_option maxRecDepth 100000 in
theorem t_908 : Cond.selects RX0 yX0_allChoices yX0_allChoices ∈ GW := GWt4 188 rfl rfl
set_option maxRecDepth 100000 in
theorem t_909 : Cond.code yX0_allChoices cX0_allChoices 1 (some .int) ∈ GW := GWt4 189 rfl rfl
set_option maxRecDepth 100000 in
theorem t_910 : Cond.methodLink RX0 31 yX0_choicesBefore ∈ GW := GWt4 190 rfl rfl
set_option maxRecDepth 100000 in
theorem t_911 : Cond.instanceMethod yX0_choicesBefore ∈ GW := GWt4 191 rfl rfl
set_option maxRecDepth 100000 in
theorem t_912 : Cond.selects RX0 yX0_choicesBefore yX0_choicesBefore ∈ GW := GWt4 192 rfl rfl
set_option maxRecDepth 100000 in
theorem t_913 : Cond.code yX0_choicesBefore cX0_choicesBefore 4 (some .int) ∈ GW := GWt4 193 rfl rfl
set_option maxRecDepth 100000 in
theorem t_914 : Cond.constantLong RX11 195 (-1) ∈ GW := GWt4 194 rfl rfl
set_option maxRecDepth 100000 in
theorem t_915 : Cond.methodLink RX11 197 yX0_rowsBy ∈ GW := GWt4 195 rfl rfl
set_option maxRecDepth 100000 in
theorem t_916 : Cond.instanceMethod yX0_rowsBy ∈ GW := GWt4 196 rfl rfl
set_option maxRecDepth 100000 in
theorem t_917 : Cond.selects RX0 yX0_rowsBy yX0_rowsBy ∈ GW := GWt4 197 rfl rfl
set_option maxRecDepth 100000 in
theorem t_918 : Cond.code yX0_rowsBy cX0_rowsBy 7 (some .int) ∈ GW := GWt4 198 rfl rfl
set_option maxRecDepth 100000 in
theorem t_919 : Cond.methodLink RX0 50 yX0_codeFor ∈ GW := GWt4 199 rfl rfl
set_option maxRecDepth 100000 in
theorem t_920 : Cond.static yX0_codeFor ∈ GW := GWt4 200 rfl rfl
set_option maxRecDepth 100000 in
theorem t_921 : Cond.code yX0_codeFor cX0_codeFor 2 (some .int) ∈ GW := GWt4 201 rfl rfl
set_option maxRecDepth 100000 in
theorem t_922 : Cond.methodLink RX0 57 yX1_isPassing ∈ GW := GWt4 202 rfl rfl
set_option maxRecDepth 100000 in
theorem t_923 : Cond.methodLink RX11 201 yX0_toldOfRow ∈ GW := GWt4 203 rfl rfl
set_option maxRecDepth 100000 in
theorem t_924 : Cond.instanceMethod yX0_toldOfRow ∈ GW := GWt4 204 rfl rfl
set_option maxRecDepth 100000 in
theorem t_925 : Cond.selects RX0 yX0_toldOfRow yX0_toldOfRow ∈ GW := GWt4 205 rfl rfl
set_option maxRecDepth 100000 in
theorem t_926 : Cond.code yX0_toldOfRow cX0_toldOfRow 9 (some .long) ∈ GW := GWt4 206 rfl rfl
set_option maxRecDepth 100000 in
theorem t_927 : Cond.constantLong RX0 69 (-1) ∈ GW := GWt4 207 rfl rfl
set_option maxRecDepth 100000 in
theorem t_928 : Cond.methodLink RL 72 yX11_net ∈ GW := GWt4 208 rfl rfl
set_option maxRecDepth 100000 in
theorem t_929 : Cond.instanceMethod yX11_net ∈ GW := GWt4 209 rfl rfl
set_option maxRecDepth 100000 in
theorem t_930 : Cond.selects RX11 yX11_net yX11_net ∈ GW := GWt4 210 rfl rfl
set_option maxRecDepth 100000 in
theorem t_931 : Cond.code yX11_net cX11_net 5 (some .long) ∈ GW := GWt4 211 rfl rfl
set_option maxRecDepth 100000 in
theorem t_932 : Cond.constantLong RX11 205 (-1000000000000) ∈ GW := GWt4 212 rfl rfl
set_option maxRecDepth 100000 in
theorem t_933 : Cond.methodLink RX11 207 yX5_sumOf ∈ GW := GWt4 213 rfl rfl
set_option maxRecDepth 100000 in
theorem t_934 : Cond.instanceMethod yX5_sumOf ∈ GW := GWt4 214 rfl rfl
set_option maxRecDepth 100000 in
theorem t_935 : Cond.selects RX5 yX5_sumOf yX5_sumOf ∈ GW := GWt4 215 rfl rfl
set_option maxRecDepth 100000 in
theorem t_936 : Cond.code yX5_sumOf cX5_sumOf 14 (some .long) ∈ GW := GWt4 216 rfl rfl
set_option maxRecDepth 100000 in
theorem t_937 : Cond.methodLink RX5 59 yX0_codeFor ∈ GW := GWt4 217 rfl rfl
set_option maxRecDepth 100000 in
theorem t_938 : Cond.methodLink RX5 71 yX1_isPassing ∈ GW := GWt4 218 rfl rfl
set_option maxRecDepth 100000 in
theorem t_939 : Cond.methodLink RX5 75 yX1_dayOf ∈ GW := GWt4 219 rfl rfl
set_option maxRecDepth 100000 in
theorem t_940 : Cond.methodLink RX5 79 yX5_shareOf ∈ GW := GWt4 220 rfl rfl
set_option maxRecDepth 100000 in
theorem t_942 : Cond.instanceMethod yX5_shareOf ∈ GW := GWt4 222 rfl rfl
set_option maxRecDepth 100000 in
theorem t_943 : Cond.code yX5_shareOf cX5_shareOf 6 (some .long) ∈ GW := GWt4 223 rfl rfl
set_option maxRecDepth 100000 in
theorem t_944 : Cond.methodLink RL 77 yX11_codes ∈ GW := GWt4 224 rfl rfl
set_option maxRecDepth 100000 in
theorem t_945 : Cond.instanceMethod yX11_codes ∈ GW := GWt4 225 rfl rfl
set_option maxRecDepth 100000 in
theorem t_946 : Cond.selects RX11 yX11_codes yX11_codes ∈ GW := GWt4 226 rfl rfl
set_option maxRecDepth 100000 in
theorem t_947 : Cond.code yX11_codes cX11_codes 1 (some .int) ∈ GW := GWt4 227 rfl rfl
set_option maxRecDepth 100000 in
theorem t_948 : Cond.methodLink RX11 211 yX0_isLooked ∈ GW := GWt4 228 rfl rfl
set_option maxRecDepth 100000 in
theorem t_949 : Cond.instanceMethod yX0_isLooked ∈ GW := GWt4 229 rfl rfl
set_option maxRecDepth 100000 in
theorem t_950 : Cond.selects RX0 yX0_isLooked yX0_isLooked ∈ GW := GWt4 230 rfl rfl
set_option maxRecDepth 100000 in
theorem t_951 : Cond.code yX0_isLooked cX0_isLooked 1 (some .boolean) ∈ GW := GWt4 231 rfl rfl
set_option maxRecDepth 100000 in
theorem t_952 : Cond.methodLink RX0 42 yX0_namedBits ∈ GW := GWt4 232 rfl rfl
set_option maxRecDepth 100000 in
theorem t_953 : Cond.instanceMethod yX0_namedBits ∈ GW := GWt4 233 rfl rfl
set_option maxRecDepth 100000 in
theorem t_954 : Cond.selects RX0 yX0_namedBits yX0_namedBits ∈ GW := GWt4 234 rfl rfl
set_option maxRecDepth 100000 in
theorem t_955 : Cond.code yX0_namedBits cX0_namedBits 3 (some .int) ∈ GW := GWt4 235 rfl rfl
set_option maxRecDepth 100000 in
theorem t_956 : Cond.methodLink RX0 45 yJ6_bitCount_0f7a4 ∈ GW := GWt4 236 rfl rfl
set_option maxRecDepth 100000 in
theorem t_957 : Cond.methodLink RX11 215 yX0_codesLooked ∈ GW := GWt4 237 rfl rfl
set_option maxRecDepth 100000 in
theorem t_958 : Cond.instanceMethod yX0_codesLooked ∈ GW := GWt4 238 rfl rfl
set_option maxRecDepth 100000 in
theorem t_959 : Cond.selects RX0 yX0_codesLooked yX0_codesLooked ∈ GW := GWt4 239 rfl rfl
set_option maxRecDepth 100000 in
theorem t_960 : Cond.code yX0_codesLooked cX0_codesLooked 1 (some .int) ∈ GW := GWt5 0 rfl rfl
set_option maxRecDepth 100000 in
theorem t_961 : Cond.methodLink RL 81 yX11_lends ∈ GW := GWt5 1 rfl rfl
set_option maxRecDepth 100000 in
theorem t_962 : Cond.instanceMethod yX11_lends ∈ GW := GWt5 2 rfl rfl
set_option maxRecDepth 100000 in
theorem t_963 : Cond.selects RX11 yX11_lends yX11_lends ∈ GW := GWt5 3 rfl rfl
set_option maxRecDepth 100000 in
theorem t_964 : Cond.code yX11_lends cX11_lends 3 (some .int) ∈ GW := GWt5 4 rfl rfl
set_option maxRecDepth 100000 in
theorem t_965 : Cond.methodLink RX11 219 yX11_isPair ∈ GW := GWt5 5 rfl rfl
set_option maxRecDepth 100000 in
theorem t_966 : Cond.static yX11_isPair ∈ GW := GWt5 6 rfl rfl
set_option maxRecDepth 100000 in
theorem t_967 : Cond.code yX11_isPair cX11_isPair 2 (some .boolean) ∈ GW := GWt5 7 rfl rfl
set_option maxRecDepth 100000 in
theorem t_968 : Cond.methodLink RX11 222 yX9_learn ∈ GW := GWt5 8 rfl rfl
set_option maxRecDepth 100000 in
theorem t_969 : Cond.instanceMethod yX9_learn ∈ GW := GWt5 9 rfl rfl
set_option maxRecDepth 100000 in
theorem t_970 : Cond.selects RX9 yX9_learn yX9_learn ∈ GW := GWt5 10 rfl rfl
set_option maxRecDepth 100000 in
theorem t_971 : Cond.code yX9_learn cX9_learn 8 (none) ∈ GW := GWt5 11 rfl rfl
set_option maxRecDepth 100000 in
theorem t_972 : Cond.methodLink RX9 30 yJ7_fill_53178 ∈ GW := GWt5 12 rfl rfl
set_option maxRecDepth 100000 in
theorem t_973 : Cond.methodLink RX9 36 yX0_namedBits ∈ GW := GWt5 13 rfl rfl
set_option maxRecDepth 100000 in
theorem t_974 : Cond.methodLink RX9 42 yX0_codesLooked ∈ GW := GWt5 14 rfl rfl
set_option maxRecDepth 100000 in
theorem t_975 : Cond.methodLink RX9 45 yX5_take ∈ GW := GWt5 15 rfl rfl
set_option maxRecDepth 100000 in
theorem t_976 : Cond.instanceMethod yX5_take ∈ GW := GWt5 16 rfl rfl
set_option maxRecDepth 100000 in
theorem t_977 : Cond.selects RX5 yX5_take yX5_take ∈ GW := GWt5 17 rfl rfl
set_option maxRecDepth 100000 in
theorem t_978 : Cond.code yX5_take cX5_take 6 (none) ∈ GW := GWt5 18 rfl rfl
set_option maxRecDepth 100000 in
theorem t_979 : Cond.methodLink RX5 105 yJ7_fill_53178 ∈ GW := GWt5 19 rfl rfl
set_option maxRecDepth 100000 in
theorem t_980 : Cond.methodLink RX5 132 yX5_earliestHead ∈ GW := GWt5 20 rfl rfl
set_option maxRecDepth 100000 in
theorem t_982 : Cond.instanceMethod yX5_earliestHead ∈ GW := GWt5 22 rfl rfl
set_option maxRecDepth 100000 in
theorem t_983 : Cond.code yX5_earliestHead cX5_earliestHead 7 (some .int) ∈ GW := GWt5 23 rfl rfl
set_option maxRecDepth 100000 in
theorem t_984 : Cond.methodLink RX5 139 yX0_choicesBefore ∈ GW := GWt5 24 rfl rfl
set_option maxRecDepth 100000 in
theorem t_985 : Cond.methodLink RX5 142 yX5_putEntry ∈ GW := GWt5 25 rfl rfl
set_option maxRecDepth 100000 in
theorem t_987 : Cond.instanceMethod yX5_putEntry ∈ GW := GWt5 27 rfl rfl
set_option maxRecDepth 100000 in
theorem t_988 : Cond.code yX5_putEntry cX5_putEntry 8 (some .int) ∈ GW := GWt5 28 rfl rfl
set_option maxRecDepth 100000 in
theorem t_989 : Cond.methodLink RX5 146 yX5_bitsBehind ∈ GW := GWt5 29 rfl rfl
set_option maxRecDepth 100000 in
theorem t_990 : Cond.static yX5_bitsBehind ∈ GW := GWt5 30 rfl rfl
set_option maxRecDepth 100000 in
theorem t_991 : Cond.code yX5_bitsBehind cX5_bitsBehind 3 (some .int) ∈ GW := GWt5 31 rfl rfl
set_option maxRecDepth 100000 in
theorem t_992 : Cond.methodLink RX9 51 yX5_weigh ∈ GW := GWt5 32 rfl rfl
set_option maxRecDepth 100000 in
theorem t_993 : Cond.instanceMethod yX5_weigh ∈ GW := GWt5 33 rfl rfl
set_option maxRecDepth 100000 in
theorem t_994 : Cond.selects RX5 yX5_weigh yX5_weigh ∈ GW := GWt5 34 rfl rfl
set_option maxRecDepth 100000 in
theorem t_995 : Cond.code yX5_weigh cX5_weigh 6 (none) ∈ GW := GWt5 35 rfl rfl
set_option maxRecDepth 100000 in
theorem t_996 : Cond.methodLink RX5 87 yJ7_fill_d0a16 ∈ GW := GWt5 36 rfl rfl
set_option maxRecDepth 100000 in
theorem t_997 : Cond.methodLink RX5 158 yX5_endDay ∈ GW := GWt5 37 rfl rfl
set_option maxRecDepth 100000 in
theorem t_999 : Cond.instanceMethod yX5_endDay ∈ GW := GWt5 39 rfl rfl
set_option maxRecDepth 100000 in
theorem t_1000 : Cond.code yX5_endDay cX5_endDay 4 (none) ∈ GW := GWt5 40 rfl rfl
set_option maxRecDepth 100000 in
theorem t_1001 : Cond.methodLink RX5 164 yX5_book ∈ GW := GWt5 41 rfl rfl
set_option maxRecDepth 100000 in
theorem t_1003 : Cond.instanceMethod yX5_book ∈ GW := GWt5 43 rfl rfl
set_option maxRecDepth 100000 in
theorem t_1004 : Cond.code yX5_book cX5_book 7 (none) ∈ GW := GWt5 44 rfl rfl
set_option maxRecDepth 100000 in
theorem t_1005 : Cond.methodLink RX5 161 yX5_findUneven ∈ GW := GWt5 45 rfl rfl
set_option maxRecDepth 100000 in
theorem t_1007 : Cond.instanceMethod yX5_findUneven ∈ GW := GWt5 47 rfl rfl
set_option maxRecDepth 100000 in
theorem t_1008 : Cond.code yX5_findUneven cX5_findUneven 4 (none) ∈ GW := GWt5 48 rfl rfl
set_option maxRecDepth 100000 in
theorem t_1009 : Cond.methodLink RX9 58 yJ9_min_f86c9 ∈ GW := GWt5 49 rfl rfl
set_option maxRecDepth 100000 in
theorem t_1010 : Cond.static yJ9_min_f86c9 ∈ GW := GWt5 50 rfl rfl
set_option maxRecDepth 100000 in
theorem t_1011 : Cond.code yJ9_min_f86c9 cJ9_min_f86c9 4 (some .long) ∈ GW := GWt5 51 rfl rfl
set_option maxRecDepth 100000 in
theorem t_1012 : Cond.methodLink RX9 64 yX9_noteLender ∈ GW := GWt5 52 rfl rfl
set_option maxRecDepth 100000 in
theorem t_1014 : Cond.instanceMethod yX9_noteLender ∈ GW := GWt5 54 rfl rfl
set_option maxRecDepth 100000 in
theorem t_1015 : Cond.code yX9_noteLender cX9_noteLender 11 (none) ∈ GW := GWt5 55 rfl rfl
set_option maxRecDepth 100000 in
theorem t_1016 : Cond.methodLink RX9 72 yX5_borrowersOf ∈ GW := GWt5 56 rfl rfl
set_option maxRecDepth 100000 in
theorem t_1017 : Cond.instanceMethod yX5_borrowersOf ∈ GW := GWt5 57 rfl rfl
set_option maxRecDepth 100000 in
theorem t_1018 : Cond.selects RX5 yX5_borrowersOf yX5_borrowersOf ∈ GW := GWt5 58 rfl rfl
set_option maxRecDepth 100000 in
theorem t_1019 : Cond.code yX5_borrowersOf cX5_borrowersOf 2 (some .int) ∈ GW := GWt5 59 rfl rfl
set_option maxRecDepth 100000 in
theorem t_1020 : Cond.methodLink RX9 78 yX9_commonDivisor ∈ GW := GWt5 60 rfl rfl
set_option maxRecDepth 100000 in
theorem t_1021 : Cond.static yX9_commonDivisor ∈ GW := GWt5 61 rfl rfl
set_option maxRecDepth 100000 in
theorem t_1022 : Cond.code yX9_commonDivisor cX9_commonDivisor 11 (some .long) ∈ GW := GWt5 62 rfl rfl
set_option maxRecDepth 100000 in
theorem t_1023 : Cond.methodLink RX9 81 yX9_notePrice ∈ GW := GWt5 63 rfl rfl
set_option maxRecDepth 100000 in
theorem t_1025 : Cond.instanceMethod yX9_notePrice ∈ GW := GWt5 65 rfl rfl
set_option maxRecDepth 100000 in
theorem t_1026 : Cond.code yX9_notePrice cX9_notePrice 7 (none) ∈ GW := GWt5 66 rfl rfl
set_option maxRecDepth 100000 in
theorem t_1027 : Cond.methodLink RX9 85 yX9_compareShares ∈ GW := GWt5 67 rfl rfl
set_option maxRecDepth 100000 in
theorem t_1028 : Cond.static yX9_compareShares ∈ GW := GWt5 68 rfl rfl
set_option maxRecDepth 100000 in
theorem t_1029 : Cond.code yX9_compareShares cX9_compareShares 18 (some .int) ∈ GW := GWt5 69 rfl rfl
set_option maxRecDepth 100000 in
theorem t_1030 : Cond.methodLink RX9 89 yJ13_compare_74951 ∈ GW := GWt5 70 rfl rfl
set_option maxRecDepth 100000 in
theorem t_1031 : Cond.static yJ13_compare_74951 ∈ GW := GWt5 71 rfl rfl
set_option maxRecDepth 100000 in
theorem t_1032 : Cond.code yJ13_compare_74951 cJ13_compare_74951 4 (some .int) ∈ GW := GWt5 72 rfl rfl
set_option maxRecDepth 100000 in
theorem t_1033 : Cond.methodLink RX9 68 yX9_leastPair ∈ GW := GWt5 73 rfl rfl
set_option maxRecDepth 100000 in
theorem t_1035 : Cond.instanceMethod yX9_leastPair ∈ GW := GWt5 75 rfl rfl
set_option maxRecDepth 100000 in
theorem t_1036 : Cond.code yX9_leastPair cX9_leastPair 3 (some .int) ∈ GW := GWt5 76 rfl rfl
set_option maxRecDepth 100000 in
theorem t_1037 : Cond.methodLink RL 85 yX11_price ∈ GW := GWt5 77 rfl rfl
set_option maxRecDepth 100000 in
theorem t_1038 : Cond.instanceMethod yX11_price ∈ GW := GWt5 78 rfl rfl
set_option maxRecDepth 100000 in
theorem t_1039 : Cond.selects RX11 yX11_price yX11_price ∈ GW := GWt5 79 rfl rfl
set_option maxRecDepth 100000 in
theorem t_1040 : Cond.code yX11_price cX11_price 5 (some .long) ∈ GW := GWt5 80 rfl rfl
set_option maxRecDepth 100000 in
theorem t_1041 : Cond.methodLink RL 89 yX11_loan ∈ GW := GWt5 81 rfl rfl
set_option maxRecDepth 100000 in
theorem t_1042 : Cond.instanceMethod yX11_loan ∈ GW := GWt5 82 rfl rfl
set_option maxRecDepth 100000 in
theorem t_1043 : Cond.selects RX11 yX11_loan yX11_loan ∈ GW := GWt5 83 rfl rfl
set_option maxRecDepth 100000 in
theorem t_1044 : Cond.code yX11_loan cX11_loan 1 (some .int) ∈ GW := GWt5 84 rfl rfl
set_option maxRecDepth 100000 in
theorem t_1045 : Cond.methodLink RL 93 yX11_step ∈ GW := GWt5 85 rfl rfl
set_option maxRecDepth 100000 in
theorem t_1046 : Cond.instanceMethod yX11_step ∈ GW := GWt5 86 rfl rfl
set_option maxRecDepth 100000 in
theorem t_1047 : Cond.selects RX11 yX11_step yX11_step ∈ GW := GWt5 87 rfl rfl
set_option maxRecDepth 100000 in
theorem t_1048 : Cond.code yX11_step cX11_step 1 (some .long) ∈ GW := GWt5 88 rfl rfl
set_option maxRecDepth 100000 in
theorem t_1049 : Cond.methodLink RL 98 yX11_bears ∈ GW := GWt5 89 rfl rfl
set_option maxRecDepth 100000 in
theorem t_1050 : Cond.instanceMethod yX11_bears ∈ GW := GWt5 90 rfl rfl
set_option maxRecDepth 100000 in
theorem t_1051 : Cond.selects RX11 yX11_bears yX11_bears ∈ GW := GWt5 91 rfl rfl
set_option maxRecDepth 100000 in
theorem t_1052 : Cond.code yX11_bears cX11_bears 3 (some .long) ∈ GW := GWt5 92 rfl rfl
set_option maxRecDepth 100000 in
theorem t_1053 : Cond.methodLink RL 103 yX11_cost ∈ GW := GWt5 93 rfl rfl
set_option maxRecDepth 100000 in
theorem t_1054 : Cond.instanceMethod yX11_cost ∈ GW := GWt5 94 rfl rfl
set_option maxRecDepth 100000 in
theorem t_1055 : Cond.selects RX11 yX11_cost yX11_cost ∈ GW := GWt5 95 rfl rfl
set_option maxRecDepth 100000 in
theorem t_1056 : Cond.code yX11_cost cX11_cost 12 (some .long) ∈ GW := GWt5 96 rfl rfl
set_option maxRecDepth 100000 in
theorem t_1057 : Cond.methodLink RL 107 yX11_breach ∈ GW := GWt5 97 rfl rfl
set_option maxRecDepth 100000 in
theorem t_1058 : Cond.instanceMethod yX11_breach ∈ GW := GWt5 98 rfl rfl
set_option maxRecDepth 100000 in
theorem t_1059 : Cond.selects RX11 yX11_breach yX11_breach ∈ GW := GWt5 99 rfl rfl
set_option maxRecDepth 100000 in
theorem t_1060 : Cond.code yX11_breach cX11_breach 4 (some .int) ∈ GW := GWt5 100 rfl rfl
set_option maxRecDepth 100000 in
theorem t_1061 : Cond.methodLink RX11 239 yX11_lawInForce ∈ GW := GWt5 101 rfl rfl
set_option maxRecDepth 100000 in
theorem t_1063 : Cond.instanceMethod yX11_lawInForce ∈ GW := GWt5 103 rfl rfl
set_option maxRecDepth 100000 in
theorem t_1064 : Cond.code yX11_lawInForce cX11_lawInForce 1 (some (.object "LoanNames$Rules")) ∈ GW := GWt5 104 rfl rfl
set_option maxRecDepth 100000 in
theorem t_1065 : Cond.methodLink RX11 243 yX3_hear ∈ GW := GWt5 105 rfl rfl
set_option maxRecDepth 100000 in
theorem t_1066 : Cond.instanceMethod yX3_hear ∈ GW := GWt5 106 rfl rfl
set_option maxRecDepth 100000 in
theorem t_1067 : Cond.selects RX3 yX3_hear yX3_hear ∈ GW := GWt5 107 rfl rfl
set_option maxRecDepth 100000 in
theorem t_1068 : Cond.code yX3_hear cX3_hear 3 (none) ∈ GW := GWt5 108 rfl rfl
set_option maxRecDepth 100000 in
theorem t_1069 : Cond.methodLink RX3 31 yX3_hearAlso ∈ GW := GWt5 109 rfl rfl
set_option maxRecDepth 100000 in
theorem t_1071 : Cond.instanceMethod yX3_hearAlso ∈ GW := GWt5 111 rfl rfl
set_option maxRecDepth 100000 in
theorem t_1072 : Cond.code yX3_hearAlso cX3_hearAlso 2 (none) ∈ GW := GWt5 112 rfl rfl
set_option maxRecDepth 100000 in
theorem t_1073 : Cond.methodLink RX3 39 arraycopyName ∈ GW := GWt5 113 rfl rfl
set_option maxRecDepth 100000 in
theorem t_1074 : Cond.methodLink RX11 247 yX3_firstThatBars ∈ GW := GWt5 114 rfl rfl
set_option maxRecDepth 100000 in
theorem t_1075 : Cond.instanceMethod yX3_firstThatBars ∈ GW := GWt5 115 rfl rfl
set_option maxRecDepth 100000 in
theorem t_1076 : Cond.selects RX3 yX3_firstThatBars yX3_firstThatBars ∈ GW := GWt5 116 rfl rfl
set_option maxRecDepth 100000 in
theorem t_1077 : Cond.code yX3_firstThatBars cX3_firstThatBars 3 (some .int) ∈ GW := GWt5 117 rfl rfl
set_option maxRecDepth 100000 in
theorem t_1078 : Cond.methodLink RX3 51 yX3_findLeaves ∈ GW := GWt5 118 rfl rfl
set_option maxRecDepth 100000 in
theorem t_1080 : Cond.instanceMethod yX3_findLeaves ∈ GW := GWt5 120 rfl rfl
set_option maxRecDepth 100000 in
theorem t_1081 : Cond.code yX3_findLeaves cX3_findLeaves 6 (some .boolean) ∈ GW := GWt5 121 rfl rfl
set_option maxRecDepth 100000 in
theorem t_1082 : Cond.methodLink RX3 55 yX3_isOf ∈ GW := GWt5 122 rfl rfl
set_option maxRecDepth 100000 in
theorem t_1084 : Cond.instanceMethod yX3_isOf ∈ GW := GWt5 124 rfl rfl
set_option maxRecDepth 100000 in
theorem t_1085 : Cond.code yX3_isOf cX3_isOf 5 (some .boolean) ∈ GW := GWt5 125 rfl rfl
set_option maxRecDepth 100000 in
theorem t_1086 : Cond.methodLink RX3 59 yX3_findSecond ∈ GW := GWt5 126 rfl rfl
set_option maxRecDepth 100000 in
theorem t_1088 : Cond.instanceMethod yX3_findSecond ∈ GW := GWt5 128 rfl rfl
set_option maxRecDepth 100000 in
theorem t_1089 : Cond.code yX3_findSecond cX3_findSecond 5 (some .int) ∈ GW := GWt5 129 rfl rfl
set_option maxRecDepth 100000 in
theorem t_1090 : Cond.methodLink RX3 69 yX3_isLater ∈ GW := GWt5 130 rfl rfl
set_option maxRecDepth 100000 in
theorem t_1092 : Cond.instanceMethod yX3_isLater ∈ GW := GWt5 132 rfl rfl
set_option maxRecDepth 100000 in
theorem t_1093 : Cond.code yX3_isLater cX3_isLater 5 (some .boolean) ∈ GW := GWt5 133 rfl rfl
set_option maxRecDepth 100000 in
theorem t_1094 : Cond.methodLink RX3 72 yX3_isTied ∈ GW := GWt5 134 rfl rfl
set_option maxRecDepth 100000 in
theorem t_1096 : Cond.instanceMethod yX3_isTied ∈ GW := GWt5 136 rfl rfl
set_option maxRecDepth 100000 in
theorem t_1097 : Cond.code yX3_isTied cX3_isTied 4 (some .boolean) ∈ GW := GWt5 137 rfl rfl
set_option maxRecDepth 100000 in
theorem t_1098 : Cond.methodLink RL 111 yX11_bars ∈ GW := GWt5 138 rfl rfl
set_option maxRecDepth 100000 in
theorem t_1099 : Cond.instanceMethod yX11_bars ∈ GW := GWt5 139 rfl rfl
set_option maxRecDepth 100000 in
theorem t_1100 : Cond.selects RX11 yX11_bars yX11_bars ∈ GW := GWt5 140 rfl rfl
set_option maxRecDepth 100000 in
theorem t_1101 : Cond.code yX11_bars cX11_bars 2 (some .int) ∈ GW := GWt5 141 rfl rfl
set_option maxRecDepth 100000 in
theorem t_1102 : Cond.methodLink RL 115 yX11_offer ∈ GW := GWt5 142 rfl rfl
set_option maxRecDepth 100000 in
theorem t_1103 : Cond.instanceMethod yX11_offer ∈ GW := GWt5 143 rfl rfl
set_option maxRecDepth 100000 in
theorem t_1104 : Cond.selects RX11 yX11_offer yX11_offer ∈ GW := GWt5 144 rfl rfl
set_option maxRecDepth 100000 in
theorem t_1105 : Cond.code yX11_offer cX11_offer 2 (some .int) ∈ GW := GWt5 145 rfl rfl
set_option maxRecDepth 100000 in
theorem t_1106 : Cond.methodLink RX11 257 yX7_putOffered ∈ GW := GWt5 146 rfl rfl
set_option maxRecDepth 100000 in
theorem t_1107 : Cond.instanceMethod yX7_putOffered ∈ GW := GWt5 147 rfl rfl
set_option maxRecDepth 100000 in
theorem t_1108 : Cond.selects RX7 yX7_putOffered yX7_putOffered ∈ GW := GWt5 148 rfl rfl
set_option maxRecDepth 100000 in
theorem t_1109 : Cond.code yX7_putOffered cX7_putOffered 3 (some .boolean) ∈ GW := GWt5 149 rfl rfl
set_option maxRecDepth 100000 in
theorem t_1110 : Cond.methodLink RX7 68 yX7_forget ∈ GW := GWt5 150 rfl rfl
set_option maxRecDepth 100000 in
theorem t_1111 : Cond.methodLink RL 119 yX11_sly ∈ GW := GWt5 151 rfl rfl
set_option maxRecDepth 100000 in
theorem t_1112 : Cond.instanceMethod yX11_sly ∈ GW := GWt5 152 rfl rfl
set_option maxRecDepth 100000 in
theorem t_1113 : Cond.selects RX11 yX11_sly yX11_sly ∈ GW := GWt5 153 rfl rfl
set_option maxRecDepth 100000 in
theorem t_1114 : Cond.code yX11_sly cX11_sly 3 (some .int) ∈ GW := GWt5 154 rfl rfl
set_option maxRecDepth 100000 in
theorem t_1115 : Cond.methodLink RX11 263 yX7_look ∈ GW := GWt5 155 rfl rfl
set_option maxRecDepth 100000 in
theorem t_1116 : Cond.instanceMethod yX7_look ∈ GW := GWt5 156 rfl rfl
set_option maxRecDepth 100000 in
theorem t_1117 : Cond.selects RX7 yX7_look yX7_look ∈ GW := GWt5 157 rfl rfl
set_option maxRecDepth 100000 in
theorem t_1118 : Cond.code yX7_look cX7_look 4 (none) ∈ GW := GWt5 158 rfl rfl
set_option maxRecDepth 100000 in
theorem t_1119 : Cond.methodLink RX7 77 yX7_findBarred ∈ GW := GWt5 159 rfl rfl
set_option maxRecDepth 100000 in
theorem t_1121 : Cond.instanceMethod yX7_findBarred ∈ GW := GWt5 161 rfl rfl
set_option maxRecDepth 100000 in
theorem t_1122 : Cond.code yX7_findBarred cX7_findBarred 6 (none) ∈ GW := GWt5 162 rfl rfl
set_option maxRecDepth 100000 in
theorem t_1123 : Cond.methodLink RX7 94 yX3_hearPair ∈ GW := GWt5 163 rfl rfl
set_option maxRecDepth 100000 in
theorem t_1124 : Cond.instanceMethod yX3_hearPair ∈ GW := GWt5 164 rfl rfl
set_option maxRecDepth 100000 in
theorem t_1125 : Cond.selects RX3 yX3_hearPair yX3_hearPair ∈ GW := GWt5 165 rfl rfl
set_option maxRecDepth 100000 in
theorem t_1126 : Cond.code yX3_hearPair cX3_hearPair 3 (none) ∈ GW := GWt5 166 rfl rfl
set_option maxRecDepth 100000 in
theorem t_1127 : Cond.methodLink RX7 100 yX3_firstThatBars ∈ GW := GWt5 167 rfl rfl
set_option maxRecDepth 100000 in
theorem t_1128 : Cond.methodLink RX7 81 yJ7_fill_d0a16 ∈ GW := GWt5 168 rfl rfl
set_option maxRecDepth 100000 in
theorem t_1129 : Cond.methodLink RX7 84 yX5_sumInto ∈ GW := GWt5 169 rfl rfl
set_option maxRecDepth 100000 in
theorem t_1130 : Cond.instanceMethod yX5_sumInto ∈ GW := GWt5 170 rfl rfl
set_option maxRecDepth 100000 in
theorem t_1131 : Cond.selects RX5 yX5_sumInto yX5_sumInto ∈ GW := GWt5 171 rfl rfl
set_option maxRecDepth 100000 in
theorem t_1132 : Cond.code yX5_sumInto cX5_sumInto 9 (none) ∈ GW := GWt5 172 rfl rfl
set_option maxRecDepth 100000 in
theorem t_1133 : Cond.methodLink RX7 90 yX7_grow ∈ GW := GWt5 173 rfl rfl
set_option maxRecDepth 100000 in
theorem t_1135 : Cond.instanceMethod yX7_grow ∈ GW := GWt5 175 rfl rfl
set_option maxRecDepth 100000 in
theorem t_1136 : Cond.code yX7_grow cX7_grow 7 (none) ∈ GW := GWt5 176 rfl rfl
set_option maxRecDepth 100000 in
theorem t_1137 : Cond.methodLink RX7 104 yX0_push ∈ GW := GWt5 177 rfl rfl
set_option maxRecDepth 100000 in
theorem t_1138 : Cond.methodLink RX7 108 yX0_isLooked ∈ GW := GWt5 178 rfl rfl
set_option maxRecDepth 100000 in
theorem t_1139 : Cond.methodLink RX7 112 yX7_mayLend ∈ GW := GWt5 179 rfl rfl
set_option maxRecDepth 100000 in
theorem t_1141 : Cond.instanceMethod yX7_mayLend ∈ GW := GWt5 181 rfl rfl
set_option maxRecDepth 100000 in
theorem t_1142 : Cond.code yX7_mayLend cX7_mayLend 8 (some .boolean) ∈ GW := GWt5 182 rfl rfl
set_option maxRecDepth 100000 in
theorem t_1143 : Cond.methodLink RX7 116 yX7_isLoan ∈ GW := GWt5 183 rfl rfl
set_option maxRecDepth 100000 in
theorem t_1145 : Cond.instanceMethod yX7_isLoan ∈ GW := GWt5 185 rfl rfl
set_option maxRecDepth 100000 in
theorem t_1146 : Cond.code yX7_isLoan cX7_isLoan 2 (some .boolean) ∈ GW := GWt5 186 rfl rfl
set_option maxRecDepth 100000 in
theorem t_1147 : Cond.methodLink RX7 119 yX5_findLoan ∈ GW := GWt5 187 rfl rfl
set_option maxRecDepth 100000 in
theorem t_1148 : Cond.instanceMethod yX5_findLoan ∈ GW := GWt5 188 rfl rfl
set_option maxRecDepth 100000 in
theorem t_1149 : Cond.selects RX5 yX5_findLoan yX5_findLoan ∈ GW := GWt5 189 rfl rfl
set_option maxRecDepth 100000 in
theorem t_1150 : Cond.code yX5_findLoan cX5_findLoan 8 (some .int) ∈ GW := GWt5 190 rfl rfl
set_option maxRecDepth 100000 in
theorem t_1151 : Cond.methodLink RX5 97 yX0_isLooked ∈ GW := GWt5 191 rfl rfl
set_option maxRecDepth 100000 in
theorem t_1152 : Cond.methodLink RX5 101 yX5_take ∈ GW := GWt5 192 rfl rfl
set_option maxRecDepth 100000 in
theorem t_1153 : Cond.methodLink RX5 114 yJ6_bitCount_0f7a4 ∈ GW := GWt5 193 rfl rfl
set_option maxRecDepth 100000 in
theorem t_1154 : Cond.methodLink RX5 119 yX5_weigh ∈ GW := GWt5 194 rfl rfl
set_option maxRecDepth 100000 in
theorem t_1155 : Cond.methodLink RX5 123 yX5_borrowersOf ∈ GW := GWt5 195 rfl rfl
set_option maxRecDepth 100000 in
theorem t_1156 : Cond.methodLink RX5 126 yJ6_numberOfTrailingZeros_0f7a4 ∈ GW := GWt5 196 rfl rfl
set_option maxRecDepth 100000 in
theorem t_1157 : Cond.static yJ6_numberOfTrailingZeros_0f7a4 ∈ GW := GWt5 197 rfl rfl
set_option maxRecDepth 100000 in
theorem t_1158 : Cond.code yJ6_numberOfTrailingZeros_0f7a4 cJ6_numberOfTrailingZeros_0f7a4 2 (some .int) ∈ GW := GWt5 198 rfl rfl
set_option maxRecDepth 100000 in
theorem t_1159 : Cond.constant RJ6 264 (65536) ∈ GW := GWt5 199 rfl rfl
set_option maxRecDepth 100000 in
theorem t_1160 : Cond.methodLink RX11 267 yX7_howMany ∈ GW := GWt5 200 rfl rfl
set_option maxRecDepth 100000 in
theorem t_1161 : Cond.instanceMethod yX7_howMany ∈ GW := GWt5 201 rfl rfl
set_option maxRecDepth 100000 in
theorem t_1162 : Cond.selects RX7 yX7_howMany yX7_howMany ∈ GW := GWt5 202 rfl rfl
set_option maxRecDepth 100000 in
theorem t_1163 : Cond.code yX7_howMany cX7_howMany 4 (some .int) ∈ GW := GWt5 203 rfl rfl
set_option maxRecDepth 100000 in
theorem t_1164 : Cond.methodLink RX7 123 yJ6_bitCount_0f7a4 ∈ GW := GWt5 204 rfl rfl
set_option maxRecDepth 100000 in
theorem t_1165 : Cond.methodLink RX11 270 yX7_fewest ∈ GW := GWt5 205 rfl rfl
set_option maxRecDepth 100000 in
theorem t_1166 : Cond.instanceMethod yX7_fewest ∈ GW := GWt5 206 rfl rfl
set_option maxRecDepth 100000 in
theorem t_1167 : Cond.selects RX7 yX7_fewest yX7_fewest ∈ GW := GWt5 207 rfl rfl
set_option maxRecDepth 100000 in
theorem t_1168 : Cond.code yX7_fewest cX7_fewest 4 (some .int) ∈ GW := GWt5 208 rfl rfl
set_option maxRecDepth 100000 in
theorem t_1169 : Cond.methodLink RX7 129 yX7_isLess ∈ GW := GWt5 209 rfl rfl
set_option maxRecDepth 100000 in
theorem t_1170 : Cond.static yX7_isLess ∈ GW := GWt5 210 rfl rfl
set_option maxRecDepth 100000 in
theorem t_1171 : Cond.code yX7_isLess cX7_isLess 4 (some .boolean) ∈ GW := GWt5 211 rfl rfl
set_option maxRecDepth 100000 in
theorem t_1172 : Cond.methodLink RL 123 yX11_honest ∈ GW := GWt5 212 rfl rfl
set_option maxRecDepth 100000 in
theorem t_1173 : Cond.instanceMethod yX11_honest ∈ GW := GWt5 213 rfl rfl
set_option maxRecDepth 100000 in
theorem t_1174 : Cond.selects RX11 yX11_honest yX11_honest ∈ GW := GWt5 214 rfl rfl
set_option maxRecDepth 100000 in
theorem t_1175 : Cond.code yX11_honest cX11_honest 2 (some .int) ∈ GW := GWt5 215 rfl rfl
set_option maxRecDepth 100000 in
theorem t_1176 : Cond.methodLink RX11 276 yX0_copyFrom ∈ GW := GWt5 216 rfl rfl
set_option maxRecDepth 100000 in
theorem t_1177 : Cond.instanceMethod yX0_copyFrom ∈ GW := GWt5 217 rfl rfl
set_option maxRecDepth 100000 in
theorem t_1178 : Cond.selects RX0 yX0_copyFrom yX0_copyFrom ∈ GW := GWt5 218 rfl rfl
set_option maxRecDepth 100000 in
theorem t_1179 : Cond.code yX0_copyFrom cX0_copyFrom 3 (none) ∈ GW := GWt5 219 rfl rfl
set_option maxRecDepth 100000 in
theorem t_1180 : Cond.methodLink RX0 21 yX0_push ∈ GW := GWt5 220 rfl rfl
set_option maxRecDepth 100000 in
theorem t_1181 : Cond.methodLink RL 127 yX11_innocent ∈ GW := GWt5 221 rfl rfl
set_option maxRecDepth 100000 in
theorem t_1182 : Cond.instanceMethod yX11_innocent ∈ GW := GWt5 222 rfl rfl
set_option maxRecDepth 100000 in
theorem t_1183 : Cond.selects RX11 yX11_innocent yX11_innocent ∈ GW := GWt5 223 rfl rfl
set_option maxRecDepth 100000 in
theorem t_1184 : Cond.code yX11_innocent cX11_innocent 4 (some .int) ∈ GW := GWt5 224 rfl rfl
set_option maxRecDepth 100000 in
theorem t_1185 : Cond.methodLink RX11 279 yX11_isLet ∈ GW := GWt5 225 rfl rfl
set_option maxRecDepth 100000 in
theorem t_1187 : Cond.instanceMethod yX11_isLet ∈ GW := GWt5 227 rfl rfl
set_option maxRecDepth 100000 in
theorem t_1188 : Cond.code yX11_isLet cX11_isLet 3 (some .boolean) ∈ GW := GWt5 228 rfl rfl
set_option maxRecDepth 100000 in
theorem t_1189 : Cond.methodLink RX11 283 yX5_findLoan ∈ GW := GWt5 229 rfl rfl
set_option maxRecDepth 100000 in
theorem t_1190 : Cond.methodLink RL 131 yX11_parts ∈ GW := GWt5 230 rfl rfl
set_option maxRecDepth 100000 in
theorem t_1191 : Cond.instanceMethod yX11_parts ∈ GW := GWt5 231 rfl rfl
set_option maxRecDepth 100000 in
theorem t_1192 : Cond.selects RX11 yX11_parts yX11_parts ∈ GW := GWt5 232 rfl rfl
set_option maxRecDepth 100000 in
theorem t_1193 : Cond.code yX11_parts cX11_parts 4 (some .int) ∈ GW := GWt5 233 rfl rfl
set_option maxRecDepth 100000 in
theorem t_1194 : Cond.methodLink RX11 291 yX5_isEven ∈ GW := GWt5 234 rfl rfl
set_option maxRecDepth 100000 in
theorem t_1195 : Cond.instanceMethod yX5_isEven ∈ GW := GWt5 235 rfl rfl
set_option maxRecDepth 100000 in
theorem t_1196 : Cond.selects RX5 yX5_isEven yX5_isEven ∈ GW := GWt5 236 rfl rfl
set_option maxRecDepth 100000 in
theorem t_1197 : Cond.code yX5_isEven cX5_isEven 5 (some .boolean) ∈ GW := GWt5 237 rfl rfl
set_option maxRecDepth 100000 in
theorem t_1198 : Cond.methodLink RX5 93 yX5_sumInto ∈ GW := GWt5 238 rfl rfl
set_option maxRecDepth 100000 in
theorem t_1199 : Cond.methodLink RL 135 yX11_stop ∈ GW := GWt5 239 rfl rfl
set_option maxRecDepth 100000 in
theorem t_1200 : Cond.instanceMethod yX11_stop ∈ GW := GWt6 0 rfl rfl
set_option maxRecDepth 100000 in
theorem t_1201 : Cond.selects RX11 yX11_stop yX11_stop ∈ GW := GWt6 1 rfl rfl
set_option maxRecDepth 100000 in
theorem t_1202 : Cond.code yX11_stop cX11_stop 4 (some .int) ∈ GW := GWt6 2 rfl rfl
set_option maxRecDepth 100000 in
theorem t_1203 : Cond.methodLink RX11 295 yX11_sparesHonest ∈ GW := GWt6 3 rfl rfl
set_option maxRecDepth 100000 in
theorem t_1205 : Cond.instanceMethod yX11_sparesHonest ∈ GW := GWt6 5 rfl rfl
set_option maxRecDepth 100000 in
theorem t_1206 : Cond.code yX11_sparesHonest cX11_sparesHonest 3 (some .boolean) ∈ GW := GWt6 6 rfl rfl
set_option maxRecDepth 100000 in
theorem t_1207 : Cond.methodLink RX11 299 yX7_fewestWords ∈ GW := GWt6 7 rfl rfl
set_option maxRecDepth 100000 in
theorem t_1208 : Cond.instanceMethod yX7_fewestWords ∈ GW := GWt6 8 rfl rfl
set_option maxRecDepth 100000 in
theorem t_1209 : Cond.selects RX7 yX7_fewestWords yX7_fewestWords ∈ GW := GWt6 9 rfl rfl
set_option maxRecDepth 100000 in
theorem t_1210 : Cond.code yX7_fewestWords cX7_fewestWords 6 (some .int) ∈ GW := GWt6 10 rfl rfl
set_option maxRecDepth 100000 in
theorem t_1211 : Cond.methodLink RX7 136 yX7_wordsThatBar ∈ GW := GWt6 11 rfl rfl
set_option maxRecDepth 100000 in
theorem t_1213 : Cond.instanceMethod yX7_wordsThatBar ∈ GW := GWt6 13 rfl rfl
set_option maxRecDepth 100000 in
theorem t_1214 : Cond.code yX7_wordsThatBar cX7_wordsThatBar 6 (some .int) ∈ GW := GWt6 14 rfl rfl
set_option maxRecDepth 100000 in
theorem t_1215 : Cond.methodLink RX7 140 yX7_putNeed ∈ GW := GWt6 15 rfl rfl
set_option maxRecDepth 100000 in
theorem t_1217 : Cond.instanceMethod yX7_putNeed ∈ GW := GWt6 17 rfl rfl
set_option maxRecDepth 100000 in
theorem t_1218 : Cond.code yX7_putNeed cX7_putNeed 3 (none) ∈ GW := GWt6 18 rfl rfl
set_option maxRecDepth 100000 in
theorem t_1219 : Cond.methodLink RX7 144 yX7_meetsNeeds ∈ GW := GWt6 19 rfl rfl
set_option maxRecDepth 100000 in
theorem t_1221 : Cond.instanceMethod yX7_meetsNeeds ∈ GW := GWt6 21 rfl rfl
set_option maxRecDepth 100000 in
theorem t_1222 : Cond.code yX7_meetsNeeds cX7_meetsNeeds 3 (some .boolean) ∈ GW := GWt6 22 rfl rfl
set_option maxRecDepth 100000 in
theorem t_1223 : Cond.methodLink RL 139 yX11_heap ∈ GW := GWt6 23 rfl rfl
set_option maxRecDepth 100000 in
theorem t_1224 : Cond.instanceMethod yX11_heap ∈ GW := GWt6 24 rfl rfl
set_option maxRecDepth 100000 in
theorem t_1225 : Cond.selects RX11 yX11_heap yX11_heap ∈ GW := GWt6 25 rfl rfl
set_option maxRecDepth 100000 in
theorem t_1226 : Cond.code yX11_heap cX11_heap 3 (some .int) ∈ GW := GWt6 26 rfl rfl
set_option maxRecDepth 100000 in
theorem t_1227 : Cond.methodLink RX11 303 yX4_gather ∈ GW := GWt6 27 rfl rfl
set_option maxRecDepth 100000 in
theorem t_1228 : Cond.instanceMethod yX4_gather ∈ GW := GWt6 28 rfl rfl
set_option maxRecDepth 100000 in
theorem t_1229 : Cond.selects RX4 yX4_gather yX4_gather ∈ GW := GWt6 29 rfl rfl
set_option maxRecDepth 100000 in
theorem t_1230 : Cond.code yX4_gather cX4_gather 7 (none) ∈ GW := GWt6 30 rfl rfl
set_option maxRecDepth 100000 in
theorem t_1231 : Cond.methodLink RX4 90 yX1_familiesIn ∈ GW := GWt6 31 rfl rfl
set_option maxRecDepth 100000 in
theorem t_1232 : Cond.methodLink RX4 94 yX4_hangTogether ∈ GW := GWt6 32 rfl rfl
set_option maxRecDepth 100000 in
theorem t_1234 : Cond.instanceMethod yX4_hangTogether ∈ GW := GWt6 34 rfl rfl
set_option maxRecDepth 100000 in
theorem t_1235 : Cond.code yX4_hangTogether cX4_hangTogether 5 (some .boolean) ∈ GW := GWt6 35 rfl rfl
set_option maxRecDepth 100000 in
theorem t_1236 : Cond.methodLink RX4 111 yJ9_abs_0f7a4 ∈ GW := GWt6 36 rfl rfl
set_option maxRecDepth 100000 in
theorem t_1237 : Cond.static yJ9_abs_0f7a4 ∈ GW := GWt6 37 rfl rfl
set_option maxRecDepth 100000 in
theorem t_1238 : Cond.code yJ9_abs_0f7a4 cJ9_abs_0f7a4 1 (some .int) ∈ GW := GWt6 38 rfl rfl
set_option maxRecDepth 100000 in
theorem t_1239 : Cond.methodLink RX4 98 yX4_join ∈ GW := GWt6 39 rfl rfl
set_option maxRecDepth 100000 in
theorem t_1241 : Cond.instanceMethod yX4_join ∈ GW := GWt6 41 rfl rfl
set_option maxRecDepth 100000 in
theorem t_1242 : Cond.code yX4_join cX4_join 6 (none) ∈ GW := GWt6 42 rfl rfl
set_option maxRecDepth 100000 in
theorem t_1243 : Cond.methodLink RX4 114 yJ9_min_7cf53 ∈ GW := GWt6 43 rfl rfl
set_option maxRecDepth 100000 in
theorem t_1244 : Cond.methodLink RX11 307 yX4_heaps ∈ GW := GWt6 44 rfl rfl
set_option maxRecDepth 100000 in
theorem t_1245 : Cond.instanceMethod yX4_heaps ∈ GW := GWt6 45 rfl rfl
set_option maxRecDepth 100000 in
theorem t_1246 : Cond.selects RX4 yX4_heaps yX4_heaps ∈ GW := GWt6 46 rfl rfl
set_option maxRecDepth 100000 in
theorem t_1247 : Cond.code yX4_heaps cX4_heaps 4 (some .int) ∈ GW := GWt6 47 rfl rfl
set_option maxRecDepth 100000 in
theorem t_1248 : Cond.methodLink RL 143 yX11_group ∈ GW := GWt6 48 rfl rfl
set_option maxRecDepth 100000 in
theorem t_1249 : Cond.instanceMethod yX11_group ∈ GW := GWt6 49 rfl rfl
set_option maxRecDepth 100000 in
theorem t_1250 : Cond.selects RX11 yX11_group yX11_group ∈ GW := GWt6 50 rfl rfl
set_option maxRecDepth 100000 in
theorem t_1251 : Cond.code yX11_group cX11_group 3 (some .int) ∈ GW := GWt6 51 rfl rfl
set_option maxRecDepth 100000 in
theorem t_1252 : Cond.methodLink RX11 313 yX4_fillBundle ∈ GW := GWt6 52 rfl rfl
set_option maxRecDepth 100000 in
theorem t_1253 : Cond.instanceMethod yX4_fillBundle ∈ GW := GWt6 53 rfl rfl
set_option maxRecDepth 100000 in
theorem t_1254 : Cond.selects RX4 yX4_fillBundle yX4_fillBundle ∈ GW := GWt6 54 rfl rfl
set_option maxRecDepth 100000 in
theorem t_1255 : Cond.code yX4_fillBundle cX4_fillBundle 5 (some .boolean) ∈ GW := GWt6 55 rfl rfl
set_option maxRecDepth 100000 in
theorem t_1256 : Cond.methodLink RX4 120 yX0_push ∈ GW := GWt6 56 rfl rfl
set_option maxRecDepth 100000 in
theorem t_1257 : Cond.methodLink RL 147 yX11_count ∈ GW := GWt6 57 rfl rfl
set_option maxRecDepth 100000 in
theorem t_1258 : Cond.instanceMethod yX11_count ∈ GW := GWt6 58 rfl rfl
set_option maxRecDepth 100000 in
theorem t_1259 : Cond.selects RX11 yX11_count yX11_count ∈ GW := GWt6 59 rfl rfl
set_option maxRecDepth 100000 in
theorem t_1260 : Cond.code yX11_count cX11_count 2 (some .int) ∈ GW := GWt6 60 rfl rfl
set_option maxRecDepth 100000 in
theorem t_1261 : Cond.methodLink RX11 321 yX0_allLeaves ∈ GW := GWt6 61 rfl rfl
set_option maxRecDepth 100000 in
theorem t_1262 : Cond.instanceMethod yX0_allLeaves ∈ GW := GWt6 62 rfl rfl
set_option maxRecDepth 100000 in
theorem t_1263 : Cond.selects RX0 yX0_allLeaves yX0_allLeaves ∈ GW := GWt6 63 rfl rfl
set_option maxRecDepth 100000 in
theorem t_1264 : Cond.code yX0_allLeaves cX0_allLeaves 3 (some .int) ∈ GW := GWt6 64 rfl rfl
set_option maxRecDepth 100000 in
theorem t_1265 : Cond.methodLink RX11 324 yX0_allChoices ∈ GW := GWt6 65 rfl rfl
set_option maxRecDepth 100000 in
theorem t_1266 : Cond.classLink RL 10 RX12 ∈ GW := GWt6 66 rfl rfl
set_option maxRecDepth 100000 in
theorem t_1267 : Cond.instantiable RX12 93 ∈ GW := GWt6 67 rfl rfl
set_option maxRecDepth 100000 in
theorem t_1268 : Cond.methodLink RL 12 yX12_init ∈ GW := GWt6 68 rfl rfl
set_option maxRecDepth 100000 in
theorem t_1269 : Cond.instanceMethod yX12_init ∈ GW := GWt6 69 rfl rfl
set_option maxRecDepth 100000 in
theorem t_1270 : Cond.code yX12_init cX12_init 2 (none) ∈ GW := GWt6 70 rfl rfl
set_option maxRecDepth 100000 in
theorem t_1271 : Cond.methodLink RX12 1 Lib.objectInit ∈ GW := GWt6 71 rfl rfl
set_option maxRecDepth 100000 in
theorem t_1272 : Cond.fieldLink RX12 7 (TX12 0).1 (TX12 0).2.1 (TX12 0).2.2.1 ∈ GW := GWt6 72 rfl rfl
set_option maxRecDepth 100000 in
theorem t_1273 : Cond.fieldLink RX12 332 (TX12 1).1 (TX12 1).2.1 (TX12 1).2.2.1 ∈ GW := GWt6 73 rfl rfl
set_option maxRecDepth 100000 in
theorem t_1274 : Cond.fieldLink RX12 13 (TX12 2).1 (TX12 2).2.1 (TX12 2).2.2.1 ∈ GW := GWt6 74 rfl rfl
set_option maxRecDepth 100000 in
theorem t_1275 : Cond.fieldLink RX12 16 (TX12 3).1 (TX12 3).2.1 (TX12 3).2.2.1 ∈ GW := GWt6 75 rfl rfl
set_option maxRecDepth 100000 in
theorem t_1276 : Cond.fieldLink RX12 19 (TX12 4).1 (TX12 4).2.1 (TX12 4).2.2.1 ∈ GW := GWt6 76 rfl rfl
set_option maxRecDepth 100000 in
theorem t_1277 : Cond.fieldLink RX12 22 (TX12 5).1 (TX12 5).2.1 (TX12 5).2.2.1 ∈ GW := GWt6 77 rfl rfl
set_option maxRecDepth 100000 in
theorem t_1278 : Cond.fieldLink RX12 25 (TX12 6).1 (TX12 6).2.1 (TX12 6).2.2.1 ∈ GW := GWt6 78 rfl rfl
set_option maxRecDepth 100000 in
theorem t_1279 : Cond.fieldLink RX12 28 (TX12 7).1 (TX12 7).2.1 (TX12 7).2.2.1 ∈ GW := GWt6 79 rfl rfl
set_option maxRecDepth 100000 in
theorem t_1280 : Cond.fieldLink RX12 31 (TX12 8).1 (TX12 8).2.1 (TX12 8).2.2.1 ∈ GW := GWt6 80 rfl rfl
set_option maxRecDepth 100000 in
theorem t_1281 : Cond.fieldLink RX12 34 (TX12 9).1 (TX12 9).2.1 (TX12 9).2.2.1 ∈ GW := GWt6 81 rfl rfl
set_option maxRecDepth 100000 in
theorem t_1282 : Cond.fieldLink RX12 37 (TX12 10).1 (TX12 10).2.1 (TX12 10).2.2.1 ∈ GW := GWt6 82 rfl rfl
set_option maxRecDepth 100000 in
theorem t_1283 : Cond.fieldLink RX12 40 (TX12 11).1 (TX12 11).2.1 (TX12 11).2.2.1 ∈ GW := GWt6 83 rfl rfl
set_option maxRecDepth 100000 in
theorem t_1284 : Cond.fieldLink RX12 43 (TX12 12).1 (TX12 12).2.1 (TX12 12).2.2.1 ∈ GW := GWt6 84 rfl rfl
set_option maxRecDepth 100000 in
theorem t_1285 : Cond.fieldLink RX12 46 (TX12 13).1 (TX12 13).2.1 (TX12 13).2.2.1 ∈ GW := GWt6 85 rfl rfl
set_option maxRecDepth 100000 in
theorem t_1286 : Cond.fieldLink RX12 49 (TX12 14).1 (TX12 14).2.1 (TX12 14).2.2.1 ∈ GW := GWt6 86 rfl rfl
set_option maxRecDepth 100000 in
theorem t_1287 : Cond.fieldLink RX12 52 (TX12 15).1 (TX12 15).2.1 (TX12 15).2.2.1 ∈ GW := GWt6 87 rfl rfl
set_option maxRecDepth 100000 in
theorem t_1288 : Cond.fieldLink RX12 55 (TX12 16).1 (TX12 16).2.1 (TX12 16).2.2.1 ∈ GW := GWt6 88 rfl rfl
set_option maxRecDepth 100000 in
theorem t_1289 : Cond.fieldLink RX12 58 (TX12 17).1 (TX12 17).2.1 (TX12 17).2.2.1 ∈ GW := GWt6 89 rfl rfl
set_option maxRecDepth 100000 in
theorem t_1290 : Cond.fieldLink RX12 61 (TX12 18).1 (TX12 18).2.1 (TX12 18).2.2.1 ∈ GW := GWt6 90 rfl rfl
set_option maxRecDepth 100000 in
theorem t_1291 : Cond.fieldLink RX12 64 (TX12 19).1 (TX12 19).2.1 (TX12 19).2.2.1 ∈ GW := GWt6 91 rfl rfl
set_option maxRecDepth 100000 in
theorem t_1292 : Cond.fieldLink RX12 67 (TX12 20).1 (TX12 20).2.1 (TX12 20).2.2.1 ∈ GW := GWt6 92 rfl rfl
set_option maxRecDepth 100000 in
theorem t_1293 : Cond.fieldLink RX12 189 (TX12 21).1 (TX12 21).2.1 (TX12 21).2.2.1 ∈ GW := GWt6 93 rfl rfl
set_option maxRecDepth 100000 in
theorem t_1294 : Cond.fieldLink RX12 71 (TX12 22).1 (TX12 22).2.1 (TX12 22).2.2.1 ∈ GW := GWt6 94 rfl rfl
set_option maxRecDepth 100000 in
theorem t_1295 : Cond.fieldLink RX12 195 (TX12 23).1 (TX12 23).2.1 (TX12 23).2.2.1 ∈ GW := GWt6 95 rfl rfl
set_option maxRecDepth 100000 in
theorem t_1296 : Cond.fieldLink RX12 192 (TX12 24).1 (TX12 24).2.1 (TX12 24).2.2.1 ∈ GW := GWt6 96 rfl rfl
set_option maxRecDepth 100000 in
theorem t_1297 : Cond.fieldLink RX12 202 (TX12 25).1 (TX12 25).2.1 (TX12 25).2.2.1 ∈ GW := GWt6 97 rfl rfl
set_option maxRecDepth 100000 in
theorem t_1298 : Cond.fieldLink RX12 214 (TX12 26).1 (TX12 26).2.1 (TX12 26).2.2.1 ∈ GW := GWt6 98 rfl rfl
set_option maxRecDepth 100000 in
theorem t_1299 : Cond.fieldLink RX12 211 (TX12 27).1 (TX12 27).2.1 (TX12 27).2.2.1 ∈ GW := GWt6 99 rfl rfl
set_option maxRecDepth 100000 in
theorem t_1300 : Cond.fieldLink RX12 207 (TX12 28).1 (TX12 28).2.1 (TX12 28).2.2.1 ∈ GW := GWt6 100 rfl rfl
set_option maxRecDepth 100000 in
theorem t_1301 : Cond.fieldLink RX12 220 (TX12 29).1 (TX12 29).2.1 (TX12 29).2.2.1 ∈ GW := GWt6 101 rfl rfl
set_option maxRecDepth 100000 in
theorem t_1302 : Cond.fieldLink RX12 75 (TX12 30).1 (TX12 30).2.1 (TX12 30).2.2.1 ∈ GW := GWt6 102 rfl rfl
set_option maxRecDepth 100000 in
theorem t_1303 : Cond.fieldLink RX12 78 (TX12 31).1 (TX12 31).2.1 (TX12 31).2.2.1 ∈ GW := GWt6 103 rfl rfl
set_option maxRecDepth 100000 in
theorem t_1304 : Cond.fieldLink RX12 283 (TX12 32).1 (TX12 32).2.1 (TX12 32).2.2.1 ∈ GW := GWt6 104 rfl rfl
set_option maxRecDepth 100000 in
theorem t_1305 : Cond.fieldLink RX12 280 (TX12 33).1 (TX12 33).2.1 (TX12 33).2.2.1 ∈ GW := GWt6 105 rfl rfl
set_option maxRecDepth 100000 in
theorem t_1306 : Cond.fieldLink RX12 286 (TX12 34).1 (TX12 34).2.1 (TX12 34).2.2.1 ∈ GW := GWt6 106 rfl rfl
set_option maxRecDepth 100000 in
theorem t_1307 : Cond.fieldLink RX12 315 (TX12 35).1 (TX12 35).2.1 (TX12 35).2.2.1 ∈ GW := GWt6 107 rfl rfl
set_option maxRecDepth 100000 in
theorem t_1308 : Cond.fieldLink RX12 321 (TX12 36).1 (TX12 36).2.1 (TX12 36).2.2.1 ∈ GW := GWt6 108 rfl rfl
set_option maxRecDepth 100000 in
theorem t_1309 : Cond.fieldLink RX12 277 (TX12 37).1 (TX12 37).2.1 (TX12 37).2.2.1 ∈ GW := GWt6 109 rfl rfl
set_option maxRecDepth 100000 in
theorem t_1310 : Cond.fieldLink RX12 81 (TX12 38).1 (TX12 38).2.1 (TX12 38).2.2.1 ∈ GW := GWt6 110 rfl rfl
set_option maxRecDepth 100000 in
theorem t_1311 : Cond.fieldLink RX12 85 (TX12 39).1 (TX12 39).2.1 (TX12 39).2.2.1 ∈ GW := GWt6 111 rfl rfl
set_option maxRecDepth 100000 in
theorem t_1312 : Cond.fieldLink RX12 88 (TX12 40).1 (TX12 40).2.1 (TX12 40).2.2.1 ∈ GW := GWt6 112 rfl rfl
set_option maxRecDepth 100000 in
theorem t_1313 : Cond.fieldLink RX12 394 (TX12 41).1 (TX12 41).2.1 (TX12 41).2.2.1 ∈ GW := GWt6 113 rfl rfl
set_option maxRecDepth 100000 in
theorem t_1314 : Cond.fieldLink RX12 365 (TX12 42).1 (TX12 42).2.1 (TX12 42).2.2.1 ∈ GW := GWt6 114 rfl rfl
set_option maxRecDepth 100000 in
theorem t_1315 : Cond.fieldLink RX12 368 (TX12 43).1 (TX12 43).2.1 (TX12 43).2.2.1 ∈ GW := GWt6 115 rfl rfl
set_option maxRecDepth 100000 in
theorem t_1316 : Cond.fieldLink RX12 91 (TX12 44).1 (TX12 44).2.1 (TX12 44).2.2.1 ∈ GW := GWt6 116 rfl rfl
set_option maxRecDepth 100000 in
theorem t_1317 : Cond.fieldLink RX12 371 (TX12 45).1 (TX12 45).2.1 (TX12 45).2.2.1 ∈ GW := GWt6 117 rfl rfl
set_option maxRecDepth 100000 in
theorem t_1318 : Cond.fieldLink RX12 94 (TX12 46).1 (TX12 46).2.1 (TX12 46).2.2.1 ∈ GW := GWt6 118 rfl rfl
set_option maxRecDepth 100000 in
theorem t_1319 : Cond.fieldLink RX12 374 (TX12 47).1 (TX12 47).2.1 (TX12 47).2.2.1 ∈ GW := GWt6 119 rfl rfl
set_option maxRecDepth 100000 in
theorem t_1320 : Cond.fieldLink RX12 404 (TX12 48).1 (TX12 48).2.1 (TX12 48).2.2.1 ∈ GW := GWt6 120 rfl rfl
set_option maxRecDepth 100000 in
theorem t_1321 : Cond.fieldLink RX12 97 (TX12 49).1 (TX12 49).2.1 (TX12 49).2.2.1 ∈ GW := GWt6 121 rfl rfl
set_option maxRecDepth 100000 in
theorem t_1322 : Cond.fieldLink RX12 100 (TX12 50).1 (TX12 50).2.1 (TX12 50).2.2.1 ∈ GW := GWt6 122 rfl rfl
set_option maxRecDepth 100000 in
theorem t_1323 : Cond.fieldLink RX12 103 (TX12 51).1 (TX12 51).2.1 (TX12 51).2.2.1 ∈ GW := GWt6 123 rfl rfl
set_option maxRecDepth 100000 in
theorem t_1324 : Cond.fieldLink RX12 106 (TX12 52).1 (TX12 52).2.1 (TX12 52).2.2.1 ∈ GW := GWt6 124 rfl rfl
set_option maxRecDepth 100000 in
theorem t_1325 : Cond.fieldLink RX12 109 (TX12 53).1 (TX12 53).2.1 (TX12 53).2.2.1 ∈ GW := GWt6 125 rfl rfl
set_option maxRecDepth 100000 in
theorem t_1326 : Cond.fieldLink RX12 422 (TX12 54).1 (TX12 54).2.1 (TX12 54).2.2.1 ∈ GW := GWt6 126 rfl rfl
set_option maxRecDepth 100000 in
theorem t_1327 : Cond.fieldLink RX12 425 (TX12 55).1 (TX12 55).2.1 (TX12 55).2.2.1 ∈ GW := GWt6 127 rfl rfl
set_option maxRecDepth 100000 in
theorem t_1328 : Cond.fieldLink RX12 113 (TX12 56).1 (TX12 56).2.1 (TX12 56).2.2.1 ∈ GW := GWt6 128 rfl rfl
set_option maxRecDepth 100000 in
theorem t_1329 : Cond.fieldLink RX12 116 (TX12 57).1 (TX12 57).2.1 (TX12 57).2.2.1 ∈ GW := GWt6 129 rfl rfl
set_option maxRecDepth 100000 in
theorem t_1330 : Cond.fieldLink RX12 443 (TX12 58).1 (TX12 58).2.1 (TX12 58).2.2.1 ∈ GW := GWt6 130 rfl rfl
set_option maxRecDepth 100000 in
theorem t_1331 : Cond.fieldLink RX12 446 (TX12 59).1 (TX12 59).2.1 (TX12 59).2.2.1 ∈ GW := GWt6 131 rfl rfl
set_option maxRecDepth 100000 in
theorem t_1332 : Cond.fieldLink RX12 449 (TX12 60).1 (TX12 60).2.1 (TX12 60).2.2.1 ∈ GW := GWt6 132 rfl rfl
set_option maxRecDepth 100000 in
theorem t_1333 : Cond.fieldLink RX12 477 (TX12 61).1 (TX12 61).2.1 (TX12 61).2.2.1 ∈ GW := GWt6 133 rfl rfl
set_option maxRecDepth 100000 in
theorem t_1334 : Cond.fieldLink RX12 119 (TX12 62).1 (TX12 62).2.1 (TX12 62).2.2.1 ∈ GW := GWt6 134 rfl rfl
set_option maxRecDepth 100000 in
theorem t_1335 : Cond.fieldLink RX12 122 (TX12 63).1 (TX12 63).2.1 (TX12 63).2.2.1 ∈ GW := GWt6 135 rfl rfl
set_option maxRecDepth 100000 in
theorem t_1336 : Cond.fieldLink RX12 125 (TX12 64).1 (TX12 64).2.1 (TX12 64).2.2.1 ∈ GW := GWt6 136 rfl rfl
set_option maxRecDepth 100000 in
theorem t_1337 : Cond.fieldLink RX12 128 (TX12 65).1 (TX12 65).2.1 (TX12 65).2.2.1 ∈ GW := GWt6 137 rfl rfl
set_option maxRecDepth 100000 in
theorem t_1338 : Cond.fieldLink RX12 131 (TX12 66).1 (TX12 66).2.1 (TX12 66).2.2.1 ∈ GW := GWt6 138 rfl rfl
set_option maxRecDepth 100000 in
theorem t_1339 : Cond.fieldLink RX12 535 (TX12 67).1 (TX12 67).2.1 (TX12 67).2.2.1 ∈ GW := GWt6 139 rfl rfl
set_option maxRecDepth 100000 in
theorem t_1340 : Cond.fieldLink RX12 541 (TX12 68).1 (TX12 68).2.1 (TX12 68).2.2.1 ∈ GW := GWt6 140 rfl rfl
set_option maxRecDepth 100000 in
theorem t_1341 : Cond.fieldLink RX12 134 (TX12 69).1 (TX12 69).2.1 (TX12 69).2.2.1 ∈ GW := GWt6 141 rfl rfl
set_option maxRecDepth 100000 in
theorem t_1342 : Cond.fieldLink RX12 137 (TX12 70).1 (TX12 70).2.1 (TX12 70).2.2.1 ∈ GW := GWt6 142 rfl rfl
set_option maxRecDepth 100000 in
theorem t_1343 : Cond.fieldLink RX12 140 (TX12 71).1 (TX12 71).2.1 (TX12 71).2.2.1 ∈ GW := GWt6 143 rfl rfl
set_option maxRecDepth 100000 in
theorem t_1344 : Cond.fieldLink RX12 143 (TX12 72).1 (TX12 72).2.1 (TX12 72).2.2.1 ∈ GW := GWt6 144 rfl rfl
set_option maxRecDepth 100000 in
theorem t_1345 : Cond.fieldLink RX12 146 (TX12 73).1 (TX12 73).2.1 (TX12 73).2.2.1 ∈ GW := GWt6 145 rfl rfl
set_option maxRecDepth 100000 in
theorem t_1346 : Cond.fieldLink RX12 149 (TX12 74).1 (TX12 74).2.1 (TX12 74).2.2.1 ∈ GW := GWt6 146 rfl rfl
set_option maxRecDepth 100000 in
theorem t_1347 : Cond.fieldLink RX12 152 (TX12 75).1 (TX12 75).2.1 (TX12 75).2.2.1 ∈ GW := GWt6 147 rfl rfl
set_option maxRecDepth 100000 in
theorem t_1348 : Cond.fieldLink RX12 155 (TX12 76).1 (TX12 76).2.1 (TX12 76).2.2.1 ∈ GW := GWt6 148 rfl rfl
set_option maxRecDepth 100000 in
theorem t_1349 : Cond.fieldLink RX12 158 (TX12 77).1 (TX12 77).2.1 (TX12 77).2.2.1 ∈ GW := GWt6 149 rfl rfl
set_option maxRecDepth 100000 in
theorem t_1350 : Cond.fieldLink RX12 544 (TX12 78).1 (TX12 78).2.1 (TX12 78).2.2.1 ∈ GW := GWt6 150 rfl rfl
set_option maxRecDepth 100000 in
theorem t_1351 : Cond.fieldLink RX12 550 (TX12 79).1 (TX12 79).2.1 (TX12 79).2.2.1 ∈ GW := GWt6 151 rfl rfl
set_option maxRecDepth 100000 in
theorem t_1352 : Cond.fieldLink RX12 553 (TX12 80).1 (TX12 80).2.1 (TX12 80).2.2.1 ∈ GW := GWt6 152 rfl rfl
set_option maxRecDepth 100000 in
theorem t_1353 : Cond.fieldLink RX12 161 (TX12 81).1 (TX12 81).2.1 (TX12 81).2.2.1 ∈ GW := GWt6 153 rfl rfl
set_option maxRecDepth 100000 in
theorem t_1354 : Cond.fieldLink RX12 164 (TX12 82).1 (TX12 82).2.1 (TX12 82).2.2.1 ∈ GW := GWt6 154 rfl rfl
set_option maxRecDepth 100000 in
theorem t_1355 : Cond.fieldLink RX12 571 (TX12 83).1 (TX12 83).2.1 (TX12 83).2.2.1 ∈ GW := GWt6 155 rfl rfl
set_option maxRecDepth 100000 in
theorem t_1356 : Cond.fieldLink RX12 574 (TX12 84).1 (TX12 84).2.1 (TX12 84).2.2.1 ∈ GW := GWt6 156 rfl rfl
set_option maxRecDepth 100000 in
theorem t_1357 : Cond.fieldLink RX12 577 (TX12 85).1 (TX12 85).2.1 (TX12 85).2.2.1 ∈ GW := GWt6 157 rfl rfl
set_option maxRecDepth 100000 in
theorem t_1358 : Cond.fieldLink RX12 167 (TX12 86).1 (TX12 86).2.1 (TX12 86).2.2.1 ∈ GW := GWt6 158 rfl rfl
set_option maxRecDepth 100000 in
theorem t_1359 : Cond.fieldLink RX12 170 (TX12 87).1 (TX12 87).2.1 (TX12 87).2.2.1 ∈ GW := GWt6 159 rfl rfl
set_option maxRecDepth 100000 in
theorem t_1360 : Cond.fieldLink RX12 586 (TX12 88).1 (TX12 88).2.1 (TX12 88).2.2.1 ∈ GW := GWt6 160 rfl rfl
set_option maxRecDepth 100000 in
theorem t_1361 : Cond.fieldLink RX12 173 (TX12 89).1 (TX12 89).2.1 (TX12 89).2.2.1 ∈ GW := GWt6 161 rfl rfl
set_option maxRecDepth 100000 in
theorem t_1362 : Cond.fieldLink RX12 176 (TX12 90).1 (TX12 90).2.1 (TX12 90).2.2.1 ∈ GW := GWt6 162 rfl rfl
set_option maxRecDepth 100000 in
theorem t_1363 : Cond.fieldLink RX12 179 (TX12 91).1 (TX12 91).2.1 (TX12 91).2.2.1 ∈ GW := GWt6 163 rfl rfl
set_option maxRecDepth 100000 in
theorem t_1364 : Cond.fieldLink RX12 182 (TX12 92).1 (TX12 92).2.1 (TX12 92).2.2.1 ∈ GW := GWt6 164 rfl rfl
set_option maxRecDepth 100000 in
theorem t_1552 : Cond.arrayClass .boolean ∈ GW := GWt7 112 rfl rfl
set_option maxRecDepth 100000 in
theorem t_1553 : Cond.methodLink RL 17 yX12_family ∈ GW := GWt7 113 rfl rfl
set_option maxRecDepth 100000 in
theorem t_1554 : Cond.instanceMethod yX12_family ∈ GW := GWt7 114 rfl rfl
set_option maxRecDepth 100000 in
theorem t_1555 : Cond.selects RX12 yX12_family yX12_family ∈ GW := GWt7 115 rfl rfl
set_option maxRecDepth 100000 in
theorem t_1556 : Cond.code yX12_family cX12_family 3 (some .boolean) ∈ GW := GWt7 116 rfl rfl
set_option maxRecDepth 100000 in
theorem t_1557 : Cond.methodLink RX12 185 yX12_within ∈ GW := GWt7 117 rfl rfl
set_option maxRecDepth 100000 in
theorem t_1558 : Cond.static yX12_within ∈ GW := GWt7 118 rfl rfl
set_option maxRecDepth 100000 in
theorem t_1559 : Cond.code yX12_within cX12_within 3 (some .boolean) ∈ GW := GWt7 119 rfl rfl
set_option maxRecDepth 100000 in
theorem t_1560 : Cond.methodLink RL 22 yX12_feed ∈ GW := GWt7 120 rfl rfl
set_option maxRecDepth 100000 in
theorem t_1561 : Cond.instanceMethod yX12_feed ∈ GW := GWt7 121 rfl rfl
set_option maxRecDepth 100000 in
theorem t_1562 : Cond.selects RX12 yX12_feed yX12_feed ∈ GW := GWt7 122 rfl rfl
set_option maxRecDepth 100000 in
theorem t_1563 : Cond.code yX12_feed cX12_feed 8 (some .int) ∈ GW := GWt7 123 rfl rfl
set_option maxRecDepth 100000 in
theorem t_1564 : Cond.methodLink RL 27 yX12_deal ∈ GW := GWt7 124 rfl rfl
set_option maxRecDepth 100000 in
theorem t_1565 : Cond.instanceMethod yX12_deal ∈ GW := GWt7 125 rfl rfl
set_option maxRecDepth 100000 in
theorem t_1566 : Cond.selects RX12 yX12_deal yX12_deal ∈ GW := GWt7 126 rfl rfl
set_option maxRecDepth 100000 in
theorem t_1567 : Cond.code yX12_deal cX12_deal 5 (some .int) ∈ GW := GWt7 127 rfl rfl
set_option maxRecDepth 100000 in
theorem t_1568 : Cond.methodLink RX12 335 yX12_beginsText ∈ GW := GWt7 128 rfl rfl
set_option maxRecDepth 100000 in
theorem t_1570 : Cond.instanceMethod yX12_beginsText ∈ GW := GWt7 130 rfl rfl
set_option maxRecDepth 100000 in
theorem t_1571 : Cond.code yX12_beginsText cX12_beginsText 2 (none) ∈ GW := GWt7 131 rfl rfl
set_option maxRecDepth 100000 in
theorem t_1572 : Cond.methodLink RX12 228 yX12_next ∈ GW := GWt7 132 rfl rfl
set_option maxRecDepth 100000 in
theorem t_1574 : Cond.instanceMethod yX12_next ∈ GW := GWt7 134 rfl rfl
set_option maxRecDepth 100000 in
theorem t_1575 : Cond.code yX12_next cX12_next 2 (none) ∈ GW := GWt7 135 rfl rfl
set_option maxRecDepth 100000 in
theorem t_1576 : Cond.methodLink RX12 198 yX12_here ∈ GW := GWt7 136 rfl rfl
set_option maxRecDepth 100000 in
theorem t_1578 : Cond.instanceMethod yX12_here ∈ GW := GWt7 138 rfl rfl
set_option maxRecDepth 100000 in
theorem t_1579 : Cond.code yX12_here cX12_here 1 (some .int) ∈ GW := GWt7 139 rfl rfl
set_option maxRecDepth 100000 in
theorem t_1580 : Cond.constantLong RX12 205 (-1) ∈ GW := GWt7 140 rfl rfl
set_option maxRecDepth 100000 in
theorem t_1581 : Cond.constantLong RX12 217 (27) ∈ GW := GWt7 141 rfl rfl
set_option maxRecDepth 100000 in
theorem t_1582 : Cond.constant RX12 219 (1000000) ∈ GW := GWt7 142 rfl rfl
set_option maxRecDepth 100000 in
theorem t_1583 : Cond.methodLink RX12 339 yX12_kindHere ∈ GW := GWt7 143 rfl rfl
set_option maxRecDepth 100000 in
theorem t_1585 : Cond.instanceMethod yX12_kindHere ∈ GW := GWt7 145 rfl rfl
set_option maxRecDepth 100000 in
theorem t_1586 : Cond.code yX12_kindHere cX12_kindHere 1 (some .int) ∈ GW := GWt7 146 rfl rfl
set_option maxRecDepth 100000 in
theorem t_1587 : Cond.constantLong RX12 256 (316189) ∈ GW := GWt7 147 rfl rfl
set_option maxRecDepth 100000 in
theorem t_1588 : Cond.constantLong RX12 258 (144524) ∈ GW := GWt7 148 rfl rfl
set_option maxRecDepth 100000 in
theorem t_1589 : Cond.constantLong RX12 260 (375035) ∈ GW := GWt7 149 rfl rfl
set_option maxRecDepth 100000 in
theorem t_1590 : Cond.constantLong RX12 262 (164516) ∈ GW := GWt7 150 rfl rfl
set_option maxRecDepth 100000 in
theorem t_1591 : Cond.constantLong RX12 264 (664272) ∈ GW := GWt7 151 rfl rfl
set_option maxRecDepth 100000 in
theorem t_1592 : Cond.constantLong RX12 266 (10815598) ∈ GW := GWt7 152 rfl rfl
set_option maxRecDepth 100000 in
theorem t_1593 : Cond.constantLong RX12 268 (249) ∈ GW := GWt7 153 rfl rfl
set_option maxRecDepth 100000 in
theorem t_1594 : Cond.constantLong RX12 270 (47600141) ∈ GW := GWt7 154 rfl rfl
set_option maxRecDepth 100000 in
theorem t_1595 : Cond.methodLink RX12 231 yX12_errs ∈ GW := GWt7 155 rfl rfl
set_option maxRecDepth 100000 in
theorem t_1597 : Cond.instanceMethod yX12_errs ∈ GW := GWt7 157 rfl rfl
set_option maxRecDepth 100000 in
theorem t_1598 : Cond.code yX12_errs cX12_errs 1 (none) ∈ GW := GWt7 158 rfl rfl
set_option maxRecDepth 100000 in
theorem t_1599 : Cond.methodLink RX12 342 yX12_readLeaf ∈ GW := GWt7 159 rfl rfl
set_option maxRecDepth 100000 in
theorem t_1601 : Cond.instanceMethod yX12_readLeaf ∈ GW := GWt7 161 rfl rfl
set_option maxRecDepth 100000 in
theorem t_1602 : Cond.code yX12_readLeaf cX12_readLeaf 3 (none) ∈ GW := GWt7 162 rfl rfl
set_option maxRecDepth 100000 in
theorem t_1603 : Cond.methodLink RX12 289 yX12_newNode ∈ GW := GWt7 163 rfl rfl
set_option maxRecDepth 100000 in
theorem t_1605 : Cond.instanceMethod yX12_newNode ∈ GW := GWt7 165 rfl rfl
set_option maxRecDepth 100000 in
theorem t_1606 : Cond.code yX12_newNode cX12_newNode 3 (some .int) ∈ GW := GWt7 166 rfl rfl
set_option maxRecDepth 100000 in
theorem t_1607 : Cond.methodLink RX12 293 yX12_hand ∈ GW := GWt7 167 rfl rfl
set_option maxRecDepth 100000 in
theorem t_1609 : Cond.instanceMethod yX12_hand ∈ GW := GWt7 169 rfl rfl
set_option maxRecDepth 100000 in
theorem t_1610 : Cond.code yX12_hand cX12_hand 3 (some .int) ∈ GW := GWt7 170 rfl rfl
set_option maxRecDepth 100000 in
theorem t_1611 : Cond.constantLong RX12 272 (8) ∈ GW := GWt7 171 rfl rfl
set_option maxRecDepth 100000 in
theorem t_1612 : Cond.methodLink RX12 296 yX12_thingOf ∈ GW := GWt7 172 rfl rfl
set_option maxRecDepth 100000 in
theorem t_1614 : Cond.instanceMethod yX12_thingOf ∈ GW := GWt7 174 rfl rfl
set_option maxRecDepth 100000 in
theorem t_1615 : Cond.code yX12_thingOf cX12_thingOf 2 (some .int) ∈ GW := GWt7 175 rfl rfl
set_option maxRecDepth 100000 in
theorem t_1616 : Cond.methodLink RX12 274 yX12_thingHere ∈ GW := GWt7 176 rfl rfl
set_option maxRecDepth 100000 in
theorem t_1618 : Cond.instanceMethod yX12_thingHere ∈ GW := GWt7 178 rfl rfl
set_option maxRecDepth 100000 in
theorem t_1619 : Cond.code yX12_thingHere cX12_thingHere 1 (some .int) ∈ GW := GWt7 179 rfl rfl
set_option maxRecDepth 100000 in
theorem t_1620 : Cond.constantLong RX12 234 (70241) ∈ GW := GWt7 180 rfl rfl
set_option maxRecDepth 100000 in
theorem t_1621 : Cond.constantLong RX12 236 (271517) ∈ GW := GWt7 181 rfl rfl
set_option maxRecDepth 100000 in
theorem t_1622 : Cond.constantLong RX12 238 (1842002) ∈ GW := GWt7 182 rfl rfl
set_option maxRecDepth 100000 in
theorem t_1623 : Cond.constantLong RX12 240 (4562600) ∈ GW := GWt7 183 rfl rfl
set_option maxRecDepth 100000 in
theorem t_1624 : Cond.constantLong RX12 242 (464141) ∈ GW := GWt7 184 rfl rfl
set_option maxRecDepth 100000 in
theorem t_1625 : Cond.constantLong RX12 244 (4075367) ∈ GW := GWt7 185 rfl rfl
set_option maxRecDepth 100000 in
theorem t_1626 : Cond.methodLink RX12 299 yX12_numeral ∈ GW := GWt7 186 rfl rfl
set_option maxRecDepth 100000 in
theorem t_1628 : Cond.instanceMethod yX12_numeral ∈ GW := GWt7 188 rfl rfl
set_option maxRecDepth 100000 in
theorem t_1629 : Cond.code yX12_numeral cX12_numeral 4 (some .int) ∈ GW := GWt7 189 rfl rfl
set_option maxRecDepth 100000 in
theorem t_1630 : Cond.constantLong RX12 303 (4797) ∈ GW := GWt7 190 rfl rfl
set_option maxRecDepth 100000 in
theorem t_1631 : Cond.methodLink RX12 305 yX12_mustBe ∈ GW := GWt7 191 rfl rfl
set_option maxRecDepth 100000 in
theorem t_1633 : Cond.instanceMethod yX12_mustBe ∈ GW := GWt7 193 rfl rfl
set_option maxRecDepth 100000 in
theorem t_1634 : Cond.code yX12_mustBe cX12_mustBe 3 (none) ∈ GW := GWt7 194 rfl rfl
set_option maxRecDepth 100000 in
theorem t_1635 : Cond.methodLink RX12 224 yX12_is ∈ GW := GWt7 195 rfl rfl
set_option maxRecDepth 100000 in
theorem t_1637 : Cond.instanceMethod yX12_is ∈ GW := GWt7 197 rfl rfl
set_option maxRecDepth 100000 in
theorem t_1638 : Cond.code yX12_is cX12_is 3 (some .boolean) ∈ GW := GWt7 198 rfl rfl
set_option maxRecDepth 100000 in
theorem t_1639 : Cond.constantLong RX12 309 (47) ∈ GW := GWt7 199 rfl rfl
set_option maxRecDepth 100000 in
theorem t_1640 : Cond.constantLong RX12 311 (315904) ∈ GW := GWt7 200 rfl rfl
set_option maxRecDepth 100000 in
theorem t_1641 : Cond.constantLong RX12 313 (40187) ∈ GW := GWt7 201 rfl rfl
set_option maxRecDepth 100000 in
theorem t_1642 : Cond.methodLink RX12 345 yX12_closes ∈ GW := GWt7 202 rfl rfl
set_option maxRecDepth 100000 in
theorem t_1644 : Cond.instanceMethod yX12_closes ∈ GW := GWt7 204 rfl rfl
set_option maxRecDepth 100000 in
theorem t_1645 : Cond.code yX12_closes cX12_closes 3 (some .boolean) ∈ GW := GWt7 205 rfl rfl
set_option maxRecDepth 100000 in
theorem t_1646 : Cond.constantLong RX12 328 (107681) ∈ GW := GWt7 206 rfl rfl
set_option maxRecDepth 100000 in
theorem t_1647 : Cond.constantLong RX12 330 (423) ∈ GW := GWt7 207 rfl rfl
set_option maxRecDepth 100000 in
theorem t_1648 : Cond.methodLink RX12 324 yX12_opens ∈ GW := GWt7 208 rfl rfl
set_option maxRecDepth 100000 in
theorem t_1650 : Cond.instanceMethod yX12_opens ∈ GW := GWt7 210 rfl rfl
set_option maxRecDepth 100000 in
theorem t_1651 : Cond.code yX12_opens cX12_opens 3 (none) ∈ GW := GWt7 211 rfl rfl
set_option maxRecDepth 100000 in
theorem t_1652 : Cond.methodLink RX12 349 yX12_readGroup ∈ GW := GWt7 212 rfl rfl
set_option maxRecDepth 100000 in
theorem t_1654 : Cond.instanceMethod yX12_readGroup ∈ GW := GWt7 214 rfl rfl
set_option maxRecDepth 100000 in
theorem t_1655 : Cond.code yX12_readGroup cX12_readGroup 3 (none) ∈ GW := GWt7 215 rfl rfl
set_option maxRecDepth 100000 in
theorem t_1656 : Cond.methodLink RX12 318 yX12_eventHere ∈ GW := GWt7 216 rfl rfl
set_option maxRecDepth 100000 in
theorem t_1658 : Cond.instanceMethod yX12_eventHere ∈ GW := GWt7 218 rfl rfl
set_option maxRecDepth 100000 in
theorem t_1659 : Cond.code yX12_eventHere cX12_eventHere 1 (some .int) ∈ GW := GWt7 219 rfl rfl
set_option maxRecDepth 100000 in
theorem t_1660 : Cond.constantLong RX12 246 (85447) ∈ GW := GWt7 220 rfl rfl
set_option maxRecDepth 100000 in
theorem t_1661 : Cond.constantLong RX12 248 (355280) ∈ GW := GWt7 221 rfl rfl
set_option maxRecDepth 100000 in
theorem t_1662 : Cond.constantLong RX12 250 (16812) ∈ GW := GWt7 222 rfl rfl
set_option maxRecDepth 100000 in
theorem t_1663 : Cond.constantLong RX12 252 (82422) ∈ GW := GWt7 223 rfl rfl
set_option maxRecDepth 100000 in
theorem t_1664 : Cond.constantLong RX12 254 (3436186) ∈ GW := GWt7 224 rfl rfl
set_option maxRecDepth 100000 in
theorem t_1665 : Cond.methodLink RL 41 yX12_fault ∈ GW := GWt7 225 rfl rfl
set_option maxRecDepth 100000 in
theorem t_1666 : Cond.instanceMethod yX12_fault ∈ GW := GWt7 226 rfl rfl
set_option maxRecDepth 100000 in
theorem t_1667 : Cond.selects RX12 yX12_fault yX12_fault ∈ GW := GWt7 227 rfl rfl
set_option maxRecDepth 100000 in
theorem t_1668 : Cond.code yX12_fault cX12_fault 1 (some .int) ∈ GW := GWt7 228 rfl rfl
set_option maxRecDepth 100000 in
theorem t_1669 : Cond.methodLink RL 45 yX12_size ∈ GW := GWt7 229 rfl rfl
set_option maxRecDepth 100000 in
theorem t_1670 : Cond.instanceMethod yX12_size ∈ GW := GWt7 230 rfl rfl
set_option maxRecDepth 100000 in
theorem t_1671 : Cond.selects RX12 yX12_size yX12_size ∈ GW := GWt7 231 rfl rfl
set_option maxRecDepth 100000 in
theorem t_1672 : Cond.code yX12_size cX12_size 5 (some .int) ∈ GW := GWt7 232 rfl rfl
set_option maxRecDepth 100000 in
theorem t_1673 : Cond.methodLink RX12 352 yX12_isDeal ∈ GW := GWt7 233 rfl rfl
set_option maxRecDepth 100000 in
theorem t_1675 : Cond.instanceMethod yX12_isDeal ∈ GW := GWt7 235 rfl rfl
set_option maxRecDepth 100000 in
theorem t_1676 : Cond.code yX12_isDeal cX12_isDeal 2 (some .boolean) ∈ GW := GWt7 236 rfl rfl
set_option maxRecDepth 100000 in
theorem t_1677 : Cond.methodLink RX12 356 yX12_isLeaf ∈ GW := GWt7 237 rfl rfl
set_option maxRecDepth 100000 in
theorem t_1679 : Cond.instanceMethod yX12_isLeaf ∈ GW := GWt7 239 rfl rfl
set_option maxRecDepth 100000 in
theorem t_1680 : Cond.code yX12_isLeaf cX12_isLeaf 2 (some .boolean) ∈ GW := GWt8 0 rfl rfl
set_option maxRecDepth 100000 in
theorem t_1681 : Cond.methodLink RL 50 yX12_leaf ∈ GW := GWt8 1 rfl rfl
set_option maxRecDepth 100000 in
theorem t_1682 : Cond.instanceMethod yX12_leaf ∈ GW := GWt8 2 rfl rfl
set_option maxRecDepth 100000 in
theorem t_1683 : Cond.selects RX12 yX12_leaf yX12_leaf ∈ GW := GWt8 3 rfl rfl
set_option maxRecDepth 100000 in
theorem t_1684 : Cond.code yX12_leaf cX12_leaf 6 (some .int) ∈ GW := GWt8 4 rfl rfl
set_option maxRecDepth 100000 in
theorem t_1685 : Cond.methodLink RX12 359 yX12_told ∈ GW := GWt8 5 rfl rfl
set_option maxRecDepth 100000 in
theorem t_1687 : Cond.instanceMethod yX12_told ∈ GW := GWt8 7 rfl rfl
set_option maxRecDepth 100000 in
theorem t_1688 : Cond.code yX12_told cX12_told 3 (some .int) ∈ GW := GWt8 8 rfl rfl
set_option maxRecDepth 100000 in
theorem t_1689 : Cond.methodLink RX12 362 yX12_later ∈ GW := GWt8 9 rfl rfl
set_option maxRecDepth 100000 in
theorem t_1691 : Cond.instanceMethod yX12_later ∈ GW := GWt8 11 rfl rfl
set_option maxRecDepth 100000 in
theorem t_1692 : Cond.code yX12_later cX12_later 4 (some .int) ∈ GW := GWt8 12 rfl rfl
set_option maxRecDepth 100000 in
theorem t_1693 : Cond.methodLink RL 54 yX12_plain ∈ GW := GWt8 13 rfl rfl
set_option maxRecDepth 100000 in
theorem t_1694 : Cond.instanceMethod yX12_plain ∈ GW := GWt8 14 rfl rfl
set_option maxRecDepth 100000 in
theorem t_1695 : Cond.selects RX12 yX12_plain yX12_plain ∈ GW := GWt8 15 rfl rfl
set_option maxRecDepth 100000 in
theorem t_1696 : Cond.code yX12_plain cX12_plain 6 (some .int) ∈ GW := GWt8 16 rfl rfl
set_option maxRecDepth 100000 in
theorem t_1697 : Cond.methodLink RX12 401 yX12_simplifies ∈ GW := GWt8 17 rfl rfl
set_option maxRecDepth 100000 in
theorem t_1699 : Cond.instanceMethod yX12_simplifies ∈ GW := GWt8 19 rfl rfl
set_option maxRecDepth 100000 in
theorem t_1700 : Cond.code yX12_simplifies cX12_simplifies 7 (none) ∈ GW := GWt8 20 rfl rfl
set_option maxRecDepth 100000 in
theorem t_1701 : Cond.methodLink RX12 391 yX12_partsLeft ∈ GW := GWt8 21 rfl rfl
set_option maxRecDepth 100000 in
theorem t_1703 : Cond.instanceMethod yX12_partsLeft ∈ GW := GWt8 23 rfl rfl
set_option maxRecDepth 100000 in
theorem t_1704 : Cond.code yX12_partsLeft cX12_partsLeft 6 (some .int) ∈ GW := GWt8 24 rfl rfl
set_option maxRecDepth 100000 in
theorem t_1705 : Cond.methodLink RX12 397 yX12_areAlike ∈ GW := GWt8 25 rfl rfl
set_option maxRecDepth 100000 in
theorem t_1707 : Cond.instanceMethod yX12_areAlike ∈ GW := GWt8 27 rfl rfl
set_option maxRecDepth 100000 in
theorem t_1708 : Cond.code yX12_areAlike cX12_areAlike 6 (some .boolean) ∈ GW := GWt8 28 rfl rfl
set_option maxRecDepth 100000 in
theorem t_1709 : Cond.methodLink RX12 387 yX12_laysOut ∈ GW := GWt8 29 rfl rfl
set_option maxRecDepth 100000 in
theorem t_1711 : Cond.instanceMethod yX12_laysOut ∈ GW := GWt8 31 rfl rfl
set_option maxRecDepth 100000 in
theorem t_1712 : Cond.code yX12_laysOut cX12_laysOut 7 (some .int) ∈ GW := GWt8 32 rfl rfl
set_option maxRecDepth 100000 in
theorem t_1713 : Cond.methodLink RX12 380 yX12_closesUp ∈ GW := GWt8 33 rfl rfl
set_option maxRecDepth 100000 in
theorem t_1715 : Cond.instanceMethod yX12_closesUp ∈ GW := GWt8 35 rfl rfl
set_option maxRecDepth 100000 in
theorem t_1716 : Cond.code yX12_closesUp cX12_closesUp 3 (none) ∈ GW := GWt8 36 rfl rfl
set_option maxRecDepth 100000 in
theorem t_1717 : Cond.methodLink RX12 377 yX12_sign ∈ GW := GWt8 37 rfl rfl
set_option maxRecDepth 100000 in
theorem t_1719 : Cond.instanceMethod yX12_sign ∈ GW := GWt8 39 rfl rfl
set_option maxRecDepth 100000 in
theorem t_1720 : Cond.code yX12_sign cX12_sign 3 (none) ∈ GW := GWt8 40 rfl rfl
set_option maxRecDepth 100000 in
theorem t_1721 : Cond.methodLink RX12 383 yX12_partLeft ∈ GW := GWt8 41 rfl rfl
set_option maxRecDepth 100000 in
theorem t_1723 : Cond.instanceMethod yX12_partLeft ∈ GW := GWt8 43 rfl rfl
set_option maxRecDepth 100000 in
theorem t_1724 : Cond.code yX12_partLeft cX12_partLeft 6 (some .int) ∈ GW := GWt8 44 rfl rfl
set_option maxRecDepth 100000 in
theorem t_1725 : Cond.methodLink RL 58 yX12_same ∈ GW := GWt8 45 rfl rfl
set_option maxRecDepth 100000 in
theorem t_1726 : Cond.instanceMethod yX12_same ∈ GW := GWt8 46 rfl rfl
set_option maxRecDepth 100000 in
theorem t_1727 : Cond.selects RX12 yX12_same yX12_same ∈ GW := GWt8 47 rfl rfl
set_option maxRecDepth 100000 in
theorem t_1728 : Cond.code yX12_same cX12_same 7 (some .int) ∈ GW := GWt8 48 rfl rfl
set_option maxRecDepth 100000 in
theorem t_1729 : Cond.methodLink RX12 415 yX12_passes ∈ GW := GWt8 49 rfl rfl
set_option maxRecDepth 100000 in
theorem t_1731 : Cond.instanceMethod yX12_passes ∈ GW := GWt8 51 rfl rfl
set_option maxRecDepth 100000 in
theorem t_1732 : Cond.code yX12_passes cX12_passes 8 (none) ∈ GW := GWt8 52 rfl rfl
set_option maxRecDepth 100000 in
theorem t_1733 : Cond.methodLink RX12 407 yX12_times ∈ GW := GWt8 53 rfl rfl
set_option maxRecDepth 100000 in
theorem t_1735 : Cond.instanceMethod yX12_times ∈ GW := GWt8 55 rfl rfl
set_option maxRecDepth 100000 in
theorem t_1736 : Cond.code yX12_times cX12_times 8 (some .long) ∈ GW := GWt8 56 rfl rfl
set_option maxRecDepth 100000 in
theorem t_1737 : Cond.methodLink RX12 411 yX12_flow ∈ GW := GWt8 57 rfl rfl
set_option maxRecDepth 100000 in
theorem t_1739 : Cond.instanceMethod yX12_flow ∈ GW := GWt8 59 rfl rfl
set_option maxRecDepth 100000 in
theorem t_1740 : Cond.code yX12_flow cX12_flow 7 (none) ∈ GW := GWt8 60 rfl rfl
set_option maxRecDepth 100000 in
theorem t_1741 : Cond.methodLink RX12 419 yX12_among ∈ GW := GWt8 61 rfl rfl
set_option maxRecDepth 100000 in
theorem t_1743 : Cond.instanceMethod yX12_among ∈ GW := GWt8 63 rfl rfl
set_option maxRecDepth 100000 in
theorem t_1744 : Cond.code yX12_among cX12_among 7 (some .long) ∈ GW := GWt8 64 rfl rfl
set_option maxRecDepth 100000 in
theorem t_1745 : Cond.methodLink RL 62 yX12_add ∈ GW := GWt8 65 rfl rfl
set_option maxRecDepth 100000 in
theorem t_1746 : Cond.instanceMethod yX12_add ∈ GW := GWt8 66 rfl rfl
set_option maxRecDepth 100000 in
theorem t_1747 : Cond.selects RX12 yX12_add yX12_add ∈ GW := GWt8 67 rfl rfl
set_option maxRecDepth 100000 in
theorem t_1748 : Cond.code yX12_add cX12_add 3 (some .int) ∈ GW := GWt8 68 rfl rfl
set_option maxRecDepth 100000 in
theorem t_1749 : Cond.methodLink RL 66 yX12_clear ∈ GW := GWt8 69 rfl rfl
set_option maxRecDepth 100000 in
theorem t_1750 : Cond.instanceMethod yX12_clear ∈ GW := GWt8 70 rfl rfl
set_option maxRecDepth 100000 in
theorem t_1751 : Cond.selects RX12 yX12_clear yX12_clear ∈ GW := GWt8 71 rfl rfl
set_option maxRecDepth 100000 in
theorem t_1752 : Cond.code yX12_clear cX12_clear 2 (some .int) ∈ GW := GWt8 72 rfl rfl
set_option maxRecDepth 100000 in
theorem t_1753 : Cond.methodLink RL 71 yX12_passed ∈ GW := GWt8 73 rfl rfl
set_option maxRecDepth 100000 in
theorem t_1754 : Cond.instanceMethod yX12_passed ∈ GW := GWt8 74 rfl rfl
set_option maxRecDepth 100000 in
theorem t_1755 : Cond.selects RX12 yX12_passed yX12_passed ∈ GW := GWt8 75 rfl rfl
set_option maxRecDepth 100000 in
theorem t_1756 : Cond.code yX12_passed cX12_passed 8 (some .long) ∈ GW := GWt8 76 rfl rfl
set_option maxRecDepth 100000 in
theorem t_1757 : Cond.methodLink RX12 452 yX12_bundleAtHand ∈ GW := GWt8 77 rfl rfl
set_option maxRecDepth 100000 in
theorem t_1759 : Cond.instanceMethod yX12_bundleAtHand ∈ GW := GWt8 79 rfl rfl
set_option maxRecDepth 100000 in
theorem t_1760 : Cond.code yX12_bundleAtHand cX12_bundleAtHand 2 (none) ∈ GW := GWt8 80 rfl rfl
set_option maxRecDepth 100000 in
theorem t_1761 : Cond.methodLink RX12 437 yX12_codesAtHand ∈ GW := GWt8 81 rfl rfl
set_option maxRecDepth 100000 in
theorem t_1763 : Cond.instanceMethod yX12_codesAtHand ∈ GW := GWt8 83 rfl rfl
set_option maxRecDepth 100000 in
theorem t_1764 : Cond.code yX12_codesAtHand cX12_codesAtHand 1 (some .int) ∈ GW := GWt8 84 rfl rfl
set_option maxRecDepth 100000 in
theorem t_1765 : Cond.methodLink RX12 434 yX12_choicesAtHand ∈ GW := GWt8 85 rfl rfl
set_option maxRecDepth 100000 in
theorem t_1767 : Cond.instanceMethod yX12_choicesAtHand ∈ GW := GWt8 87 rfl rfl
set_option maxRecDepth 100000 in
theorem t_1768 : Cond.code yX12_choicesAtHand cX12_choicesAtHand 3 (some .int) ∈ GW := GWt8 88 rfl rfl
set_option maxRecDepth 100000 in
theorem t_1769 : Cond.methodLink RX12 455 yX12_rowsOfDeal ∈ GW := GWt8 89 rfl rfl
set_option maxRecDepth 100000 in
theorem t_1771 : Cond.instanceMethod yX12_rowsOfDeal ∈ GW := GWt8 91 rfl rfl
set_option maxRecDepth 100000 in
theorem t_1772 : Cond.code yX12_rowsOfDeal cX12_rowsOfDeal 6 (some .int) ∈ GW := GWt8 92 rfl rfl
set_option maxRecDepth 100000 in
theorem t_1773 : Cond.methodLink RX12 440 yX12_rowsOf ∈ GW := GWt8 93 rfl rfl
set_option maxRecDepth 100000 in
theorem t_1775 : Cond.instanceMethod yX12_rowsOf ∈ GW := GWt8 95 rfl rfl
set_option maxRecDepth 100000 in
theorem t_1776 : Cond.code yX12_rowsOf cX12_rowsOf 2 (some .int) ∈ GW := GWt8 96 rfl rfl
set_option maxRecDepth 100000 in
theorem t_1777 : Cond.methodLink RX12 458 yX12_findRow ∈ GW := GWt8 97 rfl rfl
set_option maxRecDepth 100000 in
theorem t_1779 : Cond.instanceMethod yX12_findRow ∈ GW := GWt8 99 rfl rfl
set_option maxRecDepth 100000 in
theorem t_1780 : Cond.code yX12_findRow cX12_findRow 9 (none) ∈ GW := GWt8 100 rfl rfl
set_option maxRecDepth 100000 in
theorem t_1781 : Cond.methodLink RX12 462 yX12_rowTold ∈ GW := GWt8 101 rfl rfl
set_option maxRecDepth 100000 in
theorem t_1783 : Cond.instanceMethod yX12_rowTold ∈ GW := GWt8 103 rfl rfl
set_option maxRecDepth 100000 in
theorem t_1784 : Cond.code yX12_rowTold cX12_rowTold 5 (some .long) ∈ GW := GWt8 104 rfl rfl
set_option maxRecDepth 100000 in
theorem t_1785 : Cond.methodLink RL 76 yX12_net ∈ GW := GWt8 105 rfl rfl
set_option maxRecDepth 100000 in
theorem t_1786 : Cond.instanceMethod yX12_net ∈ GW := GWt8 106 rfl rfl
set_option maxRecDepth 100000 in
theorem t_1787 : Cond.selects RX12 yX12_net yX12_net ∈ GW := GWt8 107 rfl rfl
set_option maxRecDepth 100000 in
theorem t_1788 : Cond.code yX12_net cX12_net 5 (some .long) ∈ GW := GWt8 108 rfl rfl
set_option maxRecDepth 100000 in
theorem t_1789 : Cond.constantLong RX12 466 (-1000000000000) ∈ GW := GWt8 109 rfl rfl
set_option maxRecDepth 100000 in
theorem t_1790 : Cond.methodLink RX12 468 yX12_passesAll ∈ GW := GWt8 110 rfl rfl
set_option maxRecDepth 100000 in
theorem t_1792 : Cond.instanceMethod yX12_passesAll ∈ GW := GWt8 112 rfl rfl
set_option maxRecDepth 100000 in
theorem t_1793 : Cond.code yX12_passesAll cX12_passesAll 4 (none) ∈ GW := GWt8 113 rfl rfl
set_option maxRecDepth 100000 in
theorem t_1794 : Cond.methodLink RX12 471 yX12_netOf ∈ GW := GWt8 114 rfl rfl
set_option maxRecDepth 100000 in
theorem t_1796 : Cond.instanceMethod yX12_netOf ∈ GW := GWt8 116 rfl rfl
set_option maxRecDepth 100000 in
theorem t_1797 : Cond.code yX12_netOf cX12_netOf 7 (some .long) ∈ GW := GWt8 117 rfl rfl
set_option maxRecDepth 100000 in
theorem t_1798 : Cond.methodLink RL 80 yX12_codes ∈ GW := GWt8 118 rfl rfl
set_option maxRecDepth 100000 in
theorem t_1799 : Cond.instanceMethod yX12_codes ∈ GW := GWt8 119 rfl rfl
set_option maxRecDepth 100000 in
theorem t_1800 : Cond.selects RX12 yX12_codes yX12_codes ∈ GW := GWt8 120 rfl rfl
set_option maxRecDepth 100000 in
theorem t_1801 : Cond.code yX12_codes cX12_codes 1 (some .int) ∈ GW := GWt8 121 rfl rfl
set_option maxRecDepth 100000 in
theorem t_1802 : Cond.methodLink RX12 474 yX12_isLookedAt ∈ GW := GWt8 122 rfl rfl
set_option maxRecDepth 100000 in
theorem t_1804 : Cond.instanceMethod yX12_isLookedAt ∈ GW := GWt8 124 rfl rfl
set_option maxRecDepth 100000 in
theorem t_1805 : Cond.code yX12_isLookedAt cX12_isLookedAt 1 (some .boolean) ∈ GW := GWt8 125 rfl rfl
set_option maxRecDepth 100000 in
theorem t_1806 : Cond.methodLink RX12 428 yX12_eventsAtHand ∈ GW := GWt8 126 rfl rfl
set_option maxRecDepth 100000 in
theorem t_1808 : Cond.instanceMethod yX12_eventsAtHand ∈ GW := GWt8 128 rfl rfl
set_option maxRecDepth 100000 in
theorem t_1809 : Cond.code yX12_eventsAtHand cX12_eventsAtHand 3 (some .int) ∈ GW := GWt8 129 rfl rfl
set_option maxRecDepth 100000 in
theorem t_1810 : Cond.methodLink RX12 431 yX12_bitsOf ∈ GW := GWt8 130 rfl rfl
set_option maxRecDepth 100000 in
theorem t_1811 : Cond.static yX12_bitsOf ∈ GW := GWt8 131 rfl rfl
set_option maxRecDepth 100000 in
theorem t_1812 : Cond.code yX12_bitsOf cX12_bitsOf 3 (some .int) ∈ GW := GWt8 132 rfl rfl
set_option maxRecDepth 100000 in
theorem t_1813 : Cond.methodLink RL 84 yX12_lends ∈ GW := GWt8 133 rfl rfl
set_option maxRecDepth 100000 in
theorem t_1814 : Cond.instanceMethod yX12_lends ∈ GW := GWt8 134 rfl rfl
set_option maxRecDepth 100000 in
theorem t_1815 : Cond.selects RX12 yX12_lends yX12_lends ∈ GW := GWt8 135 rfl rfl
set_option maxRecDepth 100000 in
theorem t_1816 : Cond.code yX12_lends cX12_lends 5 (some .int) ∈ GW := GWt8 136 rfl rfl
set_option maxRecDepth 100000 in
theorem t_1817 : Cond.methodLink RX12 486 yX12_areTwo ∈ GW := GWt8 137 rfl rfl
set_option maxRecDepth 100000 in
theorem t_1818 : Cond.static yX12_areTwo ∈ GW := GWt8 138 rfl rfl
set_option maxRecDepth 100000 in
theorem t_1819 : Cond.code yX12_areTwo cX12_areTwo 2 (some .boolean) ∈ GW := GWt8 139 rfl rfl
set_option maxRecDepth 100000 in
theorem t_1820 : Cond.methodLink RX12 489 yX12_codeFrom ∈ GW := GWt8 140 rfl rfl
set_option maxRecDepth 100000 in
theorem t_1822 : Cond.instanceMethod yX12_codeFrom ∈ GW := GWt8 142 rfl rfl
set_option maxRecDepth 100000 in
theorem t_1823 : Cond.code yX12_codeFrom cX12_codeFrom 4 (some .int) ∈ GW := GWt8 143 rfl rfl
set_option maxRecDepth 100000 in
theorem t_1824 : Cond.methodLink RX12 492 yX12_findLending ∈ GW := GWt8 144 rfl rfl
set_option maxRecDepth 100000 in
theorem t_1826 : Cond.instanceMethod yX12_findLending ∈ GW := GWt8 146 rfl rfl
set_option maxRecDepth 100000 in
theorem t_1827 : Cond.code yX12_findLending cX12_findLending 5 (none) ∈ GW := GWt8 147 rfl rfl
set_option maxRecDepth 100000 in
theorem t_1828 : Cond.methodLink RX12 480 yX12_findDays ∈ GW := GWt8 148 rfl rfl
set_option maxRecDepth 100000 in
theorem t_1830 : Cond.instanceMethod yX12_findDays ∈ GW := GWt8 150 rfl rfl
set_option maxRecDepth 100000 in
theorem t_1831 : Cond.code yX12_findDays cX12_findDays 4 (none) ∈ GW := GWt8 151 rfl rfl
set_option maxRecDepth 100000 in
theorem t_1832 : Cond.methodLink RX12 483 yX12_lendingDay ∈ GW := GWt8 152 rfl rfl
set_option maxRecDepth 100000 in
theorem t_1834 : Cond.instanceMethod yX12_lendingDay ∈ GW := GWt8 154 rfl rfl
set_option maxRecDepth 100000 in
theorem t_1835 : Cond.code yX12_lendingDay cX12_lendingDay 7 (some .int) ∈ GW := GWt8 155 rfl rfl
set_option maxRecDepth 100000 in
theorem t_1836 : Cond.methodLink RL 88 yX12_price ∈ GW := GWt8 156 rfl rfl
set_option maxRecDepth 100000 in
theorem t_1837 : Cond.instanceMethod yX12_price ∈ GW := GWt8 157 rfl rfl
set_option maxRecDepth 100000 in
theorem t_1838 : Cond.selects RX12 yX12_price yX12_price ∈ GW := GWt8 158 rfl rfl
set_option maxRecDepth 100000 in
theorem t_1839 : Cond.code yX12_price cX12_price 14 (some .long) ∈ GW := GWt8 159 rfl rfl
set_option maxRecDepth 100000 in
theorem t_1840 : Cond.methodLink RX12 495 yX12_outOf ∈ GW := GWt8 160 rfl rfl
set_option maxRecDepth 100000 in
theorem t_1842 : Cond.instanceMethod yX12_outOf ∈ GW := GWt8 162 rfl rfl
set_option maxRecDepth 100000 in
theorem t_1843 : Cond.code yX12_outOf cX12_outOf 7 (some .long) ∈ GW := GWt8 163 rfl rfl
set_option maxRecDepth 100000 in
theorem t_1844 : Cond.methodLink RX12 498 yX12_isLess ∈ GW := GWt8 164 rfl rfl
set_option maxRecDepth 100000 in
theorem t_1845 : Cond.static yX12_isLess ∈ GW := GWt8 165 rfl rfl
set_option maxRecDepth 100000 in
theorem t_1846 : Cond.code yX12_isLess cX12_isLess 25 (some .boolean) ∈ GW := GWt8 166 rfl rfl
set_option maxRecDepth 100000 in
theorem t_1847 : Cond.methodLink RX12 502 yX12_divisor ∈ GW := GWt8 167 rfl rfl
set_option maxRecDepth 100000 in
theorem t_1848 : Cond.static yX12_divisor ∈ GW := GWt8 168 rfl rfl
set_option maxRecDepth 100000 in
theorem t_1849 : Cond.code yX12_divisor cX12_divisor 10 (some .long) ∈ GW := GWt8 169 rfl rfl
set_option maxRecDepth 100000 in
theorem t_1850 : Cond.methodLink RL 92 yX12_loan ∈ GW := GWt8 170 rfl rfl
set_option maxRecDepth 100000 in
theorem t_1851 : Cond.instanceMethod yX12_loan ∈ GW := GWt8 171 rfl rfl
set_option maxRecDepth 100000 in
theorem t_1852 : Cond.selects RX12 yX12_loan yX12_loan ∈ GW := GWt8 172 rfl rfl
set_option maxRecDepth 100000 in
theorem t_1853 : Cond.code yX12_loan cX12_loan 1 (some .int) ∈ GW := GWt8 173 rfl rfl
set_option maxRecDepth 100000 in
theorem t_1854 : Cond.methodLink RX12 506 yX12_loanAtHand ∈ GW := GWt8 174 rfl rfl
set_option maxRecDepth 100000 in
theorem t_1856 : Cond.instanceMethod yX12_loanAtHand ∈ GW := GWt8 176 rfl rfl
set_option maxRecDepth 100000 in
theorem t_1857 : Cond.code yX12_loanAtHand cX12_loanAtHand 4 (some .int) ∈ GW := GWt8 177 rfl rfl
set_option maxRecDepth 100000 in
theorem t_1858 : Cond.methodLink RL 97 yX12_step ∈ GW := GWt8 178 rfl rfl
set_option maxRecDepth 100000 in
theorem t_1859 : Cond.instanceMethod yX12_step ∈ GW := GWt8 179 rfl rfl
set_option maxRecDepth 100000 in
theorem t_1860 : Cond.selects RX12 yX12_step yX12_step ∈ GW := GWt8 180 rfl rfl
set_option maxRecDepth 100000 in
theorem t_1861 : Cond.code yX12_step cX12_step 7 (some .long) ∈ GW := GWt8 181 rfl rfl
set_option maxRecDepth 100000 in
theorem t_1862 : Cond.methodLink RL 102 yX12_bears ∈ GW := GWt8 182 rfl rfl
set_option maxRecDepth 100000 in
theorem t_1863 : Cond.instanceMethod yX12_bears ∈ GW := GWt8 183 rfl rfl
set_option maxRecDepth 100000 in
theorem t_1864 : Cond.selects RX12 yX12_bears yX12_bears ∈ GW := GWt8 184 rfl rfl
set_option maxRecDepth 100000 in
theorem t_1865 : Cond.code yX12_bears cX12_bears 5 (some .long) ∈ GW := GWt8 185 rfl rfl
set_option maxRecDepth 100000 in
theorem t_1866 : Cond.methodLink RL 106 yX12_cost ∈ GW := GWt8 186 rfl rfl
set_option maxRecDepth 100000 in
theorem t_1867 : Cond.instanceMethod yX12_cost ∈ GW := GWt8 187 rfl rfl
set_option maxRecDepth 100000 in
theorem t_1868 : Cond.selects RX12 yX12_cost yX12_cost ∈ GW := GWt8 188 rfl rfl
set_option maxRecDepth 100000 in
theorem t_1869 : Cond.code yX12_cost cX12_cost 12 (some .long) ∈ GW := GWt8 189 rfl rfl
set_option maxRecDepth 100000 in
theorem t_1870 : Cond.methodLink RL 32 yX12_law ∈ GW := GWt8 190 rfl rfl
set_option maxRecDepth 100000 in
theorem t_1871 : Cond.instanceMethod yX12_law ∈ GW := GWt8 191 rfl rfl
set_option maxRecDepth 100000 in
theorem t_1872 : Cond.selects RX12 yX12_law yX12_law ∈ GW := GWt8 192 rfl rfl
set_option maxRecDepth 100000 in
theorem t_1873 : Cond.code yX12_law cX12_law 3 (some .int) ∈ GW := GWt8 193 rfl rfl
set_option maxRecDepth 100000 in
theorem t_1874 : Cond.methodLink RX12 538 yX12_readBars ∈ GW := GWt8 194 rfl rfl
set_option maxRecDepth 100000 in
theorem t_1876 : Cond.instanceMethod yX12_readBars ∈ GW := GWt8 196 rfl rfl
set_option maxRecDepth 100000 in
theorem t_1877 : Cond.code yX12_readBars cX12_readBars 4 (some .int) ∈ GW := GWt8 197 rfl rfl
set_option maxRecDepth 100000 in
theorem t_1878 : Cond.methodLink RX12 532 yX12_readBar ∈ GW := GWt8 198 rfl rfl
set_option maxRecDepth 100000 in
theorem t_1880 : Cond.instanceMethod yX12_readBar ∈ GW := GWt8 200 rfl rfl
set_option maxRecDepth 100000 in
theorem t_1881 : Cond.code yX12_readBar cX12_readBar 2 (none) ∈ GW := GWt8 201 rfl rfl
set_option maxRecDepth 100000 in
theorem t_1882 : Cond.constantLong RX12 517 (1503) ∈ GW := GWt8 202 rfl rfl
set_option maxRecDepth 100000 in
theorem t_1883 : Cond.methodLink RX12 519 yX12_formHere ∈ GW := GWt8 203 rfl rfl
set_option maxRecDepth 100000 in
theorem t_1885 : Cond.instanceMethod yX12_formHere ∈ GW := GWt8 205 rfl rfl
set_option maxRecDepth 100000 in
theorem t_1886 : Cond.code yX12_formHere cX12_formHere 3 (some .int) ∈ GW := GWt8 206 rfl rfl
set_option maxRecDepth 100000 in
theorem t_1887 : Cond.constantLong RX12 509 (1132) ∈ GW := GWt8 207 rfl rfl
set_option maxRecDepth 100000 in
theorem t_1888 : Cond.methodLink RX12 522 yX12_ofHere ∈ GW := GWt8 208 rfl rfl
set_option maxRecDepth 100000 in
theorem t_1890 : Cond.instanceMethod yX12_ofHere ∈ GW := GWt8 210 rfl rfl
set_option maxRecDepth 100000 in
theorem t_1891 : Cond.code yX12_ofHere cX12_ofHere 1 (some .int) ∈ GW := GWt8 211 rfl rfl
set_option maxRecDepth 100000 in
theorem t_1892 : Cond.constantLong RX12 511 (411) ∈ GW := GWt8 212 rfl rfl
set_option maxRecDepth 100000 in
theorem t_1893 : Cond.constantLong RX12 525 (399641) ∈ GW := GWt8 213 rfl rfl
set_option maxRecDepth 100000 in
theorem t_1894 : Cond.methodLink RX12 527 yX12_askedHere ∈ GW := GWt8 214 rfl rfl
set_option maxRecDepth 100000 in
theorem t_1896 : Cond.instanceMethod yX12_askedHere ∈ GW := GWt8 216 rfl rfl
set_option maxRecDepth 100000 in
theorem t_1897 : Cond.code yX12_askedHere cX12_askedHere 1 (some .int) ∈ GW := GWt8 217 rfl rfl
set_option maxRecDepth 100000 in
theorem t_1898 : Cond.constantLong RX12 513 (375062) ∈ GW := GWt8 218 rfl rfl
set_option maxRecDepth 100000 in
theorem t_1899 : Cond.constantLong RX12 515 (267305) ∈ GW := GWt8 219 rfl rfl
set_option maxRecDepth 100000 in
theorem t_1900 : Cond.constantLong RX12 530 (335207579) ∈ GW := GWt8 220 rfl rfl
set_option maxRecDepth 100000 in
theorem t_1901 : Cond.methodLink RL 36 yX12_word ∈ GW := GWt8 221 rfl rfl
set_option maxRecDepth 100000 in
theorem t_1902 : Cond.instanceMethod yX12_word ∈ GW := GWt8 222 rfl rfl
set_option maxRecDepth 100000 in
theorem t_1903 : Cond.selects RX12 yX12_word yX12_word ∈ GW := GWt8 223 rfl rfl
set_option maxRecDepth 100000 in
theorem t_1904 : Cond.code yX12_word cX12_word 3 (some .int) ∈ GW := GWt8 224 rfl rfl
set_option maxRecDepth 100000 in
theorem t_1905 : Cond.methodLink RL 110 yX12_breach ∈ GW := GWt8 225 rfl rfl
set_option maxRecDepth 100000 in
theorem t_1906 : Cond.instanceMethod yX12_breach ∈ GW := GWt8 226 rfl rfl
set_option maxRecDepth 100000 in
theorem t_1907 : Cond.selects RX12 yX12_breach yX12_breach ∈ GW := GWt8 227 rfl rfl
set_option maxRecDepth 100000 in
theorem t_1908 : Cond.code yX12_breach cX12_breach 3 (some .int) ∈ GW := GWt8 228 rfl rfl
set_option maxRecDepth 100000 in
theorem t_1909 : Cond.methodLink RX12 565 yX12_breachNow ∈ GW := GWt8 229 rfl rfl
set_option maxRecDepth 100000 in
theorem t_1911 : Cond.instanceMethod yX12_breachNow ∈ GW := GWt8 231 rfl rfl
set_option maxRecDepth 100000 in
theorem t_1912 : Cond.code yX12_breachNow cX12_breachNow 3 (some .int) ∈ GW := GWt8 232 rfl rfl
set_option maxRecDepth 100000 in
theorem t_1913 : Cond.methodLink RX12 559 yX12_findLeaves ∈ GW := GWt8 233 rfl rfl
set_option maxRecDepth 100000 in
theorem t_1915 : Cond.instanceMethod yX12_findLeaves ∈ GW := GWt8 235 rfl rfl
set_option maxRecDepth 100000 in
theorem t_1916 : Cond.code yX12_findLeaves cX12_findLeaves 3 (none) ∈ GW := GWt8 236 rfl rfl
set_option maxRecDepth 100000 in
theorem t_1917 : Cond.methodLink RX12 562 yX12_doesBar ∈ GW := GWt8 237 rfl rfl
set_option maxRecDepth 100000 in
theorem t_1919 : Cond.instanceMethod yX12_doesBar ∈ GW := GWt8 239 rfl rfl
set_option maxRecDepth 100000 in
theorem t_1920 : Cond.code yX12_doesBar cX12_doesBar 4 (some .boolean) ∈ GW := GWt9 0 rfl rfl
set_option maxRecDepth 100000 in
theorem t_1921 : Cond.methodLink RX12 547 yX12_isOf ∈ GW := GWt9 1 rfl rfl
set_option maxRecDepth 100000 in
theorem t_1923 : Cond.instanceMethod yX12_isOf ∈ GW := GWt9 3 rfl rfl
set_option maxRecDepth 100000 in
theorem t_1924 : Cond.code yX12_isOf cX12_isOf 5 (some .boolean) ∈ GW := GWt9 4 rfl rfl
set_option maxRecDepth 100000 in
theorem t_1925 : Cond.methodLink RX12 556 yX12_isPair ∈ GW := GWt9 5 rfl rfl
set_option maxRecDepth 100000 in
theorem t_1927 : Cond.instanceMethod yX12_isPair ∈ GW := GWt9 7 rfl rfl
set_option maxRecDepth 100000 in
theorem t_1928 : Cond.code yX12_isPair cX12_isPair 7 (some .boolean) ∈ GW := GWt9 8 rfl rfl
set_option maxRecDepth 100000 in
theorem t_1929 : Cond.methodLink RL 114 yX12_bars ∈ GW := GWt9 9 rfl rfl
set_option maxRecDepth 100000 in
theorem t_1930 : Cond.instanceMethod yX12_bars ∈ GW := GWt9 10 rfl rfl
set_option maxRecDepth 100000 in
theorem t_1931 : Cond.selects RX12 yX12_bars yX12_bars ∈ GW := GWt9 11 rfl rfl
set_option maxRecDepth 100000 in
theorem t_1932 : Cond.code yX12_bars cX12_bars 2 (some .int) ∈ GW := GWt9 12 rfl rfl
set_option maxRecDepth 100000 in
theorem t_1933 : Cond.methodLink RX12 568 yX12_doesWordBar ∈ GW := GWt9 13 rfl rfl
set_option maxRecDepth 100000 in
theorem t_1935 : Cond.instanceMethod yX12_doesWordBar ∈ GW := GWt9 15 rfl rfl
set_option maxRecDepth 100000 in
theorem t_1936 : Cond.code yX12_doesWordBar cX12_doesWordBar 3 (some .boolean) ∈ GW := GWt9 16 rfl rfl
set_option maxRecDepth 100000 in
theorem t_1937 : Cond.methodLink RL 118 yX12_offer ∈ GW := GWt9 17 rfl rfl
set_option maxRecDepth 100000 in
theorem t_1938 : Cond.instanceMethod yX12_offer ∈ GW := GWt9 18 rfl rfl
set_option maxRecDepth 100000 in
theorem t_1939 : Cond.selects RX12 yX12_offer yX12_offer ∈ GW := GWt9 19 rfl rfl
set_option maxRecDepth 100000 in
theorem t_1940 : Cond.code yX12_offer cX12_offer 3 (some .int) ∈ GW := GWt9 20 rfl rfl
set_option maxRecDepth 100000 in
theorem t_1941 : Cond.methodLink RL 122 yX12_sly ∈ GW := GWt9 21 rfl rfl
set_option maxRecDepth 100000 in
theorem t_1942 : Cond.instanceMethod yX12_sly ∈ GW := GWt9 22 rfl rfl
set_option maxRecDepth 100000 in
theorem t_1943 : Cond.selects RX12 yX12_sly yX12_sly ∈ GW := GWt9 23 rfl rfl
set_option maxRecDepth 100000 in
theorem t_1944 : Cond.code yX12_sly cX12_sly 3 (some .int) ∈ GW := GWt9 24 rfl rfl
set_option maxRecDepth 100000 in
theorem t_1945 : Cond.methodLink RX12 583 yX12_findSly ∈ GW := GWt9 25 rfl rfl
set_option maxRecDepth 100000 in
theorem t_1947 : Cond.instanceMethod yX12_findSly ∈ GW := GWt9 27 rfl rfl
set_option maxRecDepth 100000 in
theorem t_1948 : Cond.code yX12_findSly cX12_findSly 4 (none) ∈ GW := GWt9 28 rfl rfl
set_option maxRecDepth 100000 in
theorem t_1949 : Cond.methodLink RX12 580 yX12_wordsThatBar ∈ GW := GWt9 29 rfl rfl
set_option maxRecDepth 100000 in
theorem t_1951 : Cond.instanceMethod yX12_wordsThatBar ∈ GW := GWt9 31 rfl rfl
set_option maxRecDepth 100000 in
theorem t_1952 : Cond.code yX12_wordsThatBar cX12_wordsThatBar 3 (some .int) ∈ GW := GWt9 32 rfl rfl
set_option maxRecDepth 100000 in
theorem t_1953 : Cond.methodLink RL 126 yX12_honest ∈ GW := GWt9 33 rfl rfl
set_option maxRecDepth 100000 in
theorem t_1954 : Cond.instanceMethod yX12_honest ∈ GW := GWt9 34 rfl rfl
set_option maxRecDepth 100000 in
theorem t_1955 : Cond.selects RX12 yX12_honest yX12_honest ∈ GW := GWt9 35 rfl rfl
set_option maxRecDepth 100000 in
theorem t_1956 : Cond.code yX12_honest cX12_honest 2 (some .int) ∈ GW := GWt9 36 rfl rfl
set_option maxRecDepth 100000 in
theorem t_1957 : Cond.methodLink RL 130 yX12_innocent ∈ GW := GWt9 37 rfl rfl
set_option maxRecDepth 100000 in
theorem t_1958 : Cond.instanceMethod yX12_innocent ∈ GW := GWt9 38 rfl rfl
set_option maxRecDepth 100000 in
theorem t_1959 : Cond.selects RX12 yX12_innocent yX12_innocent ∈ GW := GWt9 39 rfl rfl
set_option maxRecDepth 100000 in
theorem t_1960 : Cond.code yX12_innocent cX12_innocent 3 (some .int) ∈ GW := GWt9 40 rfl rfl
set_option maxRecDepth 100000 in
theorem t_1961 : Cond.methodLink RX12 589 yX12_honestAtHand ∈ GW := GWt9 41 rfl rfl
set_option maxRecDepth 100000 in
theorem t_1963 : Cond.instanceMethod yX12_honestAtHand ∈ GW := GWt9 43 rfl rfl
set_option maxRecDepth 100000 in
theorem t_1964 : Cond.code yX12_honestAtHand cX12_honestAtHand 3 (none) ∈ GW := GWt9 44 rfl rfl
set_option maxRecDepth 100000 in
theorem t_1965 : Cond.methodLink RL 134 yX12_parts ∈ GW := GWt9 45 rfl rfl
set_option maxRecDepth 100000 in
theorem t_1966 : Cond.instanceMethod yX12_parts ∈ GW := GWt9 46 rfl rfl
set_option maxRecDepth 100000 in
theorem t_1967 : Cond.selects RX12 yX12_parts yX12_parts ∈ GW := GWt9 47 rfl rfl
set_option maxRecDepth 100000 in
theorem t_1968 : Cond.code yX12_parts cX12_parts 4 (some .int) ∈ GW := GWt9 48 rfl rfl
set_option maxRecDepth 100000 in
theorem t_1969 : Cond.methodLink RX12 592 yX12_doPart ∈ GW := GWt9 49 rfl rfl
set_option maxRecDepth 100000 in
theorem t_1971 : Cond.instanceMethod yX12_doPart ∈ GW := GWt9 51 rfl rfl
set_option maxRecDepth 100000 in
theorem t_1972 : Cond.code yX12_doPart cX12_doPart 5 (some .boolean) ∈ GW := GWt9 52 rfl rfl
set_option maxRecDepth 100000 in
theorem t_1973 : Cond.methodLink RL 138 yX12_stop ∈ GW := GWt9 53 rfl rfl
set_option maxRecDepth 100000 in
theorem t_1974 : Cond.instanceMethod yX12_stop ∈ GW := GWt9 54 rfl rfl
set_option maxRecDepth 100000 in
theorem t_1975 : Cond.selects RX12 yX12_stop yX12_stop ∈ GW := GWt9 55 rfl rfl
set_option maxRecDepth 100000 in
theorem t_1976 : Cond.code yX12_stop cX12_stop 7 (some .int) ∈ GW := GWt9 56 rfl rfl
set_option maxRecDepth 100000 in
theorem t_1977 : Cond.methodLink RL 142 yX12_heap ∈ GW := GWt9 57 rfl rfl
set_option maxRecDepth 100000 in
theorem t_1978 : Cond.instanceMethod yX12_heap ∈ GW := GWt9 58 rfl rfl
set_option maxRecDepth 100000 in
theorem t_1979 : Cond.selects RX12 yX12_heap yX12_heap ∈ GW := GWt9 59 rfl rfl
set_option maxRecDepth 100000 in
theorem t_1980 : Cond.code yX12_heap cX12_heap 5 (some .int) ∈ GW := GWt9 60 rfl rfl
set_option maxRecDepth 100000 in
theorem t_1981 : Cond.methodLink RX12 601 yX12_findGroups ∈ GW := GWt9 61 rfl rfl
set_option maxRecDepth 100000 in
theorem t_1983 : Cond.instanceMethod yX12_findGroups ∈ GW := GWt9 63 rfl rfl
set_option maxRecDepth 100000 in
theorem t_1984 : Cond.code yX12_findGroups cX12_findGroups 5 (none) ∈ GW := GWt9 64 rfl rfl
set_option maxRecDepth 100000 in
theorem t_1985 : Cond.methodLink RX12 598 yX12_doHang ∈ GW := GWt9 65 rfl rfl
set_option maxRecDepth 100000 in
theorem t_1987 : Cond.instanceMethod yX12_doHang ∈ GW := GWt9 67 rfl rfl
set_option maxRecDepth 100000 in
theorem t_1988 : Cond.code yX12_doHang cX12_doHang 5 (some .boolean) ∈ GW := GWt9 68 rfl rfl
set_option maxRecDepth 100000 in
theorem t_1989 : Cond.methodLink RX12 595 yX12_size ∈ GW := GWt9 69 rfl rfl
set_option maxRecDepth 100000 in
theorem t_1990 : Cond.methodLink RL 146 yX12_group ∈ GW := GWt9 70 rfl rfl
set_option maxRecDepth 100000 in
theorem t_1991 : Cond.instanceMethod yX12_group ∈ GW := GWt9 71 rfl rfl
set_option maxRecDepth 100000 in
theorem t_1992 : Cond.selects RX12 yX12_group yX12_group ∈ GW := GWt9 72 rfl rfl
set_option maxRecDepth 100000 in
theorem t_1993 : Cond.code yX12_group cX12_group 4 (some .int) ∈ GW := GWt9 73 rfl rfl
set_option maxRecDepth 100000 in
theorem t_1994 : Cond.methodLink RL 150 yX12_count ∈ GW := GWt9 74 rfl rfl
set_option maxRecDepth 100000 in
theorem t_1995 : Cond.instanceMethod yX12_count ∈ GW := GWt9 75 rfl rfl
set_option maxRecDepth 100000 in
theorem t_1996 : Cond.selects RX12 yX12_count yX12_count ∈ GW := GWt9 76 rfl rfl
set_option maxRecDepth 100000 in
theorem t_1997 : Cond.code yX12_count cX12_count 2 (some .int) ∈ GW := GWt9 77 rfl rfl
set_option maxRecDepth 100000 in
theorem t_1998 : Cond.methodLink RX12 604 yX12_leavesTold ∈ GW := GWt9 78 rfl rfl
set_option maxRecDepth 100000 in
theorem t_2000 : Cond.instanceMethod yX12_leavesTold ∈ GW := GWt9 80 rfl rfl
set_option maxRecDepth 100000 in
theorem t_2001 : Cond.code yX12_leavesTold cX12_leavesTold 3 (some .int) ∈ GW := GWt9 81 rfl rfl
set_option maxRecDepth 100000 in
theorem t_2002 : Cond.methodLink RX12 607 yX12_choicesTold ∈ GW := GWt9 82 rfl rfl
set_option maxRecDepth 100000 in
theorem t_2004 : Cond.instanceMethod yX12_choicesTold ∈ GW := GWt9 84 rfl rfl
set_option maxRecDepth 100000 in
theorem t_2005 : Cond.code yX12_choicesTold cX12_choicesTold 3 (some .int) ∈ GW := GWt9 85 rfl rfl
set_option maxRecDepth 100000 in
theorem t_2006 : Cond.fieldLink RJ0 9 "java/lang/String" "value" "[B" ∈ GW := GWt9 86 rfl rfl
set_option maxRecDepth 100000 in
theorem t_2007 : Cond.fieldLink RJ0 15 "java/lang/String" "coder" "B" ∈ GW := GWt9 87 rfl rfl
theorem ts_0 : Cond.selects RX11 yX11_refusalOf yX11_refusalOf ∈ GW := GWp1 0 (q := (yX11_refusalOf, 18)) rfl
theorem ts_1 : Cond.selects RX2 yX2_readAll yX2_readAll ∈ GW := GWp1 1 (q := (yX2_readAll, 8)) rfl
theorem ts_2 : Cond.selects RX2 yX2_readPart yX2_readPart ∈ GW := GWp1 2 (q := (yX2_readPart, 8)) rfl
theorem ts_3 : Cond.selects RX2 yX2_readLeaf yX2_readLeaf ∈ GW := GWp1 3 (q := (yX2_readLeaf, 8)) rfl
theorem ts_4 : Cond.selects RX2 yX2_readTwo yX2_readTwo ∈ GW := GWp1 4 (q := (yX2_readTwo, 8)) rfl
theorem ts_5 : Cond.selects RX2 yX2_readSo yX2_readSo ∈ GW := GWp1 5 (q := (yX2_readSo, 8)) rfl
theorem ts_6 : Cond.selects RX2 yX2_readPay yX2_readPay ∈ GW := GWp1 6 (q := (yX2_readPay, 8)) rfl
theorem ts_7 : Cond.selects RX2 yX2_readDays yX2_readDays ∈ GW := GWp1 7 (q := (yX2_readDays, 8)) rfl
theorem ts_8 : Cond.selects RX8 yX8_hasRoom yX8_hasRoom ∈ GW := GWp1 8 (q := (yX8_hasRoom, 3)) rfl
theorem ts_9 : Cond.selects RX1 yX1_putRow yX1_putRow ∈ GW := GWp1 9 (q := (yX1_putRow, 13)) rfl
theorem ts_10 : Cond.selects RX2 yX2_readAfter yX2_readAfter ∈ GW := GWp1 10 (q := (yX2_readAfter, 8)) rfl
theorem ts_11 : Cond.selects RX2 yX2_readBlock yX2_readBlock ∈ GW := GWp1 11 (q := (yX2_readBlock, 8)) rfl
theorem ts_12 : Cond.selects RX8 yX8_isBegun yX8_isBegun ∈ GW := GWp1 12 (q := (yX8_isBegun, 3)) rfl
theorem ts_13 : Cond.selects RX8 yX8_lift yX8_lift ∈ GW := GWp1 13 (q := (yX8_lift, 3)) rfl
theorem ts_14 : Cond.selects RX8 yX8_isJustAfter yX8_isJustAfter ∈ GW := GWp1 14 (q := (yX8_isJustAfter, 3)) rfl
theorem ts_15 : Cond.selects RX2 yX2_readTimes yX2_readTimes ∈ GW := GWp1 15 (q := (yX2_readTimes, 8)) rfl
theorem ts_16 : Cond.selects RX2 yX2_readIf yX2_readIf ∈ GW := GWp2 0 (q := (yX2_readIf, 8)) rfl
theorem ts_17 : Cond.selects RX2 yX2_readBranches yX2_readBranches ∈ GW := GWp2 1 (q := (yX2_readBranches, 8)) rfl
theorem ts_18 : Cond.selects RX2 yX2_readBranch yX2_readBranch ∈ GW := GWp2 2 (q := (yX2_readBranch, 8)) rfl
theorem ts_19 : Cond.selects RX8 yX8_isAlike yX8_isAlike ∈ GW := GWp2 3 (q := (yX8_isAlike, 3)) rfl
theorem ts_20 : Cond.selects RX2 yX2_readChoice yX2_readChoice ∈ GW := GWp2 4 (q := (yX2_readChoice, 8)) rfl
theorem ts_21 : Cond.selects RX11 yX11_closeText yX11_closeText ∈ GW := GWp2 5 (q := (yX11_closeText, 18)) rfl
theorem ts_22 : Cond.selects RX11 yX11_tellRules yX11_tellRules ∈ GW := GWp2 6 (q := (yX11_tellRules, 18)) rfl
theorem ts_23 : Cond.selects RX6 yX6_readStatement yX6_readStatement ∈ GW := GWp2 7 (q := (yX6_readStatement, 2)) rfl
theorem ts_24 : Cond.selects RX6 yX6_readForm yX6_readForm ∈ GW := GWp2 8 (q := (yX6_readForm, 2)) rfl
theorem ts_25 : Cond.selects RX6 yX6_readTies yX6_readTies ∈ GW := GWp2 9 (q := (yX6_readTies, 2)) rfl
theorem ts_26 : Cond.selects RX6 yX6_readWithin yX6_readWithin ∈ GW := GWp2 10 (q := (yX6_readWithin, 2)) rfl
theorem ts_27 : Cond.selects RX4 yX4_giveSlots yX4_giveSlots ∈ GW := GWp2 11 (q := (yX4_giveSlots, 7)) rfl
theorem ts_28 : Cond.selects RX4 yX4_pour yX4_pour ∈ GW := GWp2 12 (q := (yX4_pour, 7)) rfl
theorem ts_29 : Cond.selects RX4 yX4_isLevel yX4_isLevel ∈ GW := GWp2 13 (q := (yX4_isLevel, 7)) rfl
theorem ts_30 : Cond.selects RX5 yX5_shareOf yX5_shareOf ∈ GW := GWp2 14 (q := (yX5_shareOf, 20)) rfl
theorem ts_31 : Cond.selects RX5 yX5_earliestHead yX5_earliestHead ∈ GW := GWp2 15 (q := (yX5_earliestHead, 20)) rfl
theorem ts_32 : Cond.selects RX5 yX5_putEntry yX5_putEntry ∈ GW := GWp3 0 (q := (yX5_putEntry, 20)) rfl
theorem ts_33 : Cond.selects RX5 yX5_endDay yX5_endDay ∈ GW := GWp3 1 (q := (yX5_endDay, 20)) rfl
theorem ts_34 : Cond.selects RX5 yX5_book yX5_book ∈ GW := GWp3 2 (q := (yX5_book, 20)) rfl
theorem ts_35 : Cond.selects RX5 yX5_findUneven yX5_findUneven ∈ GW := GWp3 3 (q := (yX5_findUneven, 20)) rfl
theorem ts_36 : Cond.selects RX9 yX9_noteLender yX9_noteLender ∈ GW := GWp3 4 (q := (yX9_noteLender, 5)) rfl
theorem ts_37 : Cond.selects RX9 yX9_notePrice yX9_notePrice ∈ GW := GWp3 5 (q := (yX9_notePrice, 5)) rfl
theorem ts_38 : Cond.selects RX9 yX9_leastPair yX9_leastPair ∈ GW := GWp3 6 (q := (yX9_leastPair, 5)) rfl
theorem ts_39 : Cond.selects RX11 yX11_lawInForce yX11_lawInForce ∈ GW := GWp3 7 (q := (yX11_lawInForce, 18)) rfl
theorem ts_40 : Cond.selects RX3 yX3_hearAlso yX3_hearAlso ∈ GW := GWp3 8 (q := (yX3_hearAlso, 5)) rfl
theorem ts_41 : Cond.selects RX3 yX3_findLeaves yX3_findLeaves ∈ GW := GWp3 9 (q := (yX3_findLeaves, 5)) rfl
theorem ts_42 : Cond.selects RX3 yX3_isOf yX3_isOf ∈ GW := GWp3 10 (q := (yX3_isOf, 5)) rfl
theorem ts_43 : Cond.selects RX3 yX3_findSecond yX3_findSecond ∈ GW := GWp3 11 (q := (yX3_findSecond, 5)) rfl
theorem ts_44 : Cond.selects RX3 yX3_isLater yX3_isLater ∈ GW := GWp3 12 (q := (yX3_isLater, 5)) rfl
theorem ts_45 : Cond.selects RX3 yX3_isTied yX3_isTied ∈ GW := GWp3 13 (q := (yX3_isTied, 5)) rfl
theorem ts_46 : Cond.selects RX7 yX7_findBarred yX7_findBarred ∈ GW := GWp3 14 (q := (yX7_findBarred, 15)) rfl
theorem ts_47 : Cond.selects RX7 yX7_grow yX7_grow ∈ GW := GWp3 15 (q := (yX7_grow, 15)) rfl
theorem ts_48 : Cond.selects RX7 yX7_mayLend yX7_mayLend ∈ GW := GWp4 0 (q := (yX7_mayLend, 15)) rfl
theorem ts_49 : Cond.selects RX7 yX7_isLoan yX7_isLoan ∈ GW := GWp4 1 (q := (yX7_isLoan, 15)) rfl
theorem ts_50 : Cond.selects RX11 yX11_isLet yX11_isLet ∈ GW := GWp4 2 (q := (yX11_isLet, 18)) rfl
theorem ts_51 : Cond.selects RX11 yX11_sparesHonest yX11_sparesHonest ∈ GW := GWp4 3 (q := (yX11_sparesHonest, 18)) rfl
theorem ts_52 : Cond.selects RX7 yX7_wordsThatBar yX7_wordsThatBar ∈ GW := GWp4 4 (q := (yX7_wordsThatBar, 15)) rfl
theorem ts_53 : Cond.selects RX7 yX7_putNeed yX7_putNeed ∈ GW := GWp4 5 (q := (yX7_putNeed, 15)) rfl
theorem ts_54 : Cond.selects RX7 yX7_meetsNeeds yX7_meetsNeeds ∈ GW := GWp4 6 (q := (yX7_meetsNeeds, 15)) rfl
theorem ts_55 : Cond.selects RX4 yX4_hangTogether yX4_hangTogether ∈ GW := GWp4 7 (q := (yX4_hangTogether, 7)) rfl
theorem ts_56 : Cond.selects RX4 yX4_join yX4_join ∈ GW := GWp4 8 (q := (yX4_join, 7)) rfl
theorem ts_57 : Cond.selects RX12 yX12_beginsText yX12_beginsText ∈ GW := GWp4 9 (q := (yX12_beginsText, 93)) rfl
theorem ts_58 : Cond.selects RX12 yX12_next yX12_next ∈ GW := GWp4 10 (q := (yX12_next, 93)) rfl
theorem ts_59 : Cond.selects RX12 yX12_here yX12_here ∈ GW := GWp4 11 (q := (yX12_here, 93)) rfl
theorem ts_60 : Cond.selects RX12 yX12_kindHere yX12_kindHere ∈ GW := GWp4 12 (q := (yX12_kindHere, 93)) rfl
theorem ts_61 : Cond.selects RX12 yX12_errs yX12_errs ∈ GW := GWp4 13 (q := (yX12_errs, 93)) rfl
theorem ts_62 : Cond.selects RX12 yX12_readLeaf yX12_readLeaf ∈ GW := GWp4 14 (q := (yX12_readLeaf, 93)) rfl
theorem ts_63 : Cond.selects RX12 yX12_newNode yX12_newNode ∈ GW := GWp4 15 (q := (yX12_newNode, 93)) rfl
theorem ts_64 : Cond.selects RX12 yX12_hand yX12_hand ∈ GW := GWp5 0 (q := (yX12_hand, 93)) rfl
theorem ts_65 : Cond.selects RX12 yX12_thingOf yX12_thingOf ∈ GW := GWp5 1 (q := (yX12_thingOf, 93)) rfl
theorem ts_66 : Cond.selects RX12 yX12_thingHere yX12_thingHere ∈ GW := GWp5 2 (q := (yX12_thingHere, 93)) rfl
theorem ts_67 : Cond.selects RX12 yX12_numeral yX12_numeral ∈ GW := GWp5 3 (q := (yX12_numeral, 93)) rfl
theorem ts_68 : Cond.selects RX12 yX12_mustBe yX12_mustBe ∈ GW := GWp5 4 (q := (yX12_mustBe, 93)) rfl
theorem ts_69 : Cond.selects RX12 yX12_is yX12_is ∈ GW := GWp5 5 (q := (yX12_is, 93)) rfl
theorem ts_70 : Cond.selects RX12 yX12_closes yX12_closes ∈ GW := GWp5 6 (q := (yX12_closes, 93)) rfl
theorem ts_71 : Cond.selects RX12 yX12_opens yX12_opens ∈ GW := GWp5 7 (q := (yX12_opens, 93)) rfl
theorem ts_72 : Cond.selects RX12 yX12_readGroup yX12_readGroup ∈ GW := GWp5 8 (q := (yX12_readGroup, 93)) rfl
theorem ts_73 : Cond.selects RX12 yX12_eventHere yX12_eventHere ∈ GW := GWp5 9 (q := (yX12_eventHere, 93)) rfl
theorem ts_74 : Cond.selects RX12 yX12_isDeal yX12_isDeal ∈ GW := GWp5 10 (q := (yX12_isDeal, 93)) rfl
theorem ts_75 : Cond.selects RX12 yX12_isLeaf yX12_isLeaf ∈ GW := GWp5 11 (q := (yX12_isLeaf, 93)) rfl
theorem ts_76 : Cond.selects RX12 yX12_told yX12_told ∈ GW := GWp5 12 (q := (yX12_told, 93)) rfl
theorem ts_77 : Cond.selects RX12 yX12_later yX12_later ∈ GW := GWp5 13 (q := (yX12_later, 93)) rfl
theorem ts_78 : Cond.selects RX12 yX12_simplifies yX12_simplifies ∈ GW := GWp5 14 (q := (yX12_simplifies, 93)) rfl
theorem ts_79 : Cond.selects RX12 yX12_partsLeft yX12_partsLeft ∈ GW := GWp5 15 (q := (yX12_partsLeft, 93)) rfl
theorem ts_80 : Cond.selects RX12 yX12_areAlike yX12_areAlike ∈ GW := GWp6 0 (q := (yX12_areAlike, 93)) rfl
theorem ts_81 : Cond.selects RX12 yX12_laysOut yX12_laysOut ∈ GW := GWp6 1 (q := (yX12_laysOut, 93)) rfl
theorem ts_82 : Cond.selects RX12 yX12_closesUp yX12_closesUp ∈ GW := GWp6 2 (q := (yX12_closesUp, 93)) rfl
theorem ts_83 : Cond.selects RX12 yX12_sign yX12_sign ∈ GW := GWp6 3 (q := (yX12_sign, 93)) rfl
theorem ts_84 : Cond.selects RX12 yX12_partLeft yX12_partLeft ∈ GW := GWp6 4 (q := (yX12_partLeft, 93)) rfl
theorem ts_85 : Cond.selects RX12 yX12_passes yX12_passes ∈ GW := GWp6 5 (q := (yX12_passes, 93)) rfl
theorem ts_86 : Cond.selects RX12 yX12_times yX12_times ∈ GW := GWp6 6 (q := (yX12_times, 93)) rfl
theorem ts_87 : Cond.selects RX12 yX12_flow yX12_flow ∈ GW := GWp6 7 (q := (yX12_flow, 93)) rfl
theorem ts_88 : Cond.selects RX12 yX12_among yX12_among ∈ GW := GWp6 8 (q := (yX12_among, 93)) rfl
theorem ts_89 : Cond.selects RX12 yX12_bundleAtHand yX12_bundleAtHand ∈ GW := GWp6 9 (q := (yX12_bundleAtHand, 93)) rfl
theorem ts_90 : Cond.selects RX12 yX12_codesAtHand yX12_codesAtHand ∈ GW := GWp6 10 (q := (yX12_codesAtHand, 93)) rfl
theorem ts_91 : Cond.selects RX12 yX12_choicesAtHand yX12_choicesAtHand ∈ GW := GWp6 11 (q := (yX12_choicesAtHand, 93)) rfl
theorem ts_92 : Cond.selects RX12 yX12_rowsOfDeal yX12_rowsOfDeal ∈ GW := GWp6 12 (q := (yX12_rowsOfDeal, 93)) rfl
theorem ts_93 : Cond.selects RX12 yX12_rowsOf yX12_rowsOf ∈ GW := GWp6 13 (q := (yX12_rowsOf, 93)) rfl
theorem ts_94 : Cond.selects RX12 yX12_findRow yX12_findRow ∈ GW := GWp6 14 (q := (yX12_findRow, 93)) rfl
theorem ts_95 : Cond.selects RX12 yX12_rowTold yX12_rowTold ∈ GW := GWp6 15 (q := (yX12_rowTold, 93)) rfl
theorem ts_96 : Cond.selects RX12 yX12_passesAll yX12_passesAll ∈ GW := GWp7 0 (q := (yX12_passesAll, 93)) rfl
theorem ts_97 : Cond.selects RX12 yX12_netOf yX12_netOf ∈ GW := GWp7 1 (q := (yX12_netOf, 93)) rfl
theorem ts_98 : Cond.selects RX12 yX12_isLookedAt yX12_isLookedAt ∈ GW := GWp7 2 (q := (yX12_isLookedAt, 93)) rfl
theorem ts_99 : Cond.selects RX12 yX12_eventsAtHand yX12_eventsAtHand ∈ GW := GWp7 3 (q := (yX12_eventsAtHand, 93)) rfl
theorem ts_100 : Cond.selects RX12 yX12_codeFrom yX12_codeFrom ∈ GW := GWp7 4 (q := (yX12_codeFrom, 93)) rfl
theorem ts_101 : Cond.selects RX12 yX12_findLending yX12_findLending ∈ GW := GWp7 5 (q := (yX12_findLending, 93)) rfl
theorem ts_102 : Cond.selects RX12 yX12_findDays yX12_findDays ∈ GW := GWp7 6 (q := (yX12_findDays, 93)) rfl
theorem ts_103 : Cond.selects RX12 yX12_lendingDay yX12_lendingDay ∈ GW := GWp7 7 (q := (yX12_lendingDay, 93)) rfl
theorem ts_104 : Cond.selects RX12 yX12_outOf yX12_outOf ∈ GW := GWp7 8 (q := (yX12_outOf, 93)) rfl
theorem ts_105 : Cond.selects RX12 yX12_loanAtHand yX12_loanAtHand ∈ GW := GWp7 9 (q := (yX12_loanAtHand, 93)) rfl
theorem ts_106 : Cond.selects RX12 yX12_readBars yX12_readBars ∈ GW := GWp7 10 (q := (yX12_readBars, 93)) rfl
theorem ts_107 : Cond.selects RX12 yX12_readBar yX12_readBar ∈ GW := GWp7 11 (q := (yX12_readBar, 93)) rfl
theorem ts_108 : Cond.selects RX12 yX12_formHere yX12_formHere ∈ GW := GWp7 12 (q := (yX12_formHere, 93)) rfl
theorem ts_109 : Cond.selects RX12 yX12_ofHere yX12_ofHere ∈ GW := GWp7 13 (q := (yX12_ofHere, 93)) rfl
theorem ts_110 : Cond.selects RX12 yX12_askedHere yX12_askedHere ∈ GW := GWp7 14 (q := (yX12_askedHere, 93)) rfl
theorem ts_111 : Cond.selects RX12 yX12_breachNow yX12_breachNow ∈ GW := GWp7 15 (q := (yX12_breachNow, 93)) rfl
theorem ts_112 : Cond.selects RX12 yX12_findLeaves yX12_findLeaves ∈ GW := GWp8 0 (q := (yX12_findLeaves, 93)) rfl
theorem ts_113 : Cond.selects RX12 yX12_doesBar yX12_doesBar ∈ GW := GWp8 1 (q := (yX12_doesBar, 93)) rfl
theorem ts_114 : Cond.selects RX12 yX12_isOf yX12_isOf ∈ GW := GWp8 2 (q := (yX12_isOf, 93)) rfl
theorem ts_115 : Cond.selects RX12 yX12_isPair yX12_isPair ∈ GW := GWp8 3 (q := (yX12_isPair, 93)) rfl
theorem ts_116 : Cond.selects RX12 yX12_doesWordBar yX12_doesWordBar ∈ GW := GWp8 4 (q := (yX12_doesWordBar, 93)) rfl
theorem ts_117 : Cond.selects RX12 yX12_findSly yX12_findSly ∈ GW := GWp8 5 (q := (yX12_findSly, 93)) rfl
theorem ts_118 : Cond.selects RX12 yX12_wordsThatBar yX12_wordsThatBar ∈ GW := GWp8 6 (q := (yX12_wordsThatBar, 93)) rfl
theorem ts_119 : Cond.selects RX12 yX12_honestAtHand yX12_honestAtHand ∈ GW := GWp8 7 (q := (yX12_honestAtHand, 93)) rfl
theorem ts_120 : Cond.selects RX12 yX12_doPart yX12_doPart ∈ GW := GWp8 8 (q := (yX12_doPart, 93)) rfl
theorem ts_121 : Cond.selects RX12 yX12_findGroups yX12_findGroups ∈ GW := GWp8 9 (q := (yX12_findGroups, 93)) rfl
theorem ts_122 : Cond.selects RX12 yX12_doHang yX12_doHang ∈ GW := GWp8 10 (q := (yX12_doHang, 93)) rfl
theorem ts_123 : Cond.selects RX12 yX12_leavesTold yX12_leavesTold ∈ GW := GWp8 11 (q := (yX12_leavesTold, 93)) rfl
theorem ts_124 : Cond.selects RX12 yX12_choicesTold yX12_choicesTold ∈ GW := GWp8 12 (q := (yX12_choicesTold, 93)) rfl
abbrev MX0_init : Mth := (cX0_init, 1, none, RX0, "<init>")
theorem mi_X0_init : MI yX0_init MX0_init 0 := ⟨t_118, t_5, by decide +kernel, by decide +kernel, by decide +kernel, by decide⟩
abbrev MX0_push : Mth := (cX0_push, 2, none, RX0, "push")
theorem mi_X0_push : MI yX0_push MX0_push 1 := ⟨t_893, t_5, by decide +kernel, by decide +kernel, by decide +kernel, by decide⟩
abbrev MX0_copyFrom : Mth := (cX0_copyFrom, 3, none, RX0, "copyFrom")
theorem mi_X0_copyFrom : MI yX0_copyFrom MX0_copyFrom 1 := ⟨t_1179, t_5, by decide +kernel, by decide +kernel, by decide +kernel, by decide⟩
abbrev MX0_holds : Mth := (cX0_holds, 3, some .boolean, RX0, "holds")
theorem mi_X0_holds : MI yX0_holds MX0_holds 1 := ⟨t_889, t_5, by decide +kernel, by decide +kernel, by decide +kernel, by decide⟩
abbrev MX0_choicesBefore : Mth := (cX0_choicesBefore, 4, some .int, RX0, "choicesBefore")
theorem mi_X0_choicesBefore : MI yX0_choicesBefore MX0_choicesBefore 1 := ⟨t_913, t_5, by decide +kernel, by decide +kernel, by decide +kernel, by decide⟩
abbrev MX0_allLeaves : Mth := (cX0_allLeaves, 3, some .int, RX0, "allLeaves")
theorem mi_X0_allLeaves : MI yX0_allLeaves MX0_allLeaves 0 := ⟨t_1264, t_5, by decide +kernel, by decide +kernel, by decide +kernel, by decide⟩
abbrev MX0_allChoices : Mth := (cX0_allChoices, 1, some .int, RX0, "allChoices")
theorem mi_X0_allChoices : MI yX0_allChoices MX0_allChoices 0 := ⟨t_909, t_5, by decide +kernel, by decide +kernel, by decide +kernel, by decide⟩
abbrev MX0_namedBits : Mth := (cX0_namedBits, 3, some .int, RX0, "namedBits")
theorem mi_X0_namedBits : MI yX0_namedBits MX0_namedBits 0 := ⟨t_955, t_5, by decide +kernel, by decide +kernel, by decide +kernel, by decide⟩
abbrev MX0_isLooked : Mth := (cX0_isLooked, 1, some .boolean, RX0, "isLooked")
theorem mi_X0_isLooked : MI yX0_isLooked MX0_isLooked 0 := ⟨t_951, t_5, by decide +kernel, by decide +kernel, by decide +kernel, by decide⟩
abbrev MX0_codesLooked : Mth := (cX0_codesLooked, 1, some .int, RX0, "codesLooked")
theorem mi_X0_codesLooked : MI yX0_codesLooked MX0_codesLooked 0 := ⟨t_960, t_5, by decide +kernel, by decide +kernel, by decide +kernel, by decide⟩
abbrev MX0_hasCode : Mth := (cX0_hasCode, 2, some .boolean, RX0, "hasCode")
theorem mi_X0_hasCode : MI yX0_hasCode MX0_hasCode 1 := ⟨t_905, t_5, by decide +kernel, by decide +kernel, by decide +kernel, by decide⟩
abbrev MX0_codeFor : Mth := (cX0_codeFor, 2, some .int, RX0, "codeFor")
theorem mi_X0_codeFor : MI yX0_codeFor MX0_codeFor 2 := ⟨t_921, t_5, by decide +kernel, by decide +kernel, by decide +kernel, by decide⟩
abbrev MX0_rowsBy : Mth := (cX0_rowsBy, 7, some .int, RX0, "rowsBy")
theorem mi_X0_rowsBy : MI yX0_rowsBy MX0_rowsBy 1 := ⟨t_918, t_5, by decide +kernel, by decide +kernel, by decide +kernel, by decide⟩
abbrev MX0_toldOfRow : Mth := (cX0_toldOfRow, 9, some .long, RX0, "toldOfRow")
theorem mi_X0_toldOfRow : MI yX0_toldOfRow MX0_toldOfRow 3 := ⟨t_926, t_5, by decide +kernel, by decide +kernel, by decide +kernel, by decide⟩
abbrev MX1_init : Mth := (cX1_init, 2, none, RX1, "<init>")
theorem mi_X1_init : MI yX1_init MX1_init 1 := ⟨t_434, t_13, by decide +kernel, by decide +kernel, by decide +kernel, by decide⟩
abbrev MX1_empty : Mth := (cX1_empty, 1, none, RX1, "empty")
theorem mi_X1_empty : MI yX1_empty MX1_empty 0 := ⟨t_526, t_13, by decide +kernel, by decide +kernel, by decide +kernel, by decide⟩
abbrev MX1_putLeaf : Mth := (cX1_putLeaf, 4, none, RX1, "putLeaf")
theorem mi_X1_putLeaf : MI yX1_putLeaf MX1_putLeaf 2 := ⟨t_656, t_13, by decide +kernel, by decide +kernel, by decide +kernel, by decide⟩
abbrev MX1_putRows : Mth := (cX1_putRows, 9, none, RX1, "putRows")
theorem mi_X1_putRows : MI yX1_putRows MX1_putRows 3 := ⟨t_661, t_13, by decide +kernel, by decide +kernel, by decide +kernel, by decide⟩
abbrev MX1_putRow : Mth := (cX1_putRow, 9, none, RX1, "putRow")
theorem mi_X1_putRow : MI yX1_putRow MX1_putRow 6 := ⟨t_665, t_13, by decide +kernel, by decide +kernel, by decide +kernel, by decide⟩
abbrev MX1_sortByDay : Mth := (cX1_sortByDay, 3, none, RX1, "sortByDay")
theorem mi_X1_sortByDay : MI yX1_sortByDay MX1_sortByDay 0 := ⟨t_745, t_13, by decide +kernel, by decide +kernel, by decide +kernel, by decide⟩
abbrev MX1_dayOf : Mth := (cX1_dayOf, 2, some .int, RX1, "dayOf")
theorem mi_X1_dayOf : MI yX1_dayOf MX1_dayOf 1 := ⟨t_749, t_13, by decide +kernel, by decide +kernel, by decide +kernel, by decide⟩
abbrev MX1_isPassing : Mth := (cX1_isPassing, 3, some .boolean, RX1, "isPassing")
theorem mi_X1_isPassing : MI yX1_isPassing MX1_isPassing 2 := ⟨t_877, t_13, by decide +kernel, by decide +kernel, by decide +kernel, by decide⟩
abbrev MX1_familiesIn : Mth := (cX1_familiesIn, 4, some .int, RX1, "familiesIn")
theorem mi_X1_familiesIn : MI yX1_familiesIn MX1_familiesIn 1 := ⟨t_837, t_13, by decide +kernel, by decide +kernel, by decide +kernel, by decide⟩
abbrev MX2_init : Mth := (cX2_init, 2, none, RX2, "<init>")
theorem mi_X2_init : MI yX2_init MX2_init 1 := ⟨t_66, t_3, by decide +kernel, by decide +kernel, by decide +kernel, by decide⟩
abbrev MX2_readDeal : Mth := (cX2_readDeal, 2, some .boolean, RX2, "readDeal")
theorem mi_X2_readDeal : MI yX2_readDeal MX2_readDeal 1 := ⟨t_522, t_3, by decide +kernel, by decide +kernel, by decide +kernel, by decide⟩
abbrev MX2_readAll : Mth := (cX2_readAll, 3, some .boolean, RX2, "readAll")
theorem mi_X2_readAll : MI yX2_readAll MX2_readAll 1 := ⟨t_534, t_3, by decide +kernel, by decide +kernel, by decide +kernel, by decide⟩
abbrev MX2_readPart : Mth := (cX2_readPart, 3, some .boolean, RX2, "readPart")
theorem mi_X2_readPart : MI yX2_readPart MX2_readPart 1 := ⟨t_538, t_3, by decide +kernel, by decide +kernel, by decide +kernel, by decide⟩
abbrev MX2_readLeaf : Mth := (cX2_readLeaf, 2, some .boolean, RX2, "readLeaf")
theorem mi_X2_readLeaf : MI yX2_readLeaf MX2_readLeaf 1 := ⟨t_595, t_3, by decide +kernel, by decide +kernel, by decide +kernel, by decide⟩
abbrev MX2_readTwo : Mth := (cX2_readTwo, 1, some .boolean, RX2, "readTwo")
theorem mi_X2_readTwo : MI yX2_readTwo MX2_readTwo 0 := ⟨t_604, t_3, by decide +kernel, by decide +kernel, by decide +kernel, by decide⟩
abbrev MX2_readSo : Mth := (cX2_readSo, 1, some .boolean, RX2, "readSo")
theorem mi_X2_readSo : MI yX2_readSo MX2_readSo 0 := ⟨t_615, t_3, by decide +kernel, by decide +kernel, by decide +kernel, by decide⟩
abbrev MX2_readPay : Mth := (cX2_readPay, 2, some .boolean, RX2, "readPay")
theorem mi_X2_readPay : MI yX2_readPay MX2_readPay 1 := ⟨t_624, t_3, by decide +kernel, by decide +kernel, by decide +kernel, by decide⟩
abbrev MX2_readDays : Mth := (cX2_readDays, 3, some .boolean, RX2, "readDays")
theorem mi_X2_readDays : MI yX2_readDays MX2_readDays 1 := ⟨t_637, t_3, by decide +kernel, by decide +kernel, by decide +kernel, by decide⟩
abbrev MX2_readAfter : Mth := (cX2_readAfter, 5, some .boolean, RX2, "readAfter")
theorem mi_X2_readAfter : MI yX2_readAfter MX2_readAfter 1 := ⟨t_669, t_3, by decide +kernel, by decide +kernel, by decide +kernel, by decide⟩
abbrev MX2_readTimes : Mth := (cX2_readTimes, 6, some .boolean, RX2, "readTimes")
theorem mi_X2_readTimes : MI yX2_readTimes MX2_readTimes 1 := ⟨t_705, t_3, by decide +kernel, by decide +kernel, by decide +kernel, by decide⟩
abbrev MX2_readIf : Mth := (cX2_readIf, 3, some .boolean, RX2, "readIf")
theorem mi_X2_readIf : MI yX2_readIf MX2_readIf 1 := ⟨t_709, t_3, by decide +kernel, by decide +kernel, by decide +kernel, by decide⟩
abbrev MX2_readChoice : Mth := (cX2_readChoice, 4, some .boolean, RX2, "readChoice")
theorem mi_X2_readChoice : MI yX2_readChoice MX2_readChoice 1 := ⟨t_735, t_3, by decide +kernel, by decide +kernel, by decide +kernel, by decide⟩
abbrev MX2_readBranches : Mth := (cX2_readBranches, 7, some .boolean, RX2, "readBranches")
theorem mi_X2_readBranches : MI yX2_readBranches MX2_readBranches 5 := ⟨t_715, t_3, by decide +kernel, by decide +kernel, by decide +kernel, by decide⟩
abbrev MX2_readBranch : Mth := (cX2_readBranch, 8, some .boolean, RX2, "readBranch")
theorem mi_X2_readBranch : MI yX2_readBranch MX2_readBranch 3 := ⟨t_719, t_3, by decide +kernel, by decide +kernel, by decide +kernel, by decide⟩
abbrev MX2_readBlock : Mth := (cX2_readBlock, 2, some .boolean, RX2, "readBlock")
theorem mi_X2_readBlock : MI yX2_readBlock MX2_readBlock 1 := ⟨t_677, t_3, by decide +kernel, by decide +kernel, by decide +kernel, by decide⟩
abbrev MX3_init : Mth := (cX3_init, 2, none, RX3, "<init>")
theorem mi_X3_init : MI yX3_init MX3_init 1 := ⟨t_238, t_8, by decide +kernel, by decide +kernel, by decide +kernel, by decide⟩
abbrev MX3_hear : Mth := (cX3_hear, 3, none, RX3, "hear")
theorem mi_X3_hear : MI yX3_hear MX3_hear 1 := ⟨t_1068, t_8, by decide +kernel, by decide +kernel, by decide +kernel, by decide⟩
abbrev MX3_hearPair : Mth := (cX3_hearPair, 3, none, RX3, "hearPair")
theorem mi_X3_hearPair : MI yX3_hearPair MX3_hearPair 2 := ⟨t_1126, t_8, by decide +kernel, by decide +kernel, by decide +kernel, by decide⟩
abbrev MX3_hearAlso : Mth := (cX3_hearAlso, 2, none, RX3, "hearAlso")
theorem mi_X3_hearAlso : MI yX3_hearAlso MX3_hearAlso 1 := ⟨t_1072, t_8, by decide +kernel, by decide +kernel, by decide +kernel, by decide⟩
abbrev MX3_firstThatBars : Mth := (cX3_firstThatBars, 3, some .int, RX3, "firstThatBars")
theorem mi_X3_firstThatBars : MI yX3_firstThatBars MX3_firstThatBars 1 := ⟨t_1077, t_8, by decide +kernel, by decide +kernel, by decide +kernel, by decide⟩
abbrev MX3_findLeaves : Mth := (cX3_findLeaves, 6, some .boolean, RX3, "findLeaves")
theorem mi_X3_findLeaves : MI yX3_findLeaves MX3_findLeaves 2 := ⟨t_1081, t_8, by decide +kernel, by decide +kernel, by decide +kernel, by decide⟩
abbrev MX3_findSecond : Mth := (cX3_findSecond, 5, some .int, RX3, "findSecond")
theorem mi_X3_findSecond : MI yX3_findSecond MX3_findSecond 3 := ⟨t_1089, t_8, by decide +kernel, by decide +kernel, by decide +kernel, by decide⟩
abbrev MX3_isOf : Mth := (cX3_isOf, 5, some .boolean, RX3, "isOf")
theorem mi_X3_isOf : MI yX3_isOf MX3_isOf 3 := ⟨t_1085, t_8, by decide +kernel, by decide +kernel, by decide +kernel, by decide⟩
abbrev MX3_isLater : Mth := (cX3_isLater, 5, some .boolean, RX3, "isLater")
theorem mi_X3_isLater : MI yX3_isLater MX3_isLater 3 := ⟨t_1093, t_8, by decide +kernel, by decide +kernel, by decide +kernel, by decide⟩
abbrev MX3_isTied : Mth := (cX3_isTied, 4, some .boolean, RX3, "isTied")
theorem mi_X3_isTied : MI yX3_isTied MX3_isTied 3 := ⟨t_1097, t_8, by decide +kernel, by decide +kernel, by decide +kernel, by decide⟩
abbrev MX4_init : Mth := (cX4_init, 1, none, RX4, "<init>")
theorem mi_X4_init : MI yX4_init MX4_init 0 := ⟨t_318, t_10, by decide +kernel, by decide +kernel, by decide +kernel, by decide⟩
abbrev MX4_firstApart : Mth := (cX4_firstApart, 8, some .int, RX4, "firstApart")
theorem mi_X4_firstApart : MI yX4_firstApart MX4_firstApart 2 := ⟨t_853, t_10, by decide +kernel, by decide +kernel, by decide +kernel, by decide⟩
abbrev MX4_giveSlots : Mth := (cX4_giveSlots, 7, none, RX4, "giveSlots")
theorem mi_X4_giveSlots : MI yX4_giveSlots MX4_giveSlots 2 := ⟨t_857, t_10, by decide +kernel, by decide +kernel, by decide +kernel, by decide⟩
abbrev MX4_pour : Mth := (cX4_pour, 6, none, RX4, "pour")
theorem mi_X4_pour : MI yX4_pour MX4_pour 4 := ⟨t_873, t_10, by decide +kernel, by decide +kernel, by decide +kernel, by decide⟩
abbrev MX4_isLevel : Mth := (cX4_isLevel, 2, some .boolean, RX4, "isLevel")
theorem mi_X4_isLevel : MI yX4_isLevel MX4_isLevel 0 := ⟨t_881, t_10, by decide +kernel, by decide +kernel, by decide +kernel, by decide⟩
abbrev MX4_gather : Mth := (cX4_gather, 7, none, RX4, "gather")
theorem mi_X4_gather : MI yX4_gather MX4_gather 4 := ⟨t_1230, t_10, by decide +kernel, by decide +kernel, by decide +kernel, by decide⟩
abbrev MX4_hangTogether : Mth := (cX4_hangTogether, 5, some .boolean, RX4, "hangTogether")
theorem mi_X4_hangTogether : MI yX4_hangTogether MX4_hangTogether 3 := ⟨t_1235, t_10, by decide +kernel, by decide +kernel, by decide +kernel, by decide⟩
abbrev MX4_join : Mth := (cX4_join, 6, none, RX4, "join")
theorem mi_X4_join : MI yX4_join MX4_join 3 := ⟨t_1242, t_10, by decide +kernel, by decide +kernel, by decide +kernel, by decide⟩
abbrev MX4_heaps : Mth := (cX4_heaps, 4, some .int, RX4, "heaps")
theorem mi_X4_heaps : MI yX4_heaps MX4_heaps 1 := ⟨t_1247, t_10, by decide +kernel, by decide +kernel, by decide +kernel, by decide⟩
abbrev MX4_fillBundle : Mth := (cX4_fillBundle, 5, some .boolean, RX4, "fillBundle")
theorem mi_X4_fillBundle : MI yX4_fillBundle MX4_fillBundle 3 := ⟨t_1255, t_10, by decide +kernel, by decide +kernel, by decide +kernel, by decide⟩
abbrev MX5_init : Mth := (cX5_init, 2, none, RX5, "<init>")
theorem mi_X5_init : MI yX5_init MX5_init 1 := ⟨t_141, t_6, by decide +kernel, by decide +kernel, by decide +kernel, by decide⟩
abbrev MX5_sumOf : Mth := (cX5_sumOf, 14, some .long, RX5, "sumOf")
theorem mi_X5_sumOf : MI yX5_sumOf MX5_sumOf 5 := ⟨t_936, t_6, by decide +kernel, by decide +kernel, by decide +kernel, by decide⟩
abbrev MX5_shareOf : Mth := (cX5_shareOf, 6, some .long, RX5, "shareOf")
theorem mi_X5_shareOf : MI yX5_shareOf MX5_shareOf 3 := ⟨t_943, t_6, by decide +kernel, by decide +kernel, by decide +kernel, by decide⟩
abbrev MX5_isEven : Mth := (cX5_isEven, 5, some .boolean, RX5, "isEven")
theorem mi_X5_isEven : MI yX5_isEven MX5_isEven 3 := ⟨t_1197, t_6, by decide +kernel, by decide +kernel, by decide +kernel, by decide⟩
abbrev MX5_sumInto : Mth := (cX5_sumInto, 9, none, RX5, "sumInto")
theorem mi_X5_sumInto : MI yX5_sumInto MX5_sumInto 5 := ⟨t_1132, t_6, by decide +kernel, by decide +kernel, by decide +kernel, by decide⟩
abbrev MX5_findLoan : Mth := (cX5_findLoan, 8, some .int, RX5, "findLoan")
theorem mi_X5_findLoan : MI yX5_findLoan MX5_findLoan 1 := ⟨t_1150, t_6, by decide +kernel, by decide +kernel, by decide +kernel, by decide⟩
abbrev MX5_take : Mth := (cX5_take, 6, none, RX5, "take")
theorem mi_X5_take : MI yX5_take MX5_take 1 := ⟨t_978, t_6, by decide +kernel, by decide +kernel, by decide +kernel, by decide⟩
abbrev MX5_earliestHead : Mth := (cX5_earliestHead, 7, some .int, RX5, "earliestHead")
theorem mi_X5_earliestHead : MI yX5_earliestHead MX5_earliestHead 1 := ⟨t_983, t_6, by decide +kernel, by decide +kernel, by decide +kernel, by decide⟩
abbrev MX5_putEntry : Mth := (cX5_putEntry, 8, some .int, RX5, "putEntry")
theorem mi_X5_putEntry : MI yX5_putEntry MX5_putEntry 3 := ⟨t_988, t_6, by decide +kernel, by decide +kernel, by decide +kernel, by decide⟩
abbrev MX5_bitsBehind : Mth := (cX5_bitsBehind, 3, some .int, RX5, "bitsBehind")
theorem mi_X5_bitsBehind : MI yX5_bitsBehind MX5_bitsBehind 2 := ⟨t_991, t_6, by decide +kernel, by decide +kernel, by decide +kernel, by decide⟩
abbrev MX5_weigh : Mth := (cX5_weigh, 6, none, RX5, "weigh")
theorem mi_X5_weigh : MI yX5_weigh MX5_weigh 1 := ⟨t_995, t_6, by decide +kernel, by decide +kernel, by decide +kernel, by decide⟩
abbrev MX5_endDay : Mth := (cX5_endDay, 4, none, RX5, "endDay")
theorem mi_X5_endDay : MI yX5_endDay MX5_endDay 1 := ⟨t_1000, t_6, by decide +kernel, by decide +kernel, by decide +kernel, by decide⟩
abbrev MX5_book : Mth := (cX5_book, 7, none, RX5, "book")
theorem mi_X5_book : MI yX5_book MX5_book 3 := ⟨t_1004, t_6, by decide +kernel, by decide +kernel, by decide +kernel, by decide⟩
abbrev MX5_findUneven : Mth := (cX5_findUneven, 4, none, RX5, "findUneven")
theorem mi_X5_findUneven : MI yX5_findUneven MX5_findUneven 0 := ⟨t_1008, t_6, by decide +kernel, by decide +kernel, by decide +kernel, by decide⟩
abbrev MX5_borrowersOf : Mth := (cX5_borrowersOf, 2, some .int, RX5, "borrowersOf")
theorem mi_X5_borrowersOf : MI yX5_borrowersOf MX5_borrowersOf 1 := ⟨t_1019, t_6, by decide +kernel, by decide +kernel, by decide +kernel, by decide⟩
abbrev MX6_init : Mth := (cX6_init, 1, none, RX6, "<init>")
theorem mi_X6_init : MI yX6_init MX6_init 0 := ⟨t_770, t_20, by decide +kernel, by decide +kernel, by decide +kernel, by decide⟩
abbrev MX6_readRules : Mth := (cX6_readRules, 5, some .boolean, RX6, "readRules")
theorem mi_X6_readRules : MI yX6_readRules MX6_readRules 3 := ⟨t_785, t_20, by decide +kernel, by decide +kernel, by decide +kernel, by decide⟩
abbrev MX6_readStatement : Mth := (cX6_readStatement, 3, some .boolean, RX6, "readStatement")
theorem mi_X6_readStatement : MI yX6_readStatement MX6_readStatement 2 := ⟨t_790, t_20, by decide +kernel, by decide +kernel, by decide +kernel, by decide⟩
abbrev MX6_readForm : Mth := (cX6_readForm, 3, some .boolean, RX6, "readForm")
theorem mi_X6_readForm : MI yX6_readForm MX6_readForm 2 := ⟨t_796, t_20, by decide +kernel, by decide +kernel, by decide +kernel, by decide⟩
abbrev MX6_readTies : Mth := (cX6_readTies, 5, none, RX6, "readTies")
theorem mi_X6_readTies : MI yX6_readTies MX6_readTies 2 := ⟨t_807, t_20, by decide +kernel, by decide +kernel, by decide +kernel, by decide⟩
abbrev MX6_readWithin : Mth := (cX6_readWithin, 3, some .boolean, RX6, "readWithin")
theorem mi_X6_readWithin : MI yX6_readWithin MX6_readWithin 2 := ⟨t_813, t_20, by decide +kernel, by decide +kernel, by decide +kernel, by decide⟩
abbrev MX7_init : Mth := (cX7_init, 3, none, RX7, "<init>")
theorem mi_X7_init : MI yX7_init MX7_init 2 := ⟨t_262, t_9, by decide +kernel, by decide +kernel, by decide +kernel, by decide⟩
abbrev MX7_forget : Mth := (cX7_forget, 1, none, RX7, "forget")
theorem mi_X7_forget : MI yX7_forget MX7_forget 0 := ⟨t_821, t_9, by decide +kernel, by decide +kernel, by decide +kernel, by decide⟩
abbrev MX7_forgetAll : Mth := (cX7_forgetAll, 1, none, RX7, "forgetAll")
theorem mi_X7_forgetAll : MI yX7_forgetAll MX7_forgetAll 0 := ⟨t_411, t_9, by decide +kernel, by decide +kernel, by decide +kernel, by decide⟩
abbrev MX7_putOffered : Mth := (cX7_putOffered, 3, some .boolean, RX7, "putOffered")
theorem mi_X7_putOffered : MI yX7_putOffered MX7_putOffered 1 := ⟨t_1109, t_9, by decide +kernel, by decide +kernel, by decide +kernel, by decide⟩
abbrev MX7_look : Mth := (cX7_look, 4, none, RX7, "look")
theorem mi_X7_look : MI yX7_look MX7_look 2 := ⟨t_1118, t_9, by decide +kernel, by decide +kernel, by decide +kernel, by decide⟩
abbrev MX7_findBarred : Mth := (cX7_findBarred, 6, none, RX7, "findBarred")
theorem mi_X7_findBarred : MI yX7_findBarred MX7_findBarred 3 := ⟨t_1122, t_9, by decide +kernel, by decide +kernel, by decide +kernel, by decide⟩
abbrev MX7_grow : Mth := (cX7_grow, 7, none, RX7, "grow")
theorem mi_X7_grow : MI yX7_grow MX7_grow 3 := ⟨t_1136, t_9, by decide +kernel, by decide +kernel, by decide +kernel, by decide⟩
abbrev MX7_isLoan : Mth := (cX7_isLoan, 2, some .boolean, RX7, "isLoan")
theorem mi_X7_isLoan : MI yX7_isLoan MX7_isLoan 1 := ⟨t_1146, t_9, by decide +kernel, by decide +kernel, by decide +kernel, by decide⟩
abbrev MX7_mayLend : Mth := (cX7_mayLend, 8, some .boolean, RX7, "mayLend")
theorem mi_X7_mayLend : MI yX7_mayLend MX7_mayLend 1 := ⟨t_1142, t_9, by decide +kernel, by decide +kernel, by decide +kernel, by decide⟩
abbrev MX7_howMany : Mth := (cX7_howMany, 4, some .int, RX7, "howMany")
theorem mi_X7_howMany : MI yX7_howMany MX7_howMany 1 := ⟨t_1163, t_9, by decide +kernel, by decide +kernel, by decide +kernel, by decide⟩
abbrev MX7_fewest : Mth := (cX7_fewest, 4, some .int, RX7, "fewest")
theorem mi_X7_fewest : MI yX7_fewest MX7_fewest 1 := ⟨t_1168, t_9, by decide +kernel, by decide +kernel, by decide +kernel, by decide⟩
abbrev MX7_isLess : Mth := (cX7_isLess, 4, some .boolean, RX7, "isLess")
theorem mi_X7_isLess : MI yX7_isLess MX7_isLess 2 := ⟨t_1171, t_9, by decide +kernel, by decide +kernel, by decide +kernel, by decide⟩
abbrev MX7_fewestWords : Mth := (cX7_fewestWords, 6, some .int, RX7, "fewestWords")
theorem mi_X7_fewestWords : MI yX7_fewestWords MX7_fewestWords 3 := ⟨t_1210, t_9, by decide +kernel, by decide +kernel, by decide +kernel, by decide⟩
abbrev MX7_wordsThatBar : Mth := (cX7_wordsThatBar, 6, some .int, RX7, "wordsThatBar")
theorem mi_X7_wordsThatBar : MI yX7_wordsThatBar MX7_wordsThatBar 2 := ⟨t_1214, t_9, by decide +kernel, by decide +kernel, by decide +kernel, by decide⟩
abbrev MX7_putNeed : Mth := (cX7_putNeed, 3, none, RX7, "putNeed")
theorem mi_X7_putNeed : MI yX7_putNeed MX7_putNeed 1 := ⟨t_1218, t_9, by decide +kernel, by decide +kernel, by decide +kernel, by decide⟩
abbrev MX7_meetsNeeds : Mth := (cX7_meetsNeeds, 3, some .boolean, RX7, "meetsNeeds")
theorem mi_X7_meetsNeeds : MI yX7_meetsNeeds MX7_meetsNeeds 1 := ⟨t_1222, t_9, by decide +kernel, by decide +kernel, by decide +kernel, by decide⟩
abbrev MX8_init : Mth := (cX8_init, 1, none, RX8, "<init>")
theorem mi_X8_init : MI yX8_init MX8_init 0 := ⟨t_72, t_4, by decide +kernel, by decide +kernel, by decide +kernel, by decide⟩
abbrev MX8_empty : Mth := (cX8_empty, 1, none, RX8, "empty")
theorem mi_X8_empty : MI yX8_empty MX8_empty 0 := ⟨t_530, t_4, by decide +kernel, by decide +kernel, by decide +kernel, by decide⟩
abbrev MX8_hasRoom : Mth := (cX8_hasRoom, 2, some .boolean, RX8, "hasRoom")
theorem mi_X8_hasRoom : MI yX8_hasRoom MX8_hasRoom 1 := ⟨t_649, t_4, by decide +kernel, by decide +kernel, by decide +kernel, by decide⟩
abbrev MX8_putLeaf : Mth := (cX8_putLeaf, 2, none, RX8, "putLeaf")
theorem mi_X8_putLeaf : MI yX8_putLeaf MX8_putLeaf 1 := ⟨t_645, t_4, by decide +kernel, by decide +kernel, by decide +kernel, by decide⟩
abbrev MX8_begin : Mth := (cX8_begin, 4, some .int, RX8, "begin")
theorem mi_X8_begin : MI yX8_begin MX8_begin 2 := ⟨t_673, t_4, by decide +kernel, by decide +kernel, by decide +kernel, by decide⟩
abbrev MX8_isBegun : Mth := (cX8_isBegun, 2, some .boolean, RX8, "isBegun")
theorem mi_X8_isBegun : MI yX8_isBegun MX8_isBegun 1 := ⟨t_693, t_4, by decide +kernel, by decide +kernel, by decide +kernel, by decide⟩
abbrev MX8_endOne : Mth := (cX8_endOne, 6, none, RX8, "endOne")
theorem mi_X8_endOne : MI yX8_endOne MX8_endOne 1 := ⟨t_689, t_4, by decide +kernel, by decide +kernel, by decide +kernel, by decide⟩
abbrev MX8_isJustAfter : Mth := (cX8_isJustAfter, 3, some .boolean, RX8, "isJustAfter")
theorem mi_X8_isJustAfter : MI yX8_isJustAfter MX8_isJustAfter 2 := ⟨t_701, t_4, by decide +kernel, by decide +kernel, by decide +kernel, by decide⟩
abbrev MX8_turn : Mth := (cX8_turn, 2, none, RX8, "turn")
theorem mi_X8_turn : MI yX8_turn MX8_turn 1 := ⟨t_723, t_4, by decide +kernel, by decide +kernel, by decide +kernel, by decide⟩
abbrev MX8_endTwo : Mth := (cX8_endTwo, 6, none, RX8, "endTwo")
theorem mi_X8_endTwo : MI yX8_endTwo MX8_endTwo 1 := ⟨t_727, t_4, by decide +kernel, by decide +kernel, by decide +kernel, by decide⟩
abbrev MX8_isAlike : Mth := (cX8_isAlike, 5, some .boolean, RX8, "isAlike")
theorem mi_X8_isAlike : MI yX8_isAlike MX8_isAlike 3 := ⟨t_731, t_4, by decide +kernel, by decide +kernel, by decide +kernel, by decide⟩
abbrev MX8_lift : Mth := (cX8_lift, 4, none, RX8, "lift")
theorem mi_X8_lift : MI yX8_lift MX8_lift 3 := ⟨t_697, t_4, by decide +kernel, by decide +kernel, by decide +kernel, by decide⟩
abbrev MX8_leavesLeft : Mth := (cX8_leavesLeft, 3, some .int, RX8, "leavesLeft")
theorem mi_X8_leavesLeft : MI yX8_leavesLeft MX8_leavesLeft 0 := ⟨t_753, t_4, by decide +kernel, by decide +kernel, by decide +kernel, by decide⟩
abbrev MX9_init : Mth := (cX9_init, 1, none, RX9, "<init>")
theorem mi_X9_init : MI yX9_init MX9_init 0 := ⟨t_211, t_7, by decide +kernel, by decide +kernel, by decide +kernel, by decide⟩
abbrev MX9_learn : Mth := (cX9_learn, 8, none, RX9, "learn")
theorem mi_X9_learn : MI yX9_learn MX9_learn 2 := ⟨t_971, t_7, by decide +kernel, by decide +kernel, by decide +kernel, by decide⟩
abbrev MX9_noteLender : Mth := (cX9_noteLender, 11, none, RX9, "noteLender")
theorem mi_X9_noteLender : MI yX9_noteLender MX9_noteLender 2 := ⟨t_1015, t_7, by decide +kernel, by decide +kernel, by decide +kernel, by decide⟩
abbrev MX9_notePrice : Mth := (cX9_notePrice, 7, none, RX9, "notePrice")
theorem mi_X9_notePrice : MI yX9_notePrice MX9_notePrice 3 := ⟨t_1026, t_7, by decide +kernel, by decide +kernel, by decide +kernel, by decide⟩
abbrev MX9_leastPair : Mth := (cX9_leastPair, 3, some .int, RX9, "leastPair")
theorem mi_X9_leastPair : MI yX9_leastPair MX9_leastPair 1 := ⟨t_1036, t_7, by decide +kernel, by decide +kernel, by decide +kernel, by decide⟩
abbrev MX9_commonDivisor : Mth := (cX9_commonDivisor, 11, some .long, RX9, "commonDivisor")
theorem mi_X9_commonDivisor : MI yX9_commonDivisor MX9_commonDivisor 2 := ⟨t_1022, t_7, by decide +kernel, by decide +kernel, by decide +kernel, by decide⟩
abbrev MX9_compareShares : Mth := (cX9_compareShares, 18, some .int, RX9, "compareShares")
theorem mi_X9_compareShares : MI yX9_compareShares MX9_compareShares 4 := ⟨t_1029, t_7, by decide +kernel, by decide +kernel, by decide +kernel, by decide⟩
abbrev MX10_init : Mth := (cX10_init, 1, none, RX10, "<init>")
theorem mi_X10_init : MI yX10_init MX10_init 0 := ⟨t_35, t_2, by decide +kernel, by decide +kernel, by decide +kernel, by decide⟩
abbrev MX10_putFour : Mth := (cX10_putFour, 3, none, RX10, "putFour")
theorem mi_X10_putFour : MI yX10_putFour MX10_putFour 1 := ⟨t_422, t_2, by decide +kernel, by decide +kernel, by decide +kernel, by decide⟩
abbrev MX10_open : Mth := (cX10_open, 2, none, RX10, "open")
theorem mi_X10_open : MI yX10_open MX10_open 1 := ⟨t_511, t_2, by decide +kernel, by decide +kernel, by decide +kernel, by decide⟩
abbrev MX10_advance : Mth := (cX10_advance, 1, none, RX10, "advance")
theorem mi_X10_advance : MI yX10_advance MX10_advance 0 := ⟨t_518, t_2, by decide +kernel, by decide +kernel, by decide +kernel, by decide⟩
abbrev MX10_refuse : Mth := (cX10_refuse, 1, some .boolean, RX10, "refuse")
theorem mi_X10_refuse : MI yX10_refuse MX10_refuse 0 := ⟨t_599, t_2, by decide +kernel, by decide +kernel, by decide +kernel, by decide⟩
abbrev MX10_isAtEnd : Mth := (cX10_isAtEnd, 1, some .boolean, RX10, "isAtEnd")
theorem mi_X10_isAtEnd : MI yX10_isAtEnd MX10_isAtEnd 0 := ⟨t_741, t_2, by decide +kernel, by decide +kernel, by decide +kernel, by decide⟩
abbrev MX10_isSign : Mth := (cX10_isSign, 2, some .boolean, RX10, "isSign")
theorem mi_X10_isSign : MI yX10_isSign MX10_isSign 1 := ⟨t_685, t_2, by decide +kernel, by decide +kernel, by decide +kernel, by decide⟩
abbrev MX10_takeSign : Mth := (cX10_takeSign, 2, some .boolean, RX10, "takeSign")
theorem mi_X10_takeSign : MI yX10_takeSign MX10_takeSign 1 := ⟨t_681, t_2, by decide +kernel, by decide +kernel, by decide +kernel, by decide⟩
abbrev MX10_placeIn : Mth := (cX10_placeIn, 6, some .int, RX10, "placeIn")
theorem mi_X10_placeIn : MI yX10_placeIn MX10_placeIn 1 := ⟨t_543, t_2, by decide +kernel, by decide +kernel, by decide +kernel, by decide⟩
abbrev MX10_isWord : Mth := (cX10_isWord, 2, some .boolean, RX10, "isWord")
theorem mi_X10_isWord : MI yX10_isWord MX10_isWord 1 := ⟨t_633, t_2, by decide +kernel, by decide +kernel, by decide +kernel, by decide⟩
abbrev MX10_takeWord : Mth := (cX10_takeWord, 2, some .boolean, RX10, "takeWord")
theorem mi_X10_takeWord : MI yX10_takeWord MX10_takeWord 1 := ⟨t_629, t_2, by decide +kernel, by decide +kernel, by decide +kernel, by decide⟩
abbrev MX10_takeOneOf : Mth := (cX10_takeOneOf, 3, some .int, RX10, "takeOneOf")
theorem mi_X10_takeOneOf : MI yX10_takeOneOf MX10_takeOneOf 1 := ⟨t_609, t_2, by decide +kernel, by decide +kernel, by decide +kernel, by decide⟩
abbrev MX10_takeNumber : Mth := (cX10_takeNumber, 5, some .int, RX10, "takeNumber")
theorem mi_X10_takeNumber : MI yX10_takeNumber MX10_takeNumber 2 := ⟨t_620, t_2, by decide +kernel, by decide +kernel, by decide +kernel, by decide⟩
abbrev MX11_init : Mth := (cX11_init, 2, none, RX11, "<init>")
theorem mi_X11_init : MI yX11_init MX11_init 0 := ⟨t_27, t_1, by decide +kernel, by decide +kernel, by decide +kernel, by decide⟩
abbrev MX11_family : Mth := (cX11_family, 3, some .boolean, RX11, "family")
theorem mi_X11_family : MI yX11_family MX11_family 2 := ⟨t_404, t_1, by decide +kernel, by decide +kernel, by decide +kernel, by decide⟩
abbrev MX11_feed : Mth := (cX11_feed, 6, some .int, RX11, "feed")
theorem mi_X11_feed : MI yX11_feed MX11_feed 5 := ⟨t_418, t_1, by decide +kernel, by decide +kernel, by decide +kernel, by decide⟩
abbrev MX11_deal : Mth := (cX11_deal, 5, some .int, RX11, "deal")
theorem mi_X11_deal : MI yX11_deal MX11_deal 2 := ⟨t_426, t_1, by decide +kernel, by decide +kernel, by decide +kernel, by decide⟩
abbrev MX11_law : Mth := (cX11_law, 3, some .int, RX11, "law")
theorem mi_X11_law : MI yX11_law MX11_law 1 := ⟨t_762, t_1, by decide +kernel, by decide +kernel, by decide +kernel, by decide⟩
abbrev MX11_word : Mth := (cX11_word, 3, some .int, RX11, "word")
theorem mi_X11_word : MI yX11_word MX11_word 1 := ⟨t_825, t_1, by decide +kernel, by decide +kernel, by decide +kernel, by decide⟩
abbrev MX11_fault : Mth := (cX11_fault, 1, some .int, RX11, "fault")
theorem mi_X11_fault : MI yX11_fault MX11_fault 0 := ⟨t_829, t_1, by decide +kernel, by decide +kernel, by decide +kernel, by decide⟩
abbrev MX11_size : Mth := (cX11_size, 4, some .int, RX11, "size")
theorem mi_X11_size : MI yX11_size MX11_size 2 := ⟨t_833, t_1, by decide +kernel, by decide +kernel, by decide +kernel, by decide⟩
abbrev MX11_leaf : Mth := (cX11_leaf, 5, some .int, RX11, "leaf")
theorem mi_X11_leaf : MI yX11_leaf MX11_leaf 3 := ⟨t_841, t_1, by decide +kernel, by decide +kernel, by decide +kernel, by decide⟩
abbrev MX11_plain : Mth := (cX11_plain, 3, some .int, RX11, "plain")
theorem mi_X11_plain : MI yX11_plain MX11_plain 2 := ⟨t_845, t_1, by decide +kernel, by decide +kernel, by decide +kernel, by decide⟩
abbrev MX11_same : Mth := (cX11_same, 3, some .int, RX11, "same")
theorem mi_X11_same : MI yX11_same MX11_same 2 := ⟨t_849, t_1, by decide +kernel, by decide +kernel, by decide +kernel, by decide⟩
abbrev MX11_add : Mth := (cX11_add, 2, some .int, RX11, "add")
theorem mi_X11_add : MI yX11_add MX11_add 1 := ⟨t_885, t_1, by decide +kernel, by decide +kernel, by decide +kernel, by decide⟩
abbrev MX11_clear : Mth := (cX11_clear, 2, some .int, RX11, "clear")
theorem mi_X11_clear : MI yX11_clear MX11_clear 0 := ⟨t_897, t_1, by decide +kernel, by decide +kernel, by decide +kernel, by decide⟩
abbrev MX11_passed : Mth := (cX11_passed, 4, some .long, RX11, "passed")
theorem mi_X11_passed : MI yX11_passed MX11_passed 3 := ⟨t_901, t_1, by decide +kernel, by decide +kernel, by decide +kernel, by decide⟩
abbrev MX11_net : Mth := (cX11_net, 5, some .long, RX11, "net")
theorem mi_X11_net : MI yX11_net MX11_net 4 := ⟨t_931, t_1, by decide +kernel, by decide +kernel, by decide +kernel, by decide⟩
abbrev MX11_codes : Mth := (cX11_codes, 1, some .int, RX11, "codes")
theorem mi_X11_codes : MI yX11_codes MX11_codes 0 := ⟨t_947, t_1, by decide +kernel, by decide +kernel, by decide +kernel, by decide⟩
abbrev MX11_lends : Mth := (cX11_lends, 3, some .int, RX11, "lends")
theorem mi_X11_lends : MI yX11_lends MX11_lends 2 := ⟨t_964, t_1, by decide +kernel, by decide +kernel, by decide +kernel, by decide⟩
abbrev MX11_price : Mth := (cX11_price, 5, some .long, RX11, "price")
theorem mi_X11_price : MI yX11_price MX11_price 3 := ⟨t_1040, t_1, by decide +kernel, by decide +kernel, by decide +kernel, by decide⟩
abbrev MX11_loan : Mth := (cX11_loan, 1, some .int, RX11, "loan")
theorem mi_X11_loan : MI yX11_loan MX11_loan 0 := ⟨t_1044, t_1, by decide +kernel, by decide +kernel, by decide +kernel, by decide⟩
abbrev MX11_step : Mth := (cX11_step, 1, some .long, RX11, "step")
theorem mi_X11_step : MI yX11_step MX11_step 0 := ⟨t_1048, t_1, by decide +kernel, by decide +kernel, by decide +kernel, by decide⟩
abbrev MX11_bears : Mth := (cX11_bears, 3, some .long, RX11, "bears")
theorem mi_X11_bears : MI yX11_bears MX11_bears 2 := ⟨t_1052, t_1, by decide +kernel, by decide +kernel, by decide +kernel, by decide⟩
abbrev MX11_cost : Mth := (cX11_cost, 12, some .long, RX11, "cost")
theorem mi_X11_cost : MI yX11_cost MX11_cost 3 := ⟨t_1056, t_1, by decide +kernel, by decide +kernel, by decide +kernel, by decide⟩
abbrev MX11_breach : Mth := (cX11_breach, 4, some .int, RX11, "breach")
theorem mi_X11_breach : MI yX11_breach MX11_breach 1 := ⟨t_1060, t_1, by decide +kernel, by decide +kernel, by decide +kernel, by decide⟩
abbrev MX11_bars : Mth := (cX11_bars, 2, some .int, RX11, "bars")
theorem mi_X11_bars : MI yX11_bars MX11_bars 1 := ⟨t_1101, t_1, by decide +kernel, by decide +kernel, by decide +kernel, by decide⟩
abbrev MX11_offer : Mth := (cX11_offer, 2, some .int, RX11, "offer")
theorem mi_X11_offer : MI yX11_offer MX11_offer 1 := ⟨t_1105, t_1, by decide +kernel, by decide +kernel, by decide +kernel, by decide⟩
abbrev MX11_sly : Mth := (cX11_sly, 3, some .int, RX11, "sly")
theorem mi_X11_sly : MI yX11_sly MX11_sly 2 := ⟨t_1114, t_1, by decide +kernel, by decide +kernel, by decide +kernel, by decide⟩
abbrev MX11_honest : Mth := (cX11_honest, 2, some .int, RX11, "honest")
theorem mi_X11_honest : MI yX11_honest MX11_honest 0 := ⟨t_1175, t_1, by decide +kernel, by decide +kernel, by decide +kernel, by decide⟩
abbrev MX11_innocent : Mth := (cX11_innocent, 4, some .int, RX11, "innocent")
theorem mi_X11_innocent : MI yX11_innocent MX11_innocent 2 := ⟨t_1184, t_1, by decide +kernel, by decide +kernel, by decide +kernel, by decide⟩
abbrev MX11_parts : Mth := (cX11_parts, 4, some .int, RX11, "parts")
theorem mi_X11_parts : MI yX11_parts MX11_parts 1 := ⟨t_1193, t_1, by decide +kernel, by decide +kernel, by decide +kernel, by decide⟩
abbrev MX11_stop : Mth := (cX11_stop, 4, some .int, RX11, "stop")
theorem mi_X11_stop : MI yX11_stop MX11_stop 1 := ⟨t_1202, t_1, by decide +kernel, by decide +kernel, by decide +kernel, by decide⟩
abbrev MX11_heap : Mth := (cX11_heap, 3, some .int, RX11, "heap")
theorem mi_X11_heap : MI yX11_heap MX11_heap 2 := ⟨t_1226, t_1, by decide +kernel, by decide +kernel, by decide +kernel, by decide⟩
abbrev MX11_group : Mth := (cX11_group, 3, some .int, RX11, "group")
theorem mi_X11_group : MI yX11_group MX11_group 2 := ⟨t_1251, t_1, by decide +kernel, by decide +kernel, by decide +kernel, by decide⟩
abbrev MX11_count : Mth := (cX11_count, 2, some .int, RX11, "count")
theorem mi_X11_count : MI yX11_count MX11_count 1 := ⟨t_1260, t_1, by decide +kernel, by decide +kernel, by decide +kernel, by decide⟩
abbrev MX11_isWithin : Mth := (cX11_isWithin, 2, some .boolean, RX11, "isWithin")
theorem mi_X11_isWithin : MI yX11_isWithin MX11_isWithin 2 := ⟨t_407, t_1, by decide +kernel, by decide +kernel, by decide +kernel, by decide⟩
abbrev MX11_isPair : Mth := (cX11_isPair, 2, some .boolean, RX11, "isPair")
theorem mi_X11_isPair : MI yX11_isPair MX11_isPair 2 := ⟨t_967, t_1, by decide +kernel, by decide +kernel, by decide +kernel, by decide⟩
abbrev MX11_refusalOf : Mth := (cX11_refusalOf, 4, some .int, RX11, "refusalOf")
theorem mi_X11_refusalOf : MI yX11_refusalOf MX11_refusalOf 3 := ⟨t_430, t_1, by decide +kernel, by decide +kernel, by decide +kernel, by decide⟩
abbrev MX11_tellRules : Mth := (cX11_tellRules, 7, some .int, RX11, "tellRules")
theorem mi_X11_tellRules : MI yX11_tellRules MX11_tellRules 5 := ⟨t_766, t_1, by decide +kernel, by decide +kernel, by decide +kernel, by decide⟩
abbrev MX11_closeText : Mth := (cX11_closeText, 3, some .int, RX11, "closeText")
theorem mi_X11_closeText : MI yX11_closeText MX11_closeText 2 := ⟨t_757, t_1, by decide +kernel, by decide +kernel, by decide +kernel, by decide⟩
abbrev MX11_lawInForce : Mth := (cX11_lawInForce, 1, some (.object "LoanNames$Rules"), RX11, "lawInForce")
theorem mi_X11_lawInForce : MI yX11_lawInForce MX11_lawInForce 0 := ⟨t_1064, t_1, by decide +kernel, by decide +kernel, by decide +kernel, by decide⟩
abbrev MX11_isLet : Mth := (cX11_isLet, 3, some .boolean, RX11, "isLet")
theorem mi_X11_isLet : MI yX11_isLet MX11_isLet 1 := ⟨t_1188, t_1, by decide +kernel, by decide +kernel, by decide +kernel, by decide⟩
abbrev MX11_sparesHonest : Mth := (cX11_sparesHonest, 3, some .boolean, RX11, "sparesHonest")
theorem mi_X11_sparesHonest : MI yX11_sparesHonest MX11_sparesHonest 1 := ⟨t_1206, t_1, by decide +kernel, by decide +kernel, by decide +kernel, by decide⟩
abbrev MX12_init : Mth := (cX12_init, 2, none, RX12, "<init>")
theorem mi_X12_init : MI yX12_init MX12_init 0 := ⟨t_1270, t_11, by decide +kernel, by decide +kernel, by decide +kernel, by decide⟩
abbrev MX12_within : Mth := (cX12_within, 3, some .boolean, RX12, "within")
theorem mi_X12_within : MI yX12_within MX12_within 3 := ⟨t_1559, t_11, by decide +kernel, by decide +kernel, by decide +kernel, by decide⟩
abbrev MX12_family : Mth := (cX12_family, 3, some .boolean, RX12, "family")
theorem mi_X12_family : MI yX12_family MX12_family 2 := ⟨t_1556, t_11, by decide +kernel, by decide +kernel, by decide +kernel, by decide⟩
abbrev MX12_feed : Mth := (cX12_feed, 8, some .int, RX12, "feed")
theorem mi_X12_feed : MI yX12_feed MX12_feed 5 := ⟨t_1563, t_11, by decide +kernel, by decide +kernel, by decide +kernel, by decide⟩
abbrev MX12_here : Mth := (cX12_here, 1, some .int, RX12, "here")
theorem mi_X12_here : MI yX12_here MX12_here 0 := ⟨t_1579, t_11, by decide +kernel, by decide +kernel, by decide +kernel, by decide⟩
abbrev MX12_next : Mth := (cX12_next, 2, none, RX12, "next")
theorem mi_X12_next : MI yX12_next MX12_next 0 := ⟨t_1575, t_11, by decide +kernel, by decide +kernel, by decide +kernel, by decide⟩
abbrev MX12_errs : Mth := (cX12_errs, 1, none, RX12, "errs")
theorem mi_X12_errs : MI yX12_errs MX12_errs 0 := ⟨t_1598, t_11, by decide +kernel, by decide +kernel, by decide +kernel, by decide⟩
abbrev MX12_is : Mth := (cX12_is, 3, some .boolean, RX12, "is")
theorem mi_X12_is : MI yX12_is MX12_is 1 := ⟨t_1638, t_11, by decide +kernel, by decide +kernel, by decide +kernel, by decide⟩
abbrev MX12_mustBe : Mth := (cX12_mustBe, 3, none, RX12, "mustBe")
theorem mi_X12_mustBe : MI yX12_mustBe MX12_mustBe 1 := ⟨t_1634, t_11, by decide +kernel, by decide +kernel, by decide +kernel, by decide⟩
abbrev MX12_numeral : Mth := (cX12_numeral, 4, some .int, RX12, "numeral")
theorem mi_X12_numeral : MI yX12_numeral MX12_numeral 2 := ⟨t_1629, t_11, by decide +kernel, by decide +kernel, by decide +kernel, by decide⟩
abbrev MX12_thingHere : Mth := (cX12_thingHere, 1, some .int, RX12, "thingHere")
theorem mi_X12_thingHere : MI yX12_thingHere MX12_thingHere 0 := ⟨t_1619, t_11, by decide +kernel, by decide +kernel, by decide +kernel, by decide⟩
abbrev MX12_eventHere : Mth := (cX12_eventHere, 1, some .int, RX12, "eventHere")
theorem mi_X12_eventHere : MI yX12_eventHere MX12_eventHere 0 := ⟨t_1659, t_11, by decide +kernel, by decide +kernel, by decide +kernel, by decide⟩
abbrev MX12_kindHere : Mth := (cX12_kindHere, 1, some .int, RX12, "kindHere")
theorem mi_X12_kindHere : MI yX12_kindHere MX12_kindHere 0 := ⟨t_1586, t_11, by decide +kernel, by decide +kernel, by decide +kernel, by decide⟩
abbrev MX12_hand : Mth := (cX12_hand, 3, some .int, RX12, "hand")
theorem mi_X12_hand : MI yX12_hand MX12_hand 1 := ⟨t_1610, t_11, by decide +kernel, by decide +kernel, by decide +kernel, by decide⟩
abbrev MX12_thingOf : Mth := (cX12_thingOf, 2, some .int, RX12, "thingOf")
theorem mi_X12_thingOf : MI yX12_thingOf MX12_thingOf 0 := ⟨t_1615, t_11, by decide +kernel, by decide +kernel, by decide +kernel, by decide⟩
abbrev MX12_beginsText : Mth := (cX12_beginsText, 2, none, RX12, "beginsText")
theorem mi_X12_beginsText : MI yX12_beginsText MX12_beginsText 1 := ⟨t_1571, t_11, by decide +kernel, by decide +kernel, by decide +kernel, by decide⟩
abbrev MX12_newNode : Mth := (cX12_newNode, 3, some .int, RX12, "newNode")
theorem mi_X12_newNode : MI yX12_newNode MX12_newNode 1 := ⟨t_1606, t_11, by decide +kernel, by decide +kernel, by decide +kernel, by decide⟩
abbrev MX12_readLeaf : Mth := (cX12_readLeaf, 3, none, RX12, "readLeaf")
theorem mi_X12_readLeaf : MI yX12_readLeaf MX12_readLeaf 1 := ⟨t_1602, t_11, by decide +kernel, by decide +kernel, by decide +kernel, by decide⟩
abbrev MX12_opens : Mth := (cX12_opens, 3, none, RX12, "opens")
theorem mi_X12_opens : MI yX12_opens MX12_opens 2 := ⟨t_1651, t_11, by decide +kernel, by decide +kernel, by decide +kernel, by decide⟩
abbrev MX12_readGroup : Mth := (cX12_readGroup, 3, none, RX12, "readGroup")
theorem mi_X12_readGroup : MI yX12_readGroup MX12_readGroup 1 := ⟨t_1655, t_11, by decide +kernel, by decide +kernel, by decide +kernel, by decide⟩
abbrev MX12_closes : Mth := (cX12_closes, 3, some .boolean, RX12, "closes")
theorem mi_X12_closes : MI yX12_closes MX12_closes 0 := ⟨t_1645, t_11, by decide +kernel, by decide +kernel, by decide +kernel, by decide⟩
abbrev MX12_deal : Mth := (cX12_deal, 5, some .int, RX12, "deal")
theorem mi_X12_deal : MI yX12_deal MX12_deal 2 := ⟨t_1567, t_11, by decide +kernel, by decide +kernel, by decide +kernel, by decide⟩
abbrev MX12_fault : Mth := (cX12_fault, 1, some .int, RX12, "fault")
theorem mi_X12_fault : MI yX12_fault MX12_fault 0 := ⟨t_1668, t_11, by decide +kernel, by decide +kernel, by decide +kernel, by decide⟩
abbrev MX12_isDeal : Mth := (cX12_isDeal, 2, some .boolean, RX12, "isDeal")
theorem mi_X12_isDeal : MI yX12_isDeal MX12_isDeal 1 := ⟨t_1676, t_11, by decide +kernel, by decide +kernel, by decide +kernel, by decide⟩
abbrev MX12_isLeaf : Mth := (cX12_isLeaf, 2, some .boolean, RX12, "isLeaf")
theorem mi_X12_isLeaf : MI yX12_isLeaf MX12_isLeaf 1 := ⟨t_1680, t_11, by decide +kernel, by decide +kernel, by decide +kernel, by decide⟩
abbrev MX12_later : Mth := (cX12_later, 4, some .int, RX12, "later")
theorem mi_X12_later : MI yX12_later MX12_later 1 := ⟨t_1692, t_11, by decide +kernel, by decide +kernel, by decide +kernel, by decide⟩
abbrev MX12_size : Mth := (cX12_size, 5, some .int, RX12, "size")
theorem mi_X12_size : MI yX12_size MX12_size 2 := ⟨t_1672, t_11, by decide +kernel, by decide +kernel, by decide +kernel, by decide⟩
abbrev MX12_leaf : Mth := (cX12_leaf, 6, some .int, RX12, "leaf")
theorem mi_X12_leaf : MI yX12_leaf MX12_leaf 3 := ⟨t_1684, t_11, by decide +kernel, by decide +kernel, by decide +kernel, by decide⟩
abbrev MX12_told : Mth := (cX12_told, 3, some .int, RX12, "told")
theorem mi_X12_told : MI yX12_told MX12_told 2 := ⟨t_1688, t_11, by decide +kernel, by decide +kernel, by decide +kernel, by decide⟩
abbrev MX12_times : Mth := (cX12_times, 8, some .long, RX12, "times")
theorem mi_X12_times : MI yX12_times MX12_times 3 := ⟨t_1736, t_11, by decide +kernel, by decide +kernel, by decide +kernel, by decide⟩
abbrev MX12_rowsOf : Mth := (cX12_rowsOf, 2, some .int, RX12, "rowsOf")
theorem mi_X12_rowsOf : MI yX12_rowsOf MX12_rowsOf 1 := ⟨t_1776, t_11, by decide +kernel, by decide +kernel, by decide +kernel, by decide⟩
abbrev MX12_partsLeft : Mth := (cX12_partsLeft, 6, some .int, RX12, "partsLeft")
theorem mi_X12_partsLeft : MI yX12_partsLeft MX12_partsLeft 3 := ⟨t_1704, t_11, by decide +kernel, by decide +kernel, by decide +kernel, by decide⟩
abbrev MX12_sign : Mth := (cX12_sign, 3, none, RX12, "sign")
theorem mi_X12_sign : MI yX12_sign MX12_sign 2 := ⟨t_1720, t_11, by decide +kernel, by decide +kernel, by decide +kernel, by decide⟩
abbrev MX12_partLeft : Mth := (cX12_partLeft, 6, some .int, RX12, "partLeft")
theorem mi_X12_partLeft : MI yX12_partLeft MX12_partLeft 3 := ⟨t_1724, t_11, by decide +kernel, by decide +kernel, by decide +kernel, by decide⟩
abbrev MX12_closesUp : Mth := (cX12_closesUp, 3, none, RX12, "closesUp")
theorem mi_X12_closesUp : MI yX12_closesUp MX12_closesUp 2 := ⟨t_1716, t_11, by decide +kernel, by decide +kernel, by decide +kernel, by decide⟩
abbrev MX12_laysOut : Mth := (cX12_laysOut, 7, some .int, RX12, "laysOut")
theorem mi_X12_laysOut : MI yX12_laysOut MX12_laysOut 4 := ⟨t_1712, t_11, by decide +kernel, by decide +kernel, by decide +kernel, by decide⟩
abbrev MX12_areAlike : Mth := (cX12_areAlike, 6, some .boolean, RX12, "areAlike")
theorem mi_X12_areAlike : MI yX12_areAlike MX12_areAlike 2 := ⟨t_1708, t_11, by decide +kernel, by decide +kernel, by decide +kernel, by decide⟩
abbrev MX12_simplifies : Mth := (cX12_simplifies, 7, none, RX12, "simplifies")
theorem mi_X12_simplifies : MI yX12_simplifies MX12_simplifies 2 := ⟨t_1700, t_11, by decide +kernel, by decide +kernel, by decide +kernel, by decide⟩
abbrev MX12_plain : Mth := (cX12_plain, 6, some .int, RX12, "plain")
theorem mi_X12_plain : MI yX12_plain MX12_plain 2 := ⟨t_1696, t_11, by decide +kernel, by decide +kernel, by decide +kernel, by decide⟩
abbrev MX12_flow : Mth := (cX12_flow, 7, none, RX12, "flow")
theorem mi_X12_flow : MI yX12_flow MX12_flow 5 := ⟨t_1740, t_11, by decide +kernel, by decide +kernel, by decide +kernel, by decide⟩
abbrev MX12_passes : Mth := (cX12_passes, 8, none, RX12, "passes")
theorem mi_X12_passes : MI yX12_passes MX12_passes 3 := ⟨t_1732, t_11, by decide +kernel, by decide +kernel, by decide +kernel, by decide⟩
abbrev MX12_among : Mth := (cX12_among, 7, some .long, RX12, "among")
theorem mi_X12_among : MI yX12_among MX12_among 3 := ⟨t_1744, t_11, by decide +kernel, by decide +kernel, by decide +kernel, by decide⟩
abbrev MX12_same : Mth := (cX12_same, 7, some .int, RX12, "same")
theorem mi_X12_same : MI yX12_same MX12_same 2 := ⟨t_1728, t_11, by decide +kernel, by decide +kernel, by decide +kernel, by decide⟩
abbrev MX12_add : Mth := (cX12_add, 3, some .int, RX12, "add")
theorem mi_X12_add : MI yX12_add MX12_add 1 := ⟨t_1748, t_11, by decide +kernel, by decide +kernel, by decide +kernel, by decide⟩
abbrev MX12_clear : Mth := (cX12_clear, 2, some .int, RX12, "clear")
theorem mi_X12_clear : MI yX12_clear MX12_clear 0 := ⟨t_1752, t_11, by decide +kernel, by decide +kernel, by decide +kernel, by decide⟩
abbrev MX12_bundleAtHand : Mth := (cX12_bundleAtHand, 2, none, RX12, "bundleAtHand")
theorem mi_X12_bundleAtHand : MI yX12_bundleAtHand MX12_bundleAtHand 0 := ⟨t_1760, t_11, by decide +kernel, by decide +kernel, by decide +kernel, by decide⟩
abbrev MX12_choicesAtHand : Mth := (cX12_choicesAtHand, 3, some .int, RX12, "choicesAtHand")
theorem mi_X12_choicesAtHand : MI yX12_choicesAtHand MX12_choicesAtHand 0 := ⟨t_1768, t_11, by decide +kernel, by decide +kernel, by decide +kernel, by decide⟩
abbrev MX12_eventsAtHand : Mth := (cX12_eventsAtHand, 3, some .int, RX12, "eventsAtHand")
theorem mi_X12_eventsAtHand : MI yX12_eventsAtHand MX12_eventsAtHand 0 := ⟨t_1809, t_11, by decide +kernel, by decide +kernel, by decide +kernel, by decide⟩
abbrev MX12_bitsOf : Mth := (cX12_bitsOf, 3, some .int, RX12, "bitsOf")
theorem mi_X12_bitsOf : MI yX12_bitsOf MX12_bitsOf 1 := ⟨t_1812, t_11, by decide +kernel, by decide +kernel, by decide +kernel, by decide⟩
abbrev MX12_isLookedAt : Mth := (cX12_isLookedAt, 1, some .boolean, RX12, "isLookedAt")
theorem mi_X12_isLookedAt : MI yX12_isLookedAt MX12_isLookedAt 0 := ⟨t_1805, t_11, by decide +kernel, by decide +kernel, by decide +kernel, by decide⟩
abbrev MX12_codesAtHand : Mth := (cX12_codesAtHand, 1, some .int, RX12, "codesAtHand")
theorem mi_X12_codesAtHand : MI yX12_codesAtHand MX12_codesAtHand 0 := ⟨t_1764, t_11, by decide +kernel, by decide +kernel, by decide +kernel, by decide⟩
abbrev MX12_codeFrom : Mth := (cX12_codeFrom, 4, some .int, RX12, "codeFrom")
theorem mi_X12_codeFrom : MI yX12_codeFrom MX12_codeFrom 1 := ⟨t_1823, t_11, by decide +kernel, by decide +kernel, by decide +kernel, by decide⟩
abbrev MX12_passesAll : Mth := (cX12_passesAll, 4, none, RX12, "passesAll")
theorem mi_X12_passesAll : MI yX12_passesAll MX12_passesAll 1 := ⟨t_1793, t_11, by decide +kernel, by decide +kernel, by decide +kernel, by decide⟩
abbrev MX12_netOf : Mth := (cX12_netOf, 7, some .long, RX12, "netOf")
theorem mi_X12_netOf : MI yX12_netOf MX12_netOf 3 := ⟨t_1797, t_11, by decide +kernel, by decide +kernel, by decide +kernel, by decide⟩
abbrev MX12_findRow : Mth := (cX12_findRow, 9, none, RX12, "findRow")
theorem mi_X12_findRow : MI yX12_findRow MX12_findRow 4 := ⟨t_1780, t_11, by decide +kernel, by decide +kernel, by decide +kernel, by decide⟩
abbrev MX12_rowTold : Mth := (cX12_rowTold, 5, some .long, RX12, "rowTold")
theorem mi_X12_rowTold : MI yX12_rowTold MX12_rowTold 1 := ⟨t_1784, t_11, by decide +kernel, by decide +kernel, by decide +kernel, by decide⟩
abbrev MX12_rowsOfDeal : Mth := (cX12_rowsOfDeal, 6, some .int, RX12, "rowsOfDeal")
theorem mi_X12_rowsOfDeal : MI yX12_rowsOfDeal MX12_rowsOfDeal 3 := ⟨t_1772, t_11, by decide +kernel, by decide +kernel, by decide +kernel, by decide⟩
abbrev MX12_passed : Mth := (cX12_passed, 8, some .long, RX12, "passed")
theorem mi_X12_passed : MI yX12_passed MX12_passed 3 := ⟨t_1756, t_11, by decide +kernel, by decide +kernel, by decide +kernel, by decide⟩
abbrev MX12_net : Mth := (cX12_net, 5, some .long, RX12, "net")
theorem mi_X12_net : MI yX12_net MX12_net 4 := ⟨t_1788, t_11, by decide +kernel, by decide +kernel, by decide +kernel, by decide⟩
abbrev MX12_codes : Mth := (cX12_codes, 1, some .int, RX12, "codes")
theorem mi_X12_codes : MI yX12_codes MX12_codes 0 := ⟨t_1801, t_11, by decide +kernel, by decide +kernel, by decide +kernel, by decide⟩
abbrev MX12_findDays : Mth := (cX12_findDays, 4, none, RX12, "findDays")
theorem mi_X12_findDays : MI yX12_findDays MX12_findDays 0 := ⟨t_1831, t_11, by decide +kernel, by decide +kernel, by decide +kernel, by decide⟩
abbrev MX12_lendingDay : Mth := (cX12_lendingDay, 7, some .int, RX12, "lendingDay")
theorem mi_X12_lendingDay : MI yX12_lendingDay MX12_lendingDay 1 := ⟨t_1835, t_11, by decide +kernel, by decide +kernel, by decide +kernel, by decide⟩
abbrev MX12_findLending : Mth := (cX12_findLending, 5, none, RX12, "findLending")
theorem mi_X12_findLending : MI yX12_findLending MX12_findLending 1 := ⟨t_1827, t_11, by decide +kernel, by decide +kernel, by decide +kernel, by decide⟩
abbrev MX12_areTwo : Mth := (cX12_areTwo, 2, some .boolean, RX12, "areTwo")
theorem mi_X12_areTwo : MI yX12_areTwo MX12_areTwo 2 := ⟨t_1819, t_11, by decide +kernel, by decide +kernel, by decide +kernel, by decide⟩
abbrev MX12_lends : Mth := (cX12_lends, 5, some .int, RX12, "lends")
theorem mi_X12_lends : MI yX12_lends MX12_lends 2 := ⟨t_1816, t_11, by decide +kernel, by decide +kernel, by decide +kernel, by decide⟩
abbrev MX12_divisor : Mth := (cX12_divisor, 10, some .long, RX12, "divisor")
theorem mi_X12_divisor : MI yX12_divisor MX12_divisor 2 := ⟨t_1849, t_11, by decide +kernel, by decide +kernel, by decide +kernel, by decide⟩
abbrev MX12_isLess : Mth := (cX12_isLess, 25, some .boolean, RX12, "isLess")
theorem mi_X12_isLess : MI yX12_isLess MX12_isLess 4 := ⟨t_1846, t_11, by decide +kernel, by decide +kernel, by decide +kernel, by decide⟩
abbrev MX12_outOf : Mth := (cX12_outOf, 7, some .long, RX12, "outOf")
theorem mi_X12_outOf : MI yX12_outOf MX12_outOf 1 := ⟨t_1843, t_11, by decide +kernel, by decide +kernel, by decide +kernel, by decide⟩
abbrev MX12_price : Mth := (cX12_price, 14, some .long, RX12, "price")
theorem mi_X12_price : MI yX12_price MX12_price 3 := ⟨t_1839, t_11, by decide +kernel, by decide +kernel, by decide +kernel, by decide⟩
abbrev MX12_loanAtHand : Mth := (cX12_loanAtHand, 4, some .int, RX12, "loanAtHand")
theorem mi_X12_loanAtHand : MI yX12_loanAtHand MX12_loanAtHand 0 := ⟨t_1857, t_11, by decide +kernel, by decide +kernel, by decide +kernel, by decide⟩
abbrev MX12_loan : Mth := (cX12_loan, 1, some .int, RX12, "loan")
theorem mi_X12_loan : MI yX12_loan MX12_loan 0 := ⟨t_1853, t_11, by decide +kernel, by decide +kernel, by decide +kernel, by decide⟩
abbrev MX12_step : Mth := (cX12_step, 7, some .long, RX12, "step")
theorem mi_X12_step : MI yX12_step MX12_step 0 := ⟨t_1861, t_11, by decide +kernel, by decide +kernel, by decide +kernel, by decide⟩
abbrev MX12_bears : Mth := (cX12_bears, 5, some .long, RX12, "bears")
theorem mi_X12_bears : MI yX12_bears MX12_bears 2 := ⟨t_1865, t_11, by decide +kernel, by decide +kernel, by decide +kernel, by decide⟩
abbrev MX12_cost : Mth := (cX12_cost, 12, some .long, RX12, "cost")
theorem mi_X12_cost : MI yX12_cost MX12_cost 3 := ⟨t_1869, t_11, by decide +kernel, by decide +kernel, by decide +kernel, by decide⟩
abbrev MX12_formHere : Mth := (cX12_formHere, 3, some .int, RX12, "formHere")
theorem mi_X12_formHere : MI yX12_formHere MX12_formHere 0 := ⟨t_1886, t_11, by decide +kernel, by decide +kernel, by decide +kernel, by decide⟩
abbrev MX12_ofHere : Mth := (cX12_ofHere, 1, some .int, RX12, "ofHere")
theorem mi_X12_ofHere : MI yX12_ofHere MX12_ofHere 0 := ⟨t_1891, t_11, by decide +kernel, by decide +kernel, by decide +kernel, by decide⟩
abbrev MX12_askedHere : Mth := (cX12_askedHere, 1, some .int, RX12, "askedHere")
theorem mi_X12_askedHere : MI yX12_askedHere MX12_askedHere 0 := ⟨t_1897, t_11, by decide +kernel, by decide +kernel, by decide +kernel, by decide⟩
abbrev MX12_readBar : Mth := (cX12_readBar, 2, none, RX12, "readBar")
theorem mi_X12_readBar : MI yX12_readBar MX12_readBar 1 := ⟨t_1881, t_11, by decide +kernel, by decide +kernel, by decide +kernel, by decide⟩
abbrev MX12_readBars : Mth := (cX12_readBars, 4, some .int, RX12, "readBars")
theorem mi_X12_readBars : MI yX12_readBars MX12_readBars 2 := ⟨t_1877, t_11, by decide +kernel, by decide +kernel, by decide +kernel, by decide⟩
abbrev MX12_law : Mth := (cX12_law, 3, some .int, RX12, "law")
theorem mi_X12_law : MI yX12_law MX12_law 1 := ⟨t_1873, t_11, by decide +kernel, by decide +kernel, by decide +kernel, by decide⟩
abbrev MX12_word : Mth := (cX12_word, 3, some .int, RX12, "word")
theorem mi_X12_word : MI yX12_word MX12_word 1 := ⟨t_1904, t_11, by decide +kernel, by decide +kernel, by decide +kernel, by decide⟩
abbrev MX12_findLeaves : Mth := (cX12_findLeaves, 3, none, RX12, "findLeaves")
theorem mi_X12_findLeaves : MI yX12_findLeaves MX12_findLeaves 0 := ⟨t_1916, t_11, by decide +kernel, by decide +kernel, by decide +kernel, by decide⟩
abbrev MX12_isOf : Mth := (cX12_isOf, 5, some .boolean, RX12, "isOf")
theorem mi_X12_isOf : MI yX12_isOf MX12_isOf 3 := ⟨t_1924, t_11, by decide +kernel, by decide +kernel, by decide +kernel, by decide⟩
abbrev MX12_isPair : Mth := (cX12_isPair, 7, some .boolean, RX12, "isPair")
theorem mi_X12_isPair : MI yX12_isPair MX12_isPair 3 := ⟨t_1928, t_11, by decide +kernel, by decide +kernel, by decide +kernel, by decide⟩
abbrev MX12_doesBar : Mth := (cX12_doesBar, 4, some .boolean, RX12, "doesBar")
theorem mi_X12_doesBar : MI yX12_doesBar MX12_doesBar 1 := ⟨t_1920, t_11, by decide +kernel, by decide +kernel, by decide +kernel, by decide⟩
abbrev MX12_breachNow : Mth := (cX12_breachNow, 3, some .int, RX12, "breachNow")
theorem mi_X12_breachNow : MI yX12_breachNow MX12_breachNow 0 := ⟨t_1912, t_11, by decide +kernel, by decide +kernel, by decide +kernel, by decide⟩
abbrev MX12_breach : Mth := (cX12_breach, 3, some .int, RX12, "breach")
theorem mi_X12_breach : MI yX12_breach MX12_breach 1 := ⟨t_1908, t_11, by decide +kernel, by decide +kernel, by decide +kernel, by decide⟩
abbrev MX12_doesWordBar : Mth := (cX12_doesWordBar, 3, some .boolean, RX12, "doesWordBar")
theorem mi_X12_doesWordBar : MI yX12_doesWordBar MX12_doesWordBar 1 := ⟨t_1936, t_11, by decide +kernel, by decide +kernel, by decide +kernel, by decide⟩
abbrev MX12_bars : Mth := (cX12_bars, 2, some .int, RX12, "bars")
theorem mi_X12_bars : MI yX12_bars MX12_bars 1 := ⟨t_1932, t_11, by decide +kernel, by decide +kernel, by decide +kernel, by decide⟩
abbrev MX12_offer : Mth := (cX12_offer, 3, some .int, RX12, "offer")
theorem mi_X12_offer : MI yX12_offer MX12_offer 1 := ⟨t_1940, t_11, by decide +kernel, by decide +kernel, by decide +kernel, by decide⟩
abbrev MX12_findSly : Mth := (cX12_findSly, 4, none, RX12, "findSly")
theorem mi_X12_findSly : MI yX12_findSly MX12_findSly 1 := ⟨t_1948, t_11, by decide +kernel, by decide +kernel, by decide +kernel, by decide⟩
abbrev MX12_wordsThatBar : Mth := (cX12_wordsThatBar, 3, some .int, RX12, "wordsThatBar")
theorem mi_X12_wordsThatBar : MI yX12_wordsThatBar MX12_wordsThatBar 0 := ⟨t_1952, t_11, by decide +kernel, by decide +kernel, by decide +kernel, by decide⟩
abbrev MX12_sly : Mth := (cX12_sly, 3, some .int, RX12, "sly")
theorem mi_X12_sly : MI yX12_sly MX12_sly 2 := ⟨t_1944, t_11, by decide +kernel, by decide +kernel, by decide +kernel, by decide⟩
abbrev MX12_honest : Mth := (cX12_honest, 2, some .int, RX12, "honest")
theorem mi_X12_honest : MI yX12_honest MX12_honest 0 := ⟨t_1956, t_11, by decide +kernel, by decide +kernel, by decide +kernel, by decide⟩
abbrev MX12_honestAtHand : Mth := (cX12_honestAtHand, 3, none, RX12, "honestAtHand")
theorem mi_X12_honestAtHand : MI yX12_honestAtHand MX12_honestAtHand 1 := ⟨t_1964, t_11, by decide +kernel, by decide +kernel, by decide +kernel, by decide⟩
abbrev MX12_innocent : Mth := (cX12_innocent, 3, some .int, RX12, "innocent")
theorem mi_X12_innocent : MI yX12_innocent MX12_innocent 2 := ⟨t_1960, t_11, by decide +kernel, by decide +kernel, by decide +kernel, by decide⟩
abbrev MX12_doPart : Mth := (cX12_doPart, 5, some .boolean, RX12, "doPart")
theorem mi_X12_doPart : MI yX12_doPart MX12_doPart 2 := ⟨t_1972, t_11, by decide +kernel, by decide +kernel, by decide +kernel, by decide⟩
abbrev MX12_parts : Mth := (cX12_parts, 4, some .int, RX12, "parts")
theorem mi_X12_parts : MI yX12_parts MX12_parts 1 := ⟨t_1968, t_11, by decide +kernel, by decide +kernel, by decide +kernel, by decide⟩
abbrev MX12_stop : Mth := (cX12_stop, 7, some .int, RX12, "stop")
theorem mi_X12_stop : MI yX12_stop MX12_stop 1 := ⟨t_1976, t_11, by decide +kernel, by decide +kernel, by decide +kernel, by decide⟩
abbrev MX12_doHang : Mth := (cX12_doHang, 5, some .boolean, RX12, "doHang")
theorem mi_X12_doHang : MI yX12_doHang MX12_doHang 3 := ⟨t_1988, t_11, by decide +kernel, by decide +kernel, by decide +kernel, by decide⟩
abbrev MX12_findGroups : Mth := (cX12_findGroups, 5, none, RX12, "findGroups")
theorem mi_X12_findGroups : MI yX12_findGroups MX12_findGroups 1 := ⟨t_1984, t_11, by decide +kernel, by decide +kernel, by decide +kernel, by decide⟩
abbrev MX12_heap : Mth := (cX12_heap, 5, some .int, RX12, "heap")
theorem mi_X12_heap : MI yX12_heap MX12_heap 2 := ⟨t_1980, t_11, by decide +kernel, by decide +kernel, by decide +kernel, by decide⟩
abbrev MX12_group : Mth := (cX12_group, 4, some .int, RX12, "group")
theorem mi_X12_group : MI yX12_group MX12_group 2 := ⟨t_1993, t_11, by decide +kernel, by decide +kernel, by decide +kernel, by decide⟩
abbrev MX12_count : Mth := (cX12_count, 2, some .int, RX12, "count")
theorem mi_X12_count : MI yX12_count MX12_count 1 := ⟨t_1997, t_11, by decide +kernel, by decide +kernel, by decide +kernel, by decide⟩
abbrev MX12_leavesTold : Mth := (cX12_leavesTold, 3, some .int, RX12, "leavesTold")
theorem mi_X12_leavesTold : MI yX12_leavesTold MX12_leavesTold 0 := ⟨t_2001, t_11, by decide +kernel, by decide +kernel, by decide +kernel, by decide⟩
abbrev MX12_choicesTold : Mth := (cX12_choicesTold, 3, some .int, RX12, "choicesTold")
theorem mi_X12_choicesTold : MI yX12_choicesTold MX12_choicesTold 0 := ⟨t_2005, t_11, by decide +kernel, by decide +kernel, by decide +kernel, by decide⟩
abbrev MJ6_numberOfTrailingZeros_0f7a4 : Mth := (cJ6_numberOfTrailingZeros_0f7a4, 2, some .int, RJ6, "numberOfTrailingZeros")
theorem mi_J6_numberOfTrailingZeros_0f7a4 : MI yJ6_numberOfTrailingZeros_0f7a4 MJ6_numberOfTrailingZeros_0f7a4 1 := ⟨t_1158, t_21, by decide +kernel, by decide +kernel, by decide +kernel, by decide⟩
abbrev MJ6_bitCount_0f7a4 : Mth := (cJ6_bitCount_0f7a4, 1, some .int, RJ6, "bitCount")
theorem mi_J6_bitCount_0f7a4 : MI yJ6_bitCount_0f7a4 MJ6_bitCount_0f7a4 1 := ⟨t_863, t_21, by decide +kernel, by decide +kernel, by decide +kernel, by decide⟩
abbrev MJ13_compare_74951 : Mth := (cJ13_compare_74951, 4, some .int, RJ13, "compare")
theorem mi_J13_compare_74951 : MI yJ13_compare_74951 MJ13_compare_74951 2 := ⟨t_1032, t_22, by decide +kernel, by decide +kernel, by decide +kernel, by decide⟩
abbrev MJ9_abs_0f7a4 : Mth := (cJ9_abs_0f7a4, 1, some .int, RJ9, "abs")
theorem mi_J9_abs_0f7a4 : MI yJ9_abs_0f7a4 MJ9_abs_0f7a4 1 := ⟨t_1238, t_14, by decide +kernel, by decide +kernel, by decide +kernel, by decide⟩
abbrev MJ9_max_7cf53 : Mth := (cJ9_max_7cf53, 2, some .int, RJ9, "max")
theorem mi_J9_max_7cf53 : MI yJ9_max_7cf53 MJ9_max_7cf53 2 := ⟨t_860, t_14, by decide +kernel, by decide +kernel, by decide +kernel, by decide⟩
abbrev MJ9_min_7cf53 : Mth := (cJ9_min_7cf53, 2, some .int, RJ9, "min")
theorem mi_J9_min_7cf53 : MI yJ9_min_7cf53 MJ9_min_7cf53 2 := ⟨t_514, t_14, by decide +kernel, by decide +kernel, by decide +kernel, by decide⟩
abbrev MJ9_min_f86c9 : Mth := (cJ9_min_f86c9, 4, some .long, RJ9, "min")
theorem mi_J9_min_f86c9 : MI yJ9_min_f86c9 MJ9_min_f86c9 2 := ⟨t_1011, t_14, by decide +kernel, by decide +kernel, by decide +kernel, by decide⟩
abbrev MJ0_length_8abf5 : Mth := (cJ0_length_8abf5, 1, some .int, RJ0, "length")
theorem mi_J0_length_8abf5 : MI yJ0_length_8abf5 MJ0_length_8abf5 0 := ⟨t_547, t_15, by decide +kernel, by decide +kernel, by decide +kernel, by decide⟩
abbrev MJ0_charAt_5068e : Mth := (cJ0_charAt_5068e, 2, some .char, RJ0, "charAt")
theorem mi_J0_charAt_5068e : MI yJ0_charAt_5068e MJ0_charAt_5068e 1 := ⟨t_557, t_15, by decide +kernel, by decide +kernel, by decide +kernel, by decide⟩
abbrev MJ0_coder_7d493 : Mth := (cJ0_coder_7d493, 1, some .byte, RJ0, "coder")
theorem mi_J0_coder_7d493 : MI yJ0_coder_7d493 MJ0_coder_7d493 0 := ⟨t_551, t_15, by decide +kernel, by decide +kernel, by decide +kernel, by decide⟩
abbrev MJ0_isLatin1_aae02 : Mth := (cJ0_isLatin1_aae02, 1, some .boolean, RJ0, "isLatin1")
theorem mi_J0_isLatin1_aae02 : MI yJ0_isLatin1_aae02 MJ0_isLatin1_aae02 0 := ⟨t_561, t_15, by decide +kernel, by decide +kernel, by decide +kernel, by decide⟩
abbrev MJ0_checkIndex_df160 : Mth := (cJ0_checkIndex_df160, 2, none, RJ0, "checkIndex")
theorem mi_J0_checkIndex_df160 : MI yJ0_checkIndex_df160 MJ0_checkIndex_df160 2 := ⟨t_567, t_15, by decide +kernel, by decide +kernel, by decide +kernel, by decide⟩
abbrev MJ1_charAt_3b067 : Mth := (cJ1_charAt_3b067, 2, some .char, RJ1, "charAt")
theorem mi_J1_charAt_3b067 : MI yJ1_charAt_3b067 MJ1_charAt_3b067 2 := ⟨t_564, t_16, by decide +kernel, by decide +kernel, by decide +kernel, by decide⟩
abbrev MJ2_getChar_3b067 : Mth := (cJ2_getChar_3b067, 2, some .char, RJ2, "getChar")
theorem mi_J2_getChar_3b067 : MI yJ2_getChar_3b067 MJ2_getChar_3b067 2 := ⟨t_585, t_18, by decide +kernel, by decide +kernel, by decide +kernel, by decide⟩
abbrev MJ2_length_9d52b : Mth := (cJ2_length_9d52b, 1, some .int, RJ2, "length")
theorem mi_J2_length_9d52b : MI yJ2_length_9d52b MJ2_length_9d52b 1 := ⟨t_581, t_18, by decide +kernel, by decide +kernel, by decide +kernel, by decide⟩
abbrev MJ2_charAt_3b067 : Mth := (cJ2_charAt_3b067, 2, some .char, RJ2, "charAt")
theorem mi_J2_charAt_3b067 : MI yJ2_charAt_3b067 MJ2_charAt_3b067 2 := ⟨t_575, t_18, by decide +kernel, by decide +kernel, by decide +kernel, by decide⟩
abbrev MJ2_checkIndex_2214a : Mth := (cJ2_checkIndex_2214a, 2, none, RJ2, "checkIndex")
theorem mi_J2_checkIndex_2214a : MI yJ2_checkIndex_2214a MJ2_checkIndex_2214a 2 := ⟨t_578, t_18, by decide +kernel, by decide +kernel, by decide +kernel, by decide⟩
abbrev MJ7_fill_d0a16 : Mth := (cJ7_fill_d0a16, 5, none, RJ7, "fill")
theorem mi_J7_fill_d0a16 : MI yJ7_fill_d0a16 MJ7_fill_d0a16 2 := ⟨t_869, t_12, by decide +kernel, by decide +kernel, by decide +kernel, by decide⟩
abbrev MJ7_fill_53178 : Mth := (cJ7_fill_53178, 4, none, RJ7, "fill")
theorem mi_J7_fill_53178 : MI yJ7_fill_53178 MJ7_fill_53178 2 := ⟨t_414, t_12, by decide +kernel, by decide +kernel, by decide +kernel, by decide⟩
abbrev MJ3_checkIndex_8e157 : Mth := (cJ3_checkIndex_8e157, 3, some .int, RJ3, "checkIndex")
theorem mi_J3_checkIndex_8e157 : MI yJ3_checkIndex_8e157 MJ3_checkIndex_8e157 3 := ⟨t_572, t_17, by decide +kernel, by decide +kernel, by decide +kernel, by decide⟩
