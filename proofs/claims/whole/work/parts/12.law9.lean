abbrev MLw (nm : String) : Mth := (cL_law, 4, some .boolean, RL, nm)
def m_L_law_1118 (G : Cx) (k18 : Int32 → Hp → Prop) (Q : Int32 → Hp → Prop) (v3 : Int32) (h : Hp) : Prop := ∀ x1 : Int32, x1 = v3 + 6 → k18 x1 h
set_option maxHeartbeats 8000000 in
set_option maxRecDepth 100000 in
theorem s_L_law_1118 {l : Launch} {G : Cx} {nm : String} {d cu su : Nat} {h0 : Hp} (hd : 182 ≤ d) {k18 : Int32 → Hp → Prop} {Q : Int32 → Hp → Prop} (hk18 : ∀ (v3 : Int32) (hh : Hp), k18 v3 hh → Rn l G d 600000 7302250 (MLw nm) h0 (qI Q) 18 [some (tS 300), some (tR 11 0 (some 0)), some (tR 12 0 (some 51)), some (tI v3)] [] hh (cu + 5) (su + 400)) {v3 : Int32} {h : Hp} (hm : m_L_law_1118 G k18 Q v3 h) : Rn l G d 600000 7302250 (MLw nm) h0 (qI Q) 1118 [some (tS 300), some (tR 11 0 (some 0)), some (tR 12 0 (some 51)), some (tI v3)] [] h (cu + 5) (su + 400) := by
  unfold m_L_law_1118 at hm
  obtain ⟨x1, e_x1⟩ : ∃ y : Int32, y = v3 + 6 := ⟨_, rfl⟩
  replace hm := hm x1 e_x1
  refine r_iinc (L' := [some (tS 300), some (tR 11 0 (some 0)), some (tR 12 0 (some 51)), some (tI x1)]) dL_law_1118 rfl (by rw [e_x1]; rfl) (by show _ < 4; decide) rfl ?_
  refine r_goto (tgt := 18) dL_law_1121 rfl ?_
  refine r_keep (L' := [some (tS 300), some (tR 11 0 (some 0)), some (tR 12 0 (some 51)), some (tI x1)]) [true, true, true, true] rfl ?_
  exact hk18 _ _ hm
def m_L_law_18 (G : Cx) : Nat → (Int32 → Hp → Prop) → Int32 → Hp → Prop
  | 0, _, _, _ => False
  | n + 1, Q, v3, h => (((Int32.ofNat G.2.2.2.2.2.1) - 6) < v3 → Q 1 h) ∧ (¬ ((Int32.ofNat G.2.2.2.2.2.1) - 6) < v3 → vp_in v3 G.2.2.2.2.2.1 ∧ ((((G.2.2.2.2.2.2 (ix v3)) &&& 31) = 0 → vp_in (v3 + 1) G.2.2.2.2.2.1 ∧ (vp_in (v3 + 2) G.2.2.2.2.2.1 ∧ (m_X11_family (G.2.2.2.2.2.2 (ix (v3 + 1))) (G.2.2.2.2.2.2 (ix (v3 + 2))) h (fun (x2 : Int32) (h3 : Hp) => vp_in (v3 + 1) G.2.2.2.2.2.1 ∧ (vp_in (v3 + 2) G.2.2.2.2.2.1 ∧ (m_X12_family (G.2.2.2.2.2.2 (ix (v3 + 1))) (G.2.2.2.2.2.2 (ix (v3 + 2))) h3 (fun (x4 : Int32) (h5 : Hp) => (x2 = x4 → m_L_law_1118 G (fun (v3 : Int32) (hh : Hp) => m_L_law_18 G n Q v3 hh) Q v3 h5) ∧ (¬ x2 = x4 → Q 0 h5)))))))) ∧ (¬ ((G.2.2.2.2.2.2 (ix v3)) &&& 31) = 0 → (((G.2.2.2.2.2.2 (ix v3)) &&& 31) = 1 → vp_in (v3 + 1) G.2.2.2.2.2.1 ∧ (vp_in (v3 + 2) G.2.2.2.2.2.1 ∧ (vp_in (v3 + 3) G.2.2.2.2.2.1 ∧ (vp_in (v3 + 4) G.2.2.2.2.2.1 ∧ (vp_in (v3 + 5) G.2.2.2.2.2.1 ∧ (m_X11_feed (G.2.2.2.2.2.2 (ix (v3 + 1))) (G.2.2.2.2.2.2 (ix (v3 + 2))) (G.2.2.2.2.2.2 (ix (v3 + 3))) (G.2.2.2.2.2.2 (ix (v3 + 4))) (G.2.2.2.2.2.2 (ix (v3 + 5))) h (fun (x6 : Int32) (h7 : Hp) => vp_in (v3 + 1) G.2.2.2.2.2.1 ∧ (vp_in (v3 + 2) G.2.2.2.2.2.1 ∧ (vp_in (v3 + 3) G.2.2.2.2.2.1 ∧ (vp_in (v3 + 4) G.2.2.2.2.2.1 ∧ (vp_in (v3 + 5) G.2.2.2.2.2.1 ∧ (m_X12_feed (G.2.2.2.2.2.2 (ix (v3 + 1))) (G.2.2.2.2.2.2 (ix (v3 + 2))) (G.2.2.2.2.2.2 (ix (v3 + 3))) (G.2.2.2.2.2.2 (ix (v3 + 4))) (G.2.2.2.2.2.2 (ix (v3 + 5))) h7 (fun (x8 : Int32) (h9 : Hp) => (x6 = x8 → m_L_law_1118 G (fun (v3 : Int32) (hh : Hp) => m_L_law_18 G n Q v3 hh) Q v3 h9) ∧ (¬ x6 = x8 → Q 0 h9)))))))))))))) ∧ (¬ ((G.2.2.2.2.2.2 (ix v3)) &&& 31) = 1 → (((G.2.2.2.2.2.2 (ix v3)) &&& 31) = 2 → vp_in (v3 + 1) G.2.2.2.2.2.1 ∧ (vp_in (v3 + 2) G.2.2.2.2.2.1 ∧ (m_X11_deal (G.2.2.2.2.2.2 (ix (v3 + 1))) (G.2.2.2.2.2.2 (ix (v3 + 2))) h (fun (x10 : Int32) (h11 : Hp) => vp_in (v3 + 1) G.2.2.2.2.2.1 ∧ (vp_in (v3 + 2) G.2.2.2.2.2.1 ∧ (m_X12_deal (G.2.2.2.2.2.2 (ix (v3 + 1))) (G.2.2.2.2.2.2 (ix (v3 + 2))) h11 (fun (x12 : Int32) (h13 : Hp) => (x10 = x12 → m_L_law_1118 G (fun (v3 : Int32) (hh : Hp) => m_L_law_18 G n Q v3 hh) Q v3 h13) ∧ (¬ x10 = x12 → Q 0 h13)))))))) ∧ (¬ ((G.2.2.2.2.2.2 (ix v3)) &&& 31) = 2 → (((G.2.2.2.2.2.2 (ix v3)) &&& 31) = 3 → vp_in (v3 + 1) G.2.2.2.2.2.1 ∧ (m_X11_law (G.2.2.2.2.2.2 (ix (v3 + 1))) h (fun (x14 : Int32) (h15 : Hp) => vp_in (v3 + 1) G.2.2.2.2.2.1 ∧ (m_X12_law (G.2.2.2.2.2.2 (ix (v3 + 1))) h15 (fun (x16 : Int32) (h17 : Hp) => (x14 = x16 → m_L_law_1118 G (fun (v3 : Int32) (hh : Hp) => m_L_law_18 G n Q v3 hh) Q v3 h17) ∧ (¬ x14 = x16 → Q 0 h17)))))) ∧ (¬ ((G.2.2.2.2.2.2 (ix v3)) &&& 31) = 3 → (((G.2.2.2.2.2.2 (ix v3)) &&& 31) = 4 → vp_in (v3 + 1) G.2.2.2.2.2.1 ∧ (m_X11_word (G.2.2.2.2.2.2 (ix (v3 + 1))) h (fun (x18 : Int32) (h19 : Hp) => vp_in (v3 + 1) G.2.2.2.2.2.1 ∧ (m_X12_word (G.2.2.2.2.2.2 (ix (v3 + 1))) h19 (fun (x20 : Int32) (h21 : Hp) => (x18 = x20 → m_L_law_1118 G (fun (v3 : Int32) (hh : Hp) => m_L_law_18 G n Q v3 hh) Q v3 h21) ∧ (¬ x18 = x20 → Q 0 h21)))))) ∧ (¬ ((G.2.2.2.2.2.2 (ix v3)) &&& 31) = 4 → (((G.2.2.2.2.2.2 (ix v3)) &&& 31) = 5 → m_X11_fault h (fun (x22 : Int32) (h23 : Hp) => m_X12_fault h23 (fun (x24 : Int32) (h25 : Hp) => (x22 = x24 → m_L_law_1118 G (fun (v3 : Int32) (hh : Hp) => m_L_law_18 G n Q v3 hh) Q v3 h25) ∧ (¬ x22 = x24 → Q 0 h25)))) ∧ (¬ ((G.2.2.2.2.2.2 (ix v3)) &&& 31) = 5 → (((G.2.2.2.2.2.2 (ix v3)) &&& 31) = 6 → vp_in (v3 + 1) G.2.2.2.2.2.1 ∧ (vp_in (v3 + 2) G.2.2.2.2.2.1 ∧ (m_X11_size (G.2.2.2.2.2.2 (ix (v3 + 1))) (G.2.2.2.2.2.2 (ix (v3 + 2))) h (fun (x26 : Int32) (h27 : Hp) => vp_in (v3 + 1) G.2.2.2.2.2.1 ∧ (vp_in (v3 + 2) G.2.2.2.2.2.1 ∧ (m_X12_size (G.2.2.2.2.2.2 (ix (v3 + 1))) (G.2.2.2.2.2.2 (ix (v3 + 2))) h27 (fun (x28 : Int32) (h29 : Hp) => (x26 = x28 → m_L_law_1118 G (fun (v3 : Int32) (hh : Hp) => m_L_law_18 G n Q v3 hh) Q v3 h29) ∧ (¬ x26 = x28 → Q 0 h29)))))))) ∧ (¬ ((G.2.2.2.2.2.2 (ix v3)) &&& 31) = 6 → (((G.2.2.2.2.2.2 (ix v3)) &&& 31) = 7 → vp_in (v3 + 1) G.2.2.2.2.2.1 ∧ (vp_in (v3 + 2) G.2.2.2.2.2.1 ∧ (vp_in (v3 + 3) G.2.2.2.2.2.1 ∧ (m_X11_leaf (G.2.2.2.2.2.2 (ix (v3 + 1))) (G.2.2.2.2.2.2 (ix (v3 + 2))) (G.2.2.2.2.2.2 (ix (v3 + 3))) h (fun (x30 : Int32) (h31 : Hp) => vp_in (v3 + 1) G.2.2.2.2.2.1 ∧ (vp_in (v3 + 2) G.2.2.2.2.2.1 ∧ (vp_in (v3 + 3) G.2.2.2.2.2.1 ∧ (m_X12_leaf (G.2.2.2.2.2.2 (ix (v3 + 1))) (G.2.2.2.2.2.2 (ix (v3 + 2))) (G.2.2.2.2.2.2 (ix (v3 + 3))) h31 (fun (x32 : Int32) (h33 : Hp) => (x30 = x32 → m_L_law_1118 G (fun (v3 : Int32) (hh : Hp) => m_L_law_18 G n Q v3 hh) Q v3 h33) ∧ (¬ x30 = x32 → Q 0 h33)))))))))) ∧ (¬ ((G.2.2.2.2.2.2 (ix v3)) &&& 31) = 7 → (((G.2.2.2.2.2.2 (ix v3)) &&& 31) = 8 → vp_in (v3 + 1) G.2.2.2.2.2.1 ∧ (vp_in (v3 + 2) G.2.2.2.2.2.1 ∧ (m_X11_plain (G.2.2.2.2.2.2 (ix (v3 + 1))) (G.2.2.2.2.2.2 (ix (v3 + 2))) h (fun (x34 : Int32) (h35 : Hp) => vp_in (v3 + 1) G.2.2.2.2.2.1 ∧ (vp_in (v3 + 2) G.2.2.2.2.2.1 ∧ (m_X12_plain (G.2.2.2.2.2.2 (ix (v3 + 1))) (G.2.2.2.2.2.2 (ix (v3 + 2))) h35 (fun (x36 : Int32) (h37 : Hp) => (x34 = x36 → m_L_law_1118 G (fun (v3 : Int32) (hh : Hp) => m_L_law_18 G n Q v3 hh) Q v3 h37) ∧ (¬ x34 = x36 → Q 0 h37)))))))) ∧ (¬ ((G.2.2.2.2.2.2 (ix v3)) &&& 31) = 8 → (((G.2.2.2.2.2.2 (ix v3)) &&& 31) = 9 → vp_in (v3 + 1) G.2.2.2.2.2.1 ∧ (vp_in (v3 + 2) G.2.2.2.2.2.1 ∧ (m_X11_same (G.2.2.2.2.2.2 (ix (v3 + 1))) (G.2.2.2.2.2.2 (ix (v3 + 2))) h (fun (x38 : Int32) (h39 : Hp) => vp_in (v3 + 1) G.2.2.2.2.2.1 ∧ (vp_in (v3 + 2) G.2.2.2.2.2.1 ∧ (m_X12_same (G.2.2.2.2.2.2 (ix (v3 + 1))) (G.2.2.2.2.2.2 (ix (v3 + 2))) h39 (fun (x40 : Int32) (h41 : Hp) => (x38 = x40 → m_L_law_1118 G (fun (v3 : Int32) (hh : Hp) => m_L_law_18 G n Q v3 hh) Q v3 h41) ∧ (¬ x38 = x40 → Q 0 h41)))))))) ∧ (¬ ((G.2.2.2.2.2.2 (ix v3)) &&& 31) = 9 → (((G.2.2.2.2.2.2 (ix v3)) &&& 31) = 10 → vp_in (v3 + 1) G.2.2.2.2.2.1 ∧ (m_X11_add (G.2.2.2.2.2.2 (ix (v3 + 1))) h (fun (x42 : Int32) (h43 : Hp) => vp_in (v3 + 1) G.2.2.2.2.2.1 ∧ (m_X12_add (G.2.2.2.2.2.2 (ix (v3 + 1))) h43 (fun (x44 : Int32) (h45 : Hp) => (x42 = x44 → m_L_law_1118 G (fun (v3 : Int32) (hh : Hp) => m_L_law_18 G n Q v3 hh) Q v3 h45) ∧ (¬ x42 = x44 → Q 0 h45)))))) ∧ (¬ ((G.2.2.2.2.2.2 (ix v3)) &&& 31) = 10 → (((G.2.2.2.2.2.2 (ix v3)) &&& 31) = 11 → m_X11_clear h (fun (x46 : Int32) (h47 : Hp) => m_X12_clear h47 (fun (x48 : Int32) (h49 : Hp) => (x46 = x48 → m_L_law_1118 G (fun (v3 : Int32) (hh : Hp) => m_L_law_18 G n Q v3 hh) Q v3 h49) ∧ (¬ x46 = x48 → Q 0 h49)))) ∧ (¬ ((G.2.2.2.2.2.2 (ix v3)) &&& 31) = 11 → (((G.2.2.2.2.2.2 (ix v3)) &&& 31) = 12 → vp_in (v3 + 1) G.2.2.2.2.2.1 ∧ (vp_in (v3 + 2) G.2.2.2.2.2.1 ∧ (vp_in (v3 + 3) G.2.2.2.2.2.1 ∧ (m_X11_passed (G.2.2.2.2.2.2 (ix (v3 + 1))) (G.2.2.2.2.2.2 (ix (v3 + 2))) (G.2.2.2.2.2.2 (ix (v3 + 3))) h (fun (x50 : Int64) (h51 : Hp) => vp_in (v3 + 1) G.2.2.2.2.2.1 ∧ (vp_in (v3 + 2) G.2.2.2.2.2.1 ∧ (vp_in (v3 + 3) G.2.2.2.2.2.1 ∧ (m_X12_passed (G.2.2.2.2.2.2 (ix (v3 + 1))) (G.2.2.2.2.2.2 (ix (v3 + 2))) (G.2.2.2.2.2.2 (ix (v3 + 3))) h51 (fun (x52 : Int64) (h53 : Hp) => ((lg_cmp x50 x52) = 0 → m_L_law_1118 G (fun (v3 : Int32) (hh : Hp) => m_L_law_18 G n Q v3 hh) Q v3 h53) ∧ (¬ (lg_cmp x50 x52) = 0 → Q 0 h53)))))))))) ∧ (¬ ((G.2.2.2.2.2.2 (ix v3)) &&& 31) = 12 → (((G.2.2.2.2.2.2 (ix v3)) &&& 31) = 13 → vp_in (v3 + 1) G.2.2.2.2.2.1 ∧ (vp_in (v3 + 2) G.2.2.2.2.2.1 ∧ (vp_in (v3 + 3) G.2.2.2.2.2.1 ∧ (vp_in (v3 + 4) G.2.2.2.2.2.1 ∧ (m_X11_net (G.2.2.2.2.2.2 (ix (v3 + 1))) (G.2.2.2.2.2.2 (ix (v3 + 2))) (G.2.2.2.2.2.2 (ix (v3 + 3))) (G.2.2.2.2.2.2 (ix (v3 + 4))) h (fun (x54 : Int64) (h55 : Hp) => vp_in (v3 + 1) G.2.2.2.2.2.1 ∧ (vp_in (v3 + 2) G.2.2.2.2.2.1 ∧ (vp_in (v3 + 3) G.2.2.2.2.2.1 ∧ (vp_in (v3 + 4) G.2.2.2.2.2.1 ∧ (m_X12_net (G.2.2.2.2.2.2 (ix (v3 + 1))) (G.2.2.2.2.2.2 (ix (v3 + 2))) (G.2.2.2.2.2.2 (ix (v3 + 3))) (G.2.2.2.2.2.2 (ix (v3 + 4))) h55 (fun (x56 : Int64) (h57 : Hp) => ((lg_cmp x54 x56) = 0 → m_L_law_1118 G (fun (v3 : Int32) (hh : Hp) => m_L_law_18 G n Q v3 hh) Q v3 h57) ∧ (¬ (lg_cmp x54 x56) = 0 → Q 0 h57)))))))))))) ∧ (¬ ((G.2.2.2.2.2.2 (ix v3)) &&& 31) = 13 → (((G.2.2.2.2.2.2 (ix v3)) &&& 31) = 14 → m_X11_codes h (fun (x58 : Int32) (h59 : Hp) => m_X12_codes h59 (fun (x60 : Int32) (h61 : Hp) => (x58 = x60 → m_L_law_1118 G (fun (v3 : Int32) (hh : Hp) => m_L_law_18 G n Q v3 hh) Q v3 h61) ∧ (¬ x58 = x60 → Q 0 h61)))) ∧ (¬ ((G.2.2.2.2.2.2 (ix v3)) &&& 31) = 14 → (((G.2.2.2.2.2.2 (ix v3)) &&& 31) = 15 → vp_in (v3 + 1) G.2.2.2.2.2.1 ∧ (vp_in (v3 + 2) G.2.2.2.2.2.1 ∧ (m_X11_lends (G.2.2.2.2.2.2 (ix (v3 + 1))) (G.2.2.2.2.2.2 (ix (v3 + 2))) h (fun (x62 : Int32) (h63 : Hp) => vp_in (v3 + 1) G.2.2.2.2.2.1 ∧ (vp_in (v3 + 2) G.2.2.2.2.2.1 ∧ (m_X12_lends (G.2.2.2.2.2.2 (ix (v3 + 1))) (G.2.2.2.2.2.2 (ix (v3 + 2))) h63 (fun (x64 : Int32) (h65 : Hp) => (x62 = x64 → m_L_law_1118 G (fun (v3 : Int32) (hh : Hp) => m_L_law_18 G n Q v3 hh) Q v3 h65) ∧ (¬ x62 = x64 → Q 0 h65)))))))) ∧ (¬ ((G.2.2.2.2.2.2 (ix v3)) &&& 31) = 15 → (((G.2.2.2.2.2.2 (ix v3)) &&& 31) = 16 → vp_in (v3 + 1) G.2.2.2.2.2.1 ∧ (vp_in (v3 + 2) G.2.2.2.2.2.1 ∧ (vp_in (v3 + 3) G.2.2.2.2.2.1 ∧ (m_X11_price (G.2.2.2.2.2.2 (ix (v3 + 1))) (G.2.2.2.2.2.2 (ix (v3 + 2))) (G.2.2.2.2.2.2 (ix (v3 + 3))) h (fun (x66 : Int64) (h67 : Hp) => vp_in (v3 + 1) G.2.2.2.2.2.1 ∧ (vp_in (v3 + 2) G.2.2.2.2.2.1 ∧ (vp_in (v3 + 3) G.2.2.2.2.2.1 ∧ (m_X12_price (G.2.2.2.2.2.2 (ix (v3 + 1))) (G.2.2.2.2.2.2 (ix (v3 + 2))) (G.2.2.2.2.2.2 (ix (v3 + 3))) h67 (fun (x68 : Int64) (h69 : Hp) => ((lg_cmp x66 x68) = 0 → m_L_law_1118 G (fun (v3 : Int32) (hh : Hp) => m_L_law_18 G n Q v3 hh) Q v3 h69) ∧ (¬ (lg_cmp x66 x68) = 0 → Q 0 h69)))))))))) ∧ (¬ ((G.2.2.2.2.2.2 (ix v3)) &&& 31) = 16 → (((G.2.2.2.2.2.2 (ix v3)) &&& 31) = 17 → m_X11_loan h (fun (x70 : Int32) (h71 : Hp) => m_X12_loan h71 (fun (x72 : Int32) (h73 : Hp) => (x70 = x72 → m_L_law_1118 G (fun (v3 : Int32) (hh : Hp) => m_L_law_18 G n Q v3 hh) Q v3 h73) ∧ (¬ x70 = x72 → Q 0 h73)))) ∧ (¬ ((G.2.2.2.2.2.2 (ix v3)) &&& 31) = 17 → (((G.2.2.2.2.2.2 (ix v3)) &&& 31) = 18 → m_X11_step h (fun (x74 : Int64) (h75 : Hp) => m_X12_step h75 (fun (x76 : Int64) (h77 : Hp) => ((lg_cmp x74 x76) = 0 → m_L_law_1118 G (fun (v3 : Int32) (hh : Hp) => m_L_law_18 G n Q v3 hh) Q v3 h77) ∧ (¬ (lg_cmp x74 x76) = 0 → Q 0 h77)))) ∧ (¬ ((G.2.2.2.2.2.2 (ix v3)) &&& 31) = 18 → (((G.2.2.2.2.2.2 (ix v3)) &&& 31) = 19 → vp_in (v3 + 1) G.2.2.2.2.2.1 ∧ (vp_in (v3 + 2) G.2.2.2.2.2.1 ∧ (m_X11_bears (G.2.2.2.2.2.2 (ix (v3 + 1))) (G.2.2.2.2.2.2 (ix (v3 + 2))) h (fun (x78 : Int64) (h79 : Hp) => vp_in (v3 + 1) G.2.2.2.2.2.1 ∧ (vp_in (v3 + 2) G.2.2.2.2.2.1 ∧ (m_X12_bears (G.2.2.2.2.2.2 (ix (v3 + 1))) (G.2.2.2.2.2.2 (ix (v3 + 2))) h79 (fun (x80 : Int64) (h81 : Hp) => ((lg_cmp x78 x80) = 0 → m_L_law_1118 G (fun (v3 : Int32) (hh : Hp) => m_L_law_18 G n Q v3 hh) Q v3 h81) ∧ (¬ (lg_cmp x78 x80) = 0 → Q 0 h81)))))))) ∧ (¬ ((G.2.2.2.2.2.2 (ix v3)) &&& 31) = 19 → (((G.2.2.2.2.2.2 (ix v3)) &&& 31) = 20 → vp_in (v3 + 1) G.2.2.2.2.2.1 ∧ (vp_in (v3 + 2) G.2.2.2.2.2.1 ∧ (vp_in (v3 + 3) G.2.2.2.2.2.1 ∧ (m_X11_cost (G.2.2.2.2.2.2 (ix (v3 + 1))) (G.2.2.2.2.2.2 (ix (v3 + 2))) (G.2.2.2.2.2.2 (ix (v3 + 3))) h (fun (x82 : Int64) (h83 : Hp) => vp_in (v3 + 1) G.2.2.2.2.2.1 ∧ (vp_in (v3 + 2) G.2.2.2.2.2.1 ∧ (vp_in (v3 + 3) G.2.2.2.2.2.1 ∧ (m_X12_cost (G.2.2.2.2.2.2 (ix (v3 + 1))) (G.2.2.2.2.2.2 (ix (v3 + 2))) (G.2.2.2.2.2.2 (ix (v3 + 3))) h83 (fun (x84 : Int64) (h85 : Hp) => ((lg_cmp x82 x84) = 0 → m_L_law_1118 G (fun (v3 : Int32) (hh : Hp) => m_L_law_18 G n Q v3 hh) Q v3 h85) ∧ (¬ (lg_cmp x82 x84) = 0 → Q 0 h85)))))))))) ∧ (¬ ((G.2.2.2.2.2.2 (ix v3)) &&& 31) = 20 → (((G.2.2.2.2.2.2 (ix v3)) &&& 31) = 21 → vp_in (v3 + 1) G.2.2.2.2.2.1 ∧ (m_X11_breach (G.2.2.2.2.2.2 (ix (v3 + 1))) h (fun (x86 : Int32) (h87 : Hp) => vp_in (v3 + 1) G.2.2.2.2.2.1 ∧ (m_X12_breach (G.2.2.2.2.2.2 (ix (v3 + 1))) h87 (fun (x88 : Int32) (h89 : Hp) => (x86 = x88 → m_L_law_1118 G (fun (v3 : Int32) (hh : Hp) => m_L_law_18 G n Q v3 hh) Q v3 h89) ∧ (¬ x86 = x88 → Q 0 h89)))))) ∧ (¬ ((G.2.2.2.2.2.2 (ix v3)) &&& 31) = 21 → (((G.2.2.2.2.2.2 (ix v3)) &&& 31) = 22 → vp_in (v3 + 1) G.2.2.2.2.2.1 ∧ (m_X11_bars (G.2.2.2.2.2.2 (ix (v3 + 1))) h (fun (x90 : Int32) (h91 : Hp) => vp_in (v3 + 1) G.2.2.2.2.2.1 ∧ (m_X12_bars (G.2.2.2.2.2.2 (ix (v3 + 1))) h91 (fun (x92 : Int32) (h93 : Hp) => (x90 = x92 → m_L_law_1118 G (fun (v3 : Int32) (hh : Hp) => m_L_law_18 G n Q v3 hh) Q v3 h93) ∧ (¬ x90 = x92 → Q 0 h93)))))) ∧ (¬ ((G.2.2.2.2.2.2 (ix v3)) &&& 31) = 22 → (((G.2.2.2.2.2.2 (ix v3)) &&& 31) = 23 → vp_in (v3 + 1) G.2.2.2.2.2.1 ∧ (m_X11_offer (G.2.2.2.2.2.2 (ix (v3 + 1))) h (fun (x94 : Int32) (h95 : Hp) => vp_in (v3 + 1) G.2.2.2.2.2.1 ∧ (m_X12_offer (G.2.2.2.2.2.2 (ix (v3 + 1))) h95 (fun (x96 : Int32) (h97 : Hp) => (x94 = x96 → m_L_law_1118 G (fun (v3 : Int32) (hh : Hp) => m_L_law_18 G n Q v3 hh) Q v3 h97) ∧ (¬ x94 = x96 → Q 0 h97)))))) ∧ (¬ ((G.2.2.2.2.2.2 (ix v3)) &&& 31) = 23 → (((G.2.2.2.2.2.2 (ix v3)) &&& 31) = 24 → vp_in (v3 + 1) G.2.2.2.2.2.1 ∧ (vp_in (v3 + 2) G.2.2.2.2.2.1 ∧ (m_X11_sly (G.2.2.2.2.2.2 (ix (v3 + 1))) (G.2.2.2.2.2.2 (ix (v3 + 2))) h (fun (x98 : Int32) (h99 : Hp) => vp_in (v3 + 1) G.2.2.2.2.2.1 ∧ (vp_in (v3 + 2) G.2.2.2.2.2.1 ∧ (m_X12_sly (G.2.2.2.2.2.2 (ix (v3 + 1))) (G.2.2.2.2.2.2 (ix (v3 + 2))) h99 (fun (x100 : Int32) (h101 : Hp) => (x98 = x100 → m_L_law_1118 G (fun (v3 : Int32) (hh : Hp) => m_L_law_18 G n Q v3 hh) Q v3 h101) ∧ (¬ x98 = x100 → Q 0 h101)))))))) ∧ (¬ ((G.2.2.2.2.2.2 (ix v3)) &&& 31) = 24 → (((G.2.2.2.2.2.2 (ix v3)) &&& 31) = 25 → m_X11_honest h (fun (x102 : Int32) (h103 : Hp) => m_X12_honest h103 (fun (x104 : Int32) (h105 : Hp) => (x102 = x104 → m_L_law_1118 G (fun (v3 : Int32) (hh : Hp) => m_L_law_18 G n Q v3 hh) Q v3 h105) ∧ (¬ x102 = x104 → Q 0 h105)))) ∧ (¬ ((G.2.2.2.2.2.2 (ix v3)) &&& 31) = 25 → (((G.2.2.2.2.2.2 (ix v3)) &&& 31) = 26 → vp_in (v3 + 1) G.2.2.2.2.2.1 ∧ (vp_in (v3 + 2) G.2.2.2.2.2.1 ∧ (m_X11_innocent (G.2.2.2.2.2.2 (ix (v3 + 1))) (G.2.2.2.2.2.2 (ix (v3 + 2))) h (fun (x106 : Int32) (h107 : Hp) => vp_in (v3 + 1) G.2.2.2.2.2.1 ∧ (vp_in (v3 + 2) G.2.2.2.2.2.1 ∧ (m_X12_innocent (G.2.2.2.2.2.2 (ix (v3 + 1))) (G.2.2.2.2.2.2 (ix (v3 + 2))) h107 (fun (x108 : Int32) (h109 : Hp) => (x106 = x108 → m_L_law_1118 G (fun (v3 : Int32) (hh : Hp) => m_L_law_18 G n Q v3 hh) Q v3 h109) ∧ (¬ x106 = x108 → Q 0 h109)))))))) ∧ (¬ ((G.2.2.2.2.2.2 (ix v3)) &&& 31) = 26 → (((G.2.2.2.2.2.2 (ix v3)) &&& 31) = 27 → vp_in (v3 + 1) G.2.2.2.2.2.1 ∧ (m_X11_parts (G.2.2.2.2.2.2 (ix (v3 + 1))) h (fun (x110 : Int32) (h111 : Hp) => vp_in (v3 + 1) G.2.2.2.2.2.1 ∧ (m_X12_parts (G.2.2.2.2.2.2 (ix (v3 + 1))) h111 (fun (x112 : Int32) (h113 : Hp) => (x110 = x112 → m_L_law_1118 G (fun (v3 : Int32) (hh : Hp) => m_L_law_18 G n Q v3 hh) Q v3 h113) ∧ (¬ x110 = x112 → Q 0 h113)))))) ∧ (¬ ((G.2.2.2.2.2.2 (ix v3)) &&& 31) = 27 → (((G.2.2.2.2.2.2 (ix v3)) &&& 31) = 28 → vp_in (v3 + 1) G.2.2.2.2.2.1 ∧ (m_X11_stop (G.2.2.2.2.2.2 (ix (v3 + 1))) h (fun (x114 : Int32) (h115 : Hp) => vp_in (v3 + 1) G.2.2.2.2.2.1 ∧ (m_X12_stop (G.2.2.2.2.2.2 (ix (v3 + 1))) h115 (fun (x116 : Int32) (h117 : Hp) => (x114 = x116 → m_L_law_1118 G (fun (v3 : Int32) (hh : Hp) => m_L_law_18 G n Q v3 hh) Q v3 h117) ∧ (¬ x114 = x116 → Q 0 h117)))))) ∧ (¬ ((G.2.2.2.2.2.2 (ix v3)) &&& 31) = 28 → (((G.2.2.2.2.2.2 (ix v3)) &&& 31) = 29 → vp_in (v3 + 1) G.2.2.2.2.2.1 ∧ (vp_in (v3 + 2) G.2.2.2.2.2.1 ∧ (m_X11_heap (G.2.2.2.2.2.2 (ix (v3 + 1))) (G.2.2.2.2.2.2 (ix (v3 + 2))) h (fun (x118 : Int32) (h119 : Hp) => vp_in (v3 + 1) G.2.2.2.2.2.1 ∧ (vp_in (v3 + 2) G.2.2.2.2.2.1 ∧ (m_X12_heap (G.2.2.2.2.2.2 (ix (v3 + 1))) (G.2.2.2.2.2.2 (ix (v3 + 2))) h119 (fun (x120 : Int32) (h121 : Hp) => (x118 = x120 → m_L_law_1118 G (fun (v3 : Int32) (hh : Hp) => m_L_law_18 G n Q v3 hh) Q v3 h121) ∧ (¬ x118 = x120 → Q 0 h121)))))))) ∧ (¬ ((G.2.2.2.2.2.2 (ix v3)) &&& 31) = 29 → (((G.2.2.2.2.2.2 (ix v3)) &&& 31) = 30 → vp_in (v3 + 1) G.2.2.2.2.2.1 ∧ (vp_in (v3 + 2) G.2.2.2.2.2.1 ∧ (m_X11_group (G.2.2.2.2.2.2 (ix (v3 + 1))) (G.2.2.2.2.2.2 (ix (v3 + 2))) h (fun (x122 : Int32) (h123 : Hp) => vp_in (v3 + 1) G.2.2.2.2.2.1 ∧ (vp_in (v3 + 2) G.2.2.2.2.2.1 ∧ (m_X12_group (G.2.2.2.2.2.2 (ix (v3 + 1))) (G.2.2.2.2.2.2 (ix (v3 + 2))) h123 (fun (x124 : Int32) (h125 : Hp) => (x122 = x124 → m_L_law_1118 G (fun (v3 : Int32) (hh : Hp) => m_L_law_18 G n Q v3 hh) Q v3 h125) ∧ (¬ x122 = x124 → Q 0 h125)))))))) ∧ (¬ ((G.2.2.2.2.2.2 (ix v3)) &&& 31) = 30 → (((G.2.2.2.2.2.2 (ix v3)) &&& 31) = 31 → vp_in (v3 + 1) G.2.2.2.2.2.1 ∧ (m_X11_count (G.2.2.2.2.2.2 (ix (v3 + 1))) h (fun (x126 : Int32) (h127 : Hp) => vp_in (v3 + 1) G.2.2.2.2.2.1 ∧ (m_X12_count (G.2.2.2.2.2.2 (ix (v3 + 1))) h127 (fun (x128 : Int32) (h129 : Hp) => (x126 = x128 → m_L_law_1118 G (fun (v3 : Int32) (hh : Hp) => m_L_law_18 G n Q v3 hh) Q v3 h129) ∧ (¬ x126 = x128 → Q 0 h129)))))) ∧ (¬ ((G.2.2.2.2.2.2 (ix v3)) &&& 31) = 31 → m_L_law_1118 G (fun (v3 : Int32) (hh : Hp) => m_L_law_18 G n Q v3 hh) Q v3 h))))))))))))))))))))))))))))))))))
set_option maxHeartbeats 8000000 in
set_option maxRecDepth 100000 in
theorem s_L_law_18 {l : Launch} {G : Cx} {nm : String} {d : Nat} {h0 : Hp} (hd : 182 ≤ d) {Q : Int32 → Hp → Prop} : ∀ {n cu su : Nat} (_ : cu + 5 * n ≤ 600000 ∧ su + 400 * n ≤ 7302250) {v3 : Int32} {h : Hp}, m_L_law_18 G n Q v3 h → Rn l G d 600000 7302250 (MLw nm) h0 (qI Q) 18 [some (tS 300), some (tR 11 0 (some 0)), some (tR 12 0 (some 51)), some (tI v3)] [] h cu su := by
  intro n
  induction n with
  | zero => intro cu su hcu v3 h hm; exact hm.elim
  | succ n ih =>
    intro cu su hcu v3 h hm
    have hk18 := fun (v3 : Int32) (hh : Hp) (hm : m_L_law_18 G n Q v3 hh) => ih (cu := cu + 5) (su := su + 400) (by omega) hm
    rw [m_L_law_18] at hm
    refine r_iload_n dL_law_18 rfl rfl ?_
    refine r_aload_nS dL_law_19 rfl rfl ?_
    refine r_slen dL_law_20 ?_
    refine r_bipush (v := 6) dL_law_21 rfl ?_
    refine r_isub dL_law_23 ?_
    refine r_icmp_gt (tgt := 1124) dL_law_24 rfl (fun hc => ?_) (fun hc => ?_)
    · replace hm := hm.1 hc
      refine r_iconst (v := 1) dL_law_1124 rfl ?_
      exact r_bret dL_law_1125 rfl ⟨by omega, by omega⟩ (by unfold bz; decide) ⟨_, rfl, hm⟩
    · replace hm := hm.2 hc
      refine r_aload_nS dL_law_27 rfl rfl ?_
      refine r_iload_n dL_law_28 rfl rfl ?_
      refine r_sld dL_law_29 hm.1 ?_
      replace hm := hm.2
      refine r_bipush (v := 31) dL_law_30 rfl ?_
      refine r_iand dL_law_32 ?_
      by_cases hc0 : ((G.2.2.2.2.2.2 (ix v3)) &&& 31) = 0
      · refine r_tableIn (tgt := 176) (off := 143) dL_law_33 (by rw [hc0]; decide) (by rw [hc0]; decide) (by rw [hc0]; rfl) rfl ?_
        replace hm := hm.1 hc0
        refine r_aload_n dL_law_176 rfl rfl ?_
        refine r_aload_nS dL_law_177 rfl rfl ?_
        refine r_iload_n dL_law_178 rfl rfl ?_
        refine r_iconst (v := 1) dL_law_179 rfl ?_
        refine r_iadd dL_law_180 ?_
        refine r_sld dL_law_181 hm.1 ?_
        replace hm := hm.2
        refine r_aload_nS dL_law_182 rfl rfl ?_
        refine r_iload_n dL_law_183 rfl rfl ?_
        refine r_iconst (v := 2) dL_law_184 rfl ?_
        refine r_iadd dL_law_185 ?_
        refine r_sld dL_law_186 hm.1 ?_
        replace hm := hm.2
        refine r_callVI (d' := d - 1) (as := [tI (G.2.2.2.2.2.2 (ix (v3 + 1))), tI (G.2.2.2.2.2.2 (ix (v3 + 2)))]) (st := []) cl_11 dL_law_187 mi_X11_family t_401 t_402 t_403 rfl rfl (Nat.le_of_ble_eq_true rfl) (by omega) ⟨by omega, by omega⟩ ⟨rfl, rfl⟩ (s_X11_family (by omega) hm) (fun x2 h3 hm => ?_)
        refine r_aload_n dL_law_190 rfl rfl ?_
        refine r_aload_nS dL_law_191 rfl rfl ?_
        refine r_iload_n dL_law_192 rfl rfl ?_
        refine r_iconst (v := 1) dL_law_193 rfl ?_
        refine r_iadd dL_law_194 ?_
        refine r_sld dL_law_195 hm.1 ?_
        replace hm := hm.2
        refine r_aload_nS dL_law_196 rfl rfl ?_
        refine r_iload_n dL_law_197 rfl rfl ?_
        refine r_iconst (v := 2) dL_law_198 rfl ?_
        refine r_iadd dL_law_199 ?_
        refine r_sld dL_law_200 hm.1 ?_
        replace hm := hm.2
        refine r_callVI (d' := d - 1) (as := [tI (G.2.2.2.2.2.2 (ix (v3 + 1))), tI (G.2.2.2.2.2.2 (ix (v3 + 2)))]) (st := [tI x2]) cl_12 dL_law_201 mi_X12_family t_1553 t_1554 t_1555 rfl rfl (Nat.le_of_ble_eq_true rfl) (by omega) ⟨by omega, by omega⟩ ⟨rfl, rfl⟩ (s_X12_family (by omega) hm) (fun x4 h5 hm => ?_)
        refine r_icmp_eq (tgt := 1118) dL_law_204 rfl (fun hc => ?_) (fun hc => ?_)
        · replace hm := hm.1 hc
          refine r_keep (L' := [some (tS 300), some (tR 11 0 (some 0)), some (tR 12 0 (some 51)), some (tI v3)]) [true, true, true, true] rfl ?_
          refine r_wide (cu' := cu + 5) (su' := su + 400) (by omega) (by omega) ?_
          exact s_L_law_1118 hd hk18 hm
        · replace hm := hm.2 hc
          refine r_iconst (v := 0) dL_law_207 rfl ?_
          exact r_bret dL_law_208 rfl ⟨by omega, by omega⟩ (by unfold bz; decide) ⟨_, rfl, hm⟩
      replace hm := hm.2 hc0
      by_cases hc1 : ((G.2.2.2.2.2.2 (ix v3)) &&& 31) = 1
      · refine r_tableIn (tgt := 209) (off := 176) dL_law_33 (by rw [hc1]; decide) (by rw [hc1]; decide) (by rw [hc1]; rfl) rfl ?_
        replace hm := hm.1 hc1
        refine r_aload_n dL_law_209 rfl rfl ?_
        refine r_aload_nS dL_law_210 rfl rfl ?_
        refine r_iload_n dL_law_211 rfl rfl ?_
        refine r_iconst (v := 1) dL_law_212 rfl ?_
        refine r_iadd dL_law_213 ?_
        refine r_sld dL_law_214 hm.1 ?_
        replace hm := hm.2
        refine r_aload_nS dL_law_215 rfl rfl ?_
        refine r_iload_n dL_law_216 rfl rfl ?_
        refine r_iconst (v := 2) dL_law_217 rfl ?_
        refine r_iadd dL_law_218 ?_
        refine r_sld dL_law_219 hm.1 ?_
        replace hm := hm.2
        refine r_aload_nS dL_law_220 rfl rfl ?_
        refine r_iload_n dL_law_221 rfl rfl ?_
        refine r_iconst (v := 3) dL_law_222 rfl ?_
        refine r_iadd dL_law_223 ?_
        refine r_sld dL_law_224 hm.1 ?_
        replace hm := hm.2
        refine r_aload_nS dL_law_225 rfl rfl ?_
        refine r_iload_n dL_law_226 rfl rfl ?_
        refine r_iconst (v := 4) dL_law_227 rfl ?_
        refine r_iadd dL_law_228 ?_
        refine r_sld dL_law_229 hm.1 ?_
        replace hm := hm.2
        refine r_aload_nS dL_law_230 rfl rfl ?_
        refine r_iload_n dL_law_231 rfl rfl ?_
        refine r_iconst (v := 5) dL_law_232 rfl ?_
        refine r_iadd dL_law_233 ?_
        refine r_sld dL_law_234 hm.1 ?_
        replace hm := hm.2
        refine r_callVI (d' := d - 1) (as := [tI (G.2.2.2.2.2.2 (ix (v3 + 1))), tI (G.2.2.2.2.2.2 (ix (v3 + 2))), tI (G.2.2.2.2.2.2 (ix (v3 + 3))), tI (G.2.2.2.2.2.2 (ix (v3 + 4))), tI (G.2.2.2.2.2.2 (ix (v3 + 5)))]) (st := []) cl_11 dL_law_235 mi_X11_feed t_415 t_416 t_417 rfl rfl (Nat.le_of_ble_eq_true rfl) (by omega) ⟨by omega, by omega⟩ ⟨rfl, rfl⟩ (s_X11_feed (by omega) hm) (fun x6 h7 hm => ?_)
        refine r_aload_n dL_law_238 rfl rfl ?_
        refine r_aload_nS dL_law_239 rfl rfl ?_
        refine r_iload_n dL_law_240 rfl rfl ?_
        refine r_iconst (v := 1) dL_law_241 rfl ?_
        refine r_iadd dL_law_242 ?_
        refine r_sld dL_law_243 hm.1 ?_
        replace hm := hm.2
        refine r_aload_nS dL_law_244 rfl rfl ?_
        refine r_iload_n dL_law_245 rfl rfl ?_
        refine r_iconst (v := 2) dL_law_246 rfl ?_
        refine r_iadd dL_law_247 ?_
        refine r_sld dL_law_248 hm.1 ?_
        replace hm := hm.2
        refine r_aload_nS dL_law_249 rfl rfl ?_
        refine r_iload_n dL_law_250 rfl rfl ?_
        refine r_iconst (v := 3) dL_law_251 rfl ?_
        refine r_iadd dL_law_252 ?_
        refine r_sld dL_law_253 hm.1 ?_
        replace hm := hm.2
        refine r_aload_nS dL_law_254 rfl rfl ?_
        refine r_iload_n dL_law_255 rfl rfl ?_
        refine r_iconst (v := 4) dL_law_256 rfl ?_
        refine r_iadd dL_law_257 ?_
        refine r_sld dL_law_258 hm.1 ?_
        replace hm := hm.2
        refine r_aload_nS dL_law_259 rfl rfl ?_
        refine r_iload_n dL_law_260 rfl rfl ?_
        refine r_iconst (v := 5) dL_law_261 rfl ?_
        refine r_iadd dL_law_262 ?_
        refine r_sld dL_law_263 hm.1 ?_
        replace hm := hm.2
        refine r_callVI (d' := d - 1) (as := [tI (G.2.2.2.2.2.2 (ix (v3 + 1))), tI (G.2.2.2.2.2.2 (ix (v3 + 2))), tI (G.2.2.2.2.2.2 (ix (v3 + 3))), tI (G.2.2.2.2.2.2 (ix (v3 + 4))), tI (G.2.2.2.2.2.2 (ix (v3 + 5)))]) (st := [tI x6]) cl_12 dL_law_264 mi_X12_feed t_1560 t_1561 t_1562 rfl rfl (Nat.le_of_ble_eq_true rfl) (by omega) ⟨by omega, by omega⟩ ⟨rfl, rfl⟩ (s_X12_feed (by omega) hm) (fun x8 h9 hm => ?_)
        refine r_icmp_eq (tgt := 1118) dL_law_267 rfl (fun hc => ?_) (fun hc => ?_)
        · replace hm := hm.1 hc
          refine r_keep (L' := [some (tS 300), some (tR 11 0 (some 0)), some (tR 12 0 (some 51)), some (tI v3)]) [true, true, true, true] rfl ?_
          refine r_wide (cu' := cu + 5) (su' := su + 400) (by omega) (by omega) ?_
          exact s_L_law_1118 hd hk18 hm
        · replace hm := hm.2 hc
          refine r_iconst (v := 0) dL_law_270 rfl ?_
          exact r_bret dL_law_271 rfl ⟨by omega, by omega⟩ (by unfold bz; decide) ⟨_, rfl, hm⟩
      replace hm := hm.2 hc1
      by_cases hc2 : ((G.2.2.2.2.2.2 (ix v3)) &&& 31) = 2
      · refine r_tableIn (tgt := 272) (off := 239) dL_law_33 (by rw [hc2]; decide) (by rw [hc2]; decide) (by rw [hc2]; rfl) rfl ?_
        replace hm := hm.1 hc2
        refine r_aload_n dL_law_272 rfl rfl ?_
        refine r_aload_nS dL_law_273 rfl rfl ?_
        refine r_iload_n dL_law_274 rfl rfl ?_
        refine r_iconst (v := 1) dL_law_275 rfl ?_
        refine r_iadd dL_law_276 ?_
        refine r_sld dL_law_277 hm.1 ?_
        replace hm := hm.2
        refine r_aload_nS dL_law_278 rfl rfl ?_
        refine r_iload_n dL_law_279 rfl rfl ?_
        refine r_iconst (v := 2) dL_law_280 rfl ?_
        refine r_iadd dL_law_281 ?_
        refine r_sld dL_law_282 hm.1 ?_
        replace hm := hm.2
        refine r_callVI (d' := d - 1) (as := [tI (G.2.2.2.2.2.2 (ix (v3 + 1))), tI (G.2.2.2.2.2.2 (ix (v3 + 2)))]) (st := []) cl_11 dL_law_283 mi_X11_deal t_423 t_424 t_425 rfl rfl (Nat.le_of_ble_eq_true rfl) (by omega) ⟨by omega, by omega⟩ ⟨rfl, rfl⟩ (s_X11_deal (by omega) hm) (fun x10 h11 hm => ?_)
        refine r_aload_n dL_law_286 rfl rfl ?_
        refine r_aload_nS dL_law_287 rfl rfl ?_
        refine r_iload_n dL_law_288 rfl rfl ?_
        refine r_iconst (v := 1) dL_law_289 rfl ?_
        refine r_iadd dL_law_290 ?_
        refine r_sld dL_law_291 hm.1 ?_
        replace hm := hm.2
        refine r_aload_nS dL_law_292 rfl rfl ?_
        refine r_iload_n dL_law_293 rfl rfl ?_
        refine r_iconst (v := 2) dL_law_294 rfl ?_
        refine r_iadd dL_law_295 ?_
        refine r_sld dL_law_296 hm.1 ?_
        replace hm := hm.2
        refine r_callVI (d' := d - 1) (as := [tI (G.2.2.2.2.2.2 (ix (v3 + 1))), tI (G.2.2.2.2.2.2 (ix (v3 + 2)))]) (st := [tI x10]) cl_12 dL_law_297 mi_X12_deal t_1564 t_1565 t_1566 rfl rfl (Nat.le_of_ble_eq_true rfl) (by omega) ⟨by omega, by omega⟩ ⟨rfl, rfl⟩ (s_X12_deal (by omega) hm) (fun x12 h13 hm => ?_)
        refine r_icmp_eq (tgt := 1118) dL_law_300 rfl (fun hc => ?_) (fun hc => ?_)
        · replace hm := hm.1 hc
          refine r_keep (L' := [some (tS 300), some (tR 11 0 (some 0)), some (tR 12 0 (some 51)), some (tI v3)]) [true, true, true, true] rfl ?_
          refine r_wide (cu' := cu + 5) (su' := su + 400) (by omega) (by omega) ?_
          exact s_L_law_1118 hd hk18 hm
        · replace hm := hm.2 hc
          refine r_iconst (v := 0) dL_law_303 rfl ?_
          exact r_bret dL_law_304 rfl ⟨by omega, by omega⟩ (by unfold bz; decide) ⟨_, rfl, hm⟩
      replace hm := hm.2 hc2
      by_cases hc3 : ((G.2.2.2.2.2.2 (ix v3)) &&& 31) = 3
      · refine r_tableIn (tgt := 305) (off := 272) dL_law_33 (by rw [hc3]; decide) (by rw [hc3]; decide) (by rw [hc3]; rfl) rfl ?_
        replace hm := hm.1 hc3
        refine r_aload_n dL_law_305 rfl rfl ?_
        refine r_aload_nS dL_law_306 rfl rfl ?_
        refine r_iload_n dL_law_307 rfl rfl ?_
        refine r_iconst (v := 1) dL_law_308 rfl ?_
        refine r_iadd dL_law_309 ?_
        refine r_sld dL_law_310 hm.1 ?_
        replace hm := hm.2
        refine r_callVI (d' := d - 1) (as := [tI (G.2.2.2.2.2.2 (ix (v3 + 1)))]) (st := []) cl_11 dL_law_311 mi_X11_law t_759 t_760 t_761 rfl rfl (Nat.le_of_ble_eq_true rfl) (by omega) ⟨by omega, by omega⟩ ⟨rfl, rfl⟩ (s_X11_law (by omega) hm) (fun x14 h15 hm => ?_)
        refine r_aload_n dL_law_314 rfl rfl ?_
        refine r_aload_nS dL_law_315 rfl rfl ?_
        refine r_iload_n dL_law_316 rfl rfl ?_
        refine r_iconst (v := 1) dL_law_317 rfl ?_
        refine r_iadd dL_law_318 ?_
        refine r_sld dL_law_319 hm.1 ?_
        replace hm := hm.2
        refine r_callVI (d' := d - 1) (as := [tI (G.2.2.2.2.2.2 (ix (v3 + 1)))]) (st := [tI x14]) cl_12 dL_law_320 mi_X12_law t_1870 t_1871 t_1872 rfl rfl (Nat.le_of_ble_eq_true rfl) (by omega) ⟨by omega, by omega⟩ ⟨rfl, rfl⟩ (s_X12_law (by omega) hm) (fun x16 h17 hm => ?_)
        refine r_icmp_eq (tgt := 1118) dL_law_323 rfl (fun hc => ?_) (fun hc => ?_)
        · replace hm := hm.1 hc
          refine r_keep (L' := [some (tS 300), some (tR 11 0 (some 0)), some (tR 12 0 (some 51)), some (tI v3)]) [true, true, true, true] rfl ?_
          refine r_wide (cu' := cu + 5) (su' := su + 400) (by omega) (by omega) ?_
          exact s_L_law_1118 hd hk18 hm
        · replace hm := hm.2 hc
          refine r_iconst (v := 0) dL_law_326 rfl ?_
          exact r_bret dL_law_327 rfl ⟨by omega, by omega⟩ (by unfold bz; decide) ⟨_, rfl, hm⟩
      replace hm := hm.2 hc3
      by_cases hc4 : ((G.2.2.2.2.2.2 (ix v3)) &&& 31) = 4
      · refine r_tableIn (tgt := 328) (off := 295) dL_law_33 (by rw [hc4]; decide) (by rw [hc4]; decide) (by rw [hc4]; rfl) rfl ?_
        replace hm := hm.1 hc4
        refine r_aload_n dL_law_328 rfl rfl ?_
        refine r_aload_nS dL_law_329 rfl rfl ?_
        refine r_iload_n dL_law_330 rfl rfl ?_
        refine r_iconst (v := 1) dL_law_331 rfl ?_
        refine r_iadd dL_law_332 ?_
        refine r_sld dL_law_333 hm.1 ?_
        replace hm := hm.2
        refine r_callVI (d' := d - 1) (as := [tI (G.2.2.2.2.2.2 (ix (v3 + 1)))]) (st := []) cl_11 dL_law_334 mi_X11_word t_822 t_823 t_824 rfl rfl (Nat.le_of_ble_eq_true rfl) (by omega) ⟨by omega, by omega⟩ ⟨rfl, rfl⟩ (s_X11_word (by omega) hm) (fun x18 h19 hm => ?_)
        refine r_aload_n dL_law_337 rfl rfl ?_
        refine r_aload_nS dL_law_338 rfl rfl ?_
        refine r_iload_n dL_law_339 rfl rfl ?_
        refine r_iconst (v := 1) dL_law_340 rfl ?_
        refine r_iadd dL_law_341 ?_
        refine r_sld dL_law_342 hm.1 ?_
        replace hm := hm.2
        refine r_callVI (d' := d - 1) (as := [tI (G.2.2.2.2.2.2 (ix (v3 + 1)))]) (st := [tI x18]) cl_12 dL_law_343 mi_X12_word t_1901 t_1902 t_1903 rfl rfl (Nat.le_of_ble_eq_true rfl) (by omega) ⟨by omega, by omega⟩ ⟨rfl, rfl⟩ (s_X12_word (by omega) hm) (fun x20 h21 hm => ?_)
        refine r_icmp_eq (tgt := 1118) dL_law_346 rfl (fun hc => ?_) (fun hc => ?_)
        · replace hm := hm.1 hc
          refine r_keep (L' := [some (tS 300), some (tR 11 0 (some 0)), some (tR 12 0 (some 51)), some (tI v3)]) [true, true, true, true] rfl ?_
          refine r_wide (cu' := cu + 5) (su' := su + 400) (by omega) (by omega) ?_
          exact s_L_law_1118 hd hk18 hm
        · replace hm := hm.2 hc
          refine r_iconst (v := 0) dL_law_349 rfl ?_
          exact r_bret dL_law_350 rfl ⟨by omega, by omega⟩ (by unfold bz; decide) ⟨_, rfl, hm⟩
      replace hm := hm.2 hc4
      by_cases hc5 : ((G.2.2.2.2.2.2 (ix v3)) &&& 31) = 5
      · refine r_tableIn (tgt := 351) (off := 318) dL_law_33 (by rw [hc5]; decide) (by rw [hc5]; decide) (by rw [hc5]; rfl) rfl ?_
        replace hm := hm.1 hc5
        refine r_aload_n dL_law_351 rfl rfl ?_
        refine r_callVI (d' := d - 1) (as := []) (st := []) cl_11 dL_law_352 mi_X11_fault t_826 t_827 t_828 rfl rfl (Nat.le_of_ble_eq_true rfl) (by omega) ⟨by omega, by omega⟩ ⟨rfl, rfl⟩ (s_X11_fault (by omega) hm) (fun x22 h23 hm => ?_)
        refine r_aload_n dL_law_355 rfl rfl ?_
        refine r_callVI (d' := d - 1) (as := []) (st := [tI x22]) cl_12 dL_law_356 mi_X12_fault t_1665 t_1666 t_1667 rfl rfl (Nat.le_of_ble_eq_true rfl) (by omega) ⟨by omega, by omega⟩ ⟨rfl, rfl⟩ (s_X12_fault (by omega) hm) (fun x24 h25 hm => ?_)
        refine r_icmp_eq (tgt := 1118) dL_law_359 rfl (fun hc => ?_) (fun hc => ?_)
        · replace hm := hm.1 hc
          refine r_keep (L' := [some (tS 300), some (tR 11 0 (some 0)), some (tR 12 0 (some 51)), some (tI v3)]) [true, true, true, true] rfl ?_
          refine r_wide (cu' := cu + 5) (su' := su + 400) (by omega) (by omega) ?_
          exact s_L_law_1118 hd hk18 hm
        · replace hm := hm.2 hc
          refine r_iconst (v := 0) dL_law_362 rfl ?_
          exact r_bret dL_law_363 rfl ⟨by omega, by omega⟩ (by unfold bz; decide) ⟨_, rfl, hm⟩
      replace hm := hm.2 hc5
      by_cases hc6 : ((G.2.2.2.2.2.2 (ix v3)) &&& 31) = 6
      · refine r_tableIn (tgt := 364) (off := 331) dL_law_33 (by rw [hc6]; decide) (by rw [hc6]; decide) (by rw [hc6]; rfl) rfl ?_
        replace hm := hm.1 hc6
        refine r_aload_n dL_law_364 rfl rfl ?_
        refine r_aload_nS dL_law_365 rfl rfl ?_
        refine r_iload_n dL_law_366 rfl rfl ?_
        refine r_iconst (v := 1) dL_law_367 rfl ?_
        refine r_iadd dL_law_368 ?_
        refine r_sld dL_law_369 hm.1 ?_
        replace hm := hm.2
        refine r_aload_nS dL_law_370 rfl rfl ?_
        refine r_iload_n dL_law_371 rfl rfl ?_
        refine r_iconst (v := 2) dL_law_372 rfl ?_
        refine r_iadd dL_law_373 ?_
        refine r_sld dL_law_374 hm.1 ?_
        replace hm := hm.2
        refine r_callVI (d' := d - 1) (as := [tI (G.2.2.2.2.2.2 (ix (v3 + 1))), tI (G.2.2.2.2.2.2 (ix (v3 + 2)))]) (st := []) cl_11 dL_law_375 mi_X11_size t_830 t_831 t_832 rfl rfl (Nat.le_of_ble_eq_true rfl) (by omega) ⟨by omega, by omega⟩ ⟨rfl, rfl⟩ (s_X11_size (by omega) hm) (fun x26 h27 hm => ?_)
        refine r_aload_n dL_law_378 rfl rfl ?_
        refine r_aload_nS dL_law_379 rfl rfl ?_
        refine r_iload_n dL_law_380 rfl rfl ?_
        refine r_iconst (v := 1) dL_law_381 rfl ?_
        refine r_iadd dL_law_382 ?_
        refine r_sld dL_law_383 hm.1 ?_
        replace hm := hm.2
        refine r_aload_nS dL_law_384 rfl rfl ?_
        refine r_iload_n dL_law_385 rfl rfl ?_
        refine r_iconst (v := 2) dL_law_386 rfl ?_
        refine r_iadd dL_law_387 ?_
        refine r_sld dL_law_388 hm.1 ?_
        replace hm := hm.2
        refine r_callVI (d' := d - 1) (as := [tI (G.2.2.2.2.2.2 (ix (v3 + 1))), tI (G.2.2.2.2.2.2 (ix (v3 + 2)))]) (st := [tI x26]) cl_12 dL_law_389 mi_X12_size t_1669 t_1670 t_1671 rfl rfl (Nat.le_of_ble_eq_true rfl) (by omega) ⟨by omega, by omega⟩ ⟨rfl, rfl⟩ (s_X12_size (by omega) hm) (fun x28 h29 hm => ?_)
        refine r_icmp_eq (tgt := 1118) dL_law_392 rfl (fun hc => ?_) (fun hc => ?_)
        · replace hm := hm.1 hc
          refine r_keep (L' := [some (tS 300), some (tR 11 0 (some 0)), some (tR 12 0 (some 51)), some (tI v3)]) [true, true, true, true] rfl ?_
          refine r_wide (cu' := cu + 5) (su' := su + 400) (by omega) (by omega) ?_
          exact s_L_law_1118 hd hk18 hm
        · replace hm := hm.2 hc
          refine r_iconst (v := 0) dL_law_395 rfl ?_
          exact r_bret dL_law_396 rfl ⟨by omega, by omega⟩ (by unfold bz; decide) ⟨_, rfl, hm⟩
      replace hm := hm.2 hc6
      by_cases hc7 : ((G.2.2.2.2.2.2 (ix v3)) &&& 31) = 7
      · refine r_tableIn (tgt := 397) (off := 364) dL_law_33 (by rw [hc7]; decide) (by rw [hc7]; decide) (by rw [hc7]; rfl) rfl ?_
        replace hm := hm.1 hc7
        refine r_aload_n dL_law_397 rfl rfl ?_
        refine r_aload_nS dL_law_398 rfl rfl ?_
        refine r_iload_n dL_law_399 rfl rfl ?_
        refine r_iconst (v := 1) dL_law_400 rfl ?_
        refine r_iadd dL_law_401 ?_
        refine r_sld dL_law_402 hm.1 ?_
        replace hm := hm.2
        refine r_aload_nS dL_law_403 rfl rfl ?_
        refine r_iload_n dL_law_404 rfl rfl ?_
        refine r_iconst (v := 2) dL_law_405 rfl ?_
        refine r_iadd dL_law_406 ?_
        refine r_sld dL_law_407 hm.1 ?_
        replace hm := hm.2
        refine r_aload_nS dL_law_408 rfl rfl ?_
        refine r_iload_n dL_law_409 rfl rfl ?_
        refine r_iconst (v := 3) dL_law_410 rfl ?_
        refine r_iadd dL_law_411 ?_
        refine r_sld dL_law_412 hm.1 ?_
        replace hm := hm.2
        refine r_callVI (d' := d - 1) (as := [tI (G.2.2.2.2.2.2 (ix (v3 + 1))), tI (G.2.2.2.2.2.2 (ix (v3 + 2))), tI (G.2.2.2.2.2.2 (ix (v3 + 3)))]) (st := []) cl_11 dL_law_413 mi_X11_leaf t_838 t_839 t_840 rfl rfl (Nat.le_of_ble_eq_true rfl) (by omega) ⟨by omega, by omega⟩ ⟨rfl, rfl⟩ (s_X11_leaf (by omega) hm) (fun x30 h31 hm => ?_)
        refine r_aload_n dL_law_416 rfl rfl ?_
        refine r_aload_nS dL_law_417 rfl rfl ?_
        refine r_iload_n dL_law_418 rfl rfl ?_
        refine r_iconst (v := 1) dL_law_419 rfl ?_
        refine r_iadd dL_law_420 ?_
        refine r_sld dL_law_421 hm.1 ?_
        replace hm := hm.2
        refine r_aload_nS dL_law_422 rfl rfl ?_
        refine r_iload_n dL_law_423 rfl rfl ?_
        refine r_iconst (v := 2) dL_law_424 rfl ?_
        refine r_iadd dL_law_425 ?_
        refine r_sld dL_law_426 hm.1 ?_
        replace hm := hm.2
        refine r_aload_nS dL_law_427 rfl rfl ?_
        refine r_iload_n dL_law_428 rfl rfl ?_
        refine r_iconst (v := 3) dL_law_429 rfl ?_
        refine r_iadd dL_law_430 ?_
        refine r_sld dL_law_431 hm.1 ?_
        replace hm := hm.2
        refine r_callVI (d' := d - 1) (as := [tI (G.2.2.2.2.2.2 (ix (v3 + 1))), tI (G.2.2.2.2.2.2 (ix (v3 + 2))), tI (G.2.2.2.2.2.2 (ix (v3 + 3)))]) (st := [tI x30]) cl_12 dL_law_432 mi_X12_leaf t_1681 t_1682 t_1683 rfl rfl (Nat.le_of_ble_eq_true rfl) (by omega) ⟨by omega, by omega⟩ ⟨rfl, rfl⟩ (s_X12_leaf (by omega) hm) (fun x32 h33 hm => ?_)
        refine r_icmp_eq (tgt := 1118) dL_law_435 rfl (fun hc => ?_) (fun hc => ?_)
        · replace hm := hm.1 hc
          refine r_keep (L' := [some (tS 300), some (tR 11 0 (some 0)), some (tR 12 0 (some 51)), some (tI v3)]) [true, true, true, true] rfl ?_
          refine r_wide (cu' := cu + 5) (su' := su + 400) (by omega) (by omega) ?_
          exact s_L_law_1118 hd hk18 hm
        · replace hm := hm.2 hc
          refine r_iconst (v := 0) dL_law_438 rfl ?_
          exact r_bret dL_law_439 rfl ⟨by omega, by omega⟩ (by unfold bz; decide) ⟨_, rfl, hm⟩
      replace hm := hm.2 hc7
      by_cases hc8 : ((G.2.2.2.2.2.2 (ix v3)) &&& 31) = 8
      · refine r_tableIn (tgt := 440) (off := 407) dL_law_33 (by rw [hc8]; decide) (by rw [hc8]; decide) (by rw [hc8]; rfl) rfl ?_
        replace hm := hm.1 hc8
        refine r_aload_n dL_law_440 rfl rfl ?_
        refine r_aload_nS dL_law_441 rfl rfl ?_
        refine r_iload_n dL_law_442 rfl rfl ?_
        refine r_iconst (v := 1) dL_law_443 rfl ?_
        refine r_iadd dL_law_444 ?_
        refine r_sld dL_law_445 hm.1 ?_
        replace hm := hm.2
        refine r_aload_nS dL_law_446 rfl rfl ?_
        refine r_iload_n dL_law_447 rfl rfl ?_
        refine r_iconst (v := 2) dL_law_448 rfl ?_
        refine r_iadd dL_law_449 ?_
        refine r_sld dL_law_450 hm.1 ?_
        replace hm := hm.2
        refine r_callVI (d' := d - 1) (as := [tI (G.2.2.2.2.2.2 (ix (v3 + 1))), tI (G.2.2.2.2.2.2 (ix (v3 + 2)))]) (st := []) cl_11 dL_law_451 mi_X11_plain t_842 t_843 t_844 rfl rfl (Nat.le_of_ble_eq_true rfl) (by omega) ⟨by omega, by omega⟩ ⟨rfl, rfl⟩ (s_X11_plain (by omega) hm) (fun x34 h35 hm => ?_)
        refine r_aload_n dL_law_454 rfl rfl ?_
        refine r_aload_nS dL_law_455 rfl rfl ?_
        refine r_iload_n dL_law_456 rfl rfl ?_
        refine r_iconst (v := 1) dL_law_457 rfl ?_
        refine r_iadd dL_law_458 ?_
        refine r_sld dL_law_459 hm.1 ?_
        replace hm := hm.2
        refine r_aload_nS dL_law_460 rfl rfl ?_
        refine r_iload_n dL_law_461 rfl rfl ?_
        refine r_iconst (v := 2) dL_law_462 rfl ?_
        refine r_iadd dL_law_463 ?_
        refine r_sld dL_law_464 hm.1 ?_
        replace hm := hm.2
        refine r_callVI (d' := d - 1) (as := [tI (G.2.2.2.2.2.2 (ix (v3 + 1))), tI (G.2.2.2.2.2.2 (ix (v3 + 2)))]) (st := [tI x34]) cl_12 dL_law_465 mi_X12_plain t_1693 t_1694 t_1695 rfl rfl (Nat.le_of_ble_eq_true rfl) (by omega) ⟨by omega, by omega⟩ ⟨rfl, rfl⟩ (s_X12_plain (by omega) hm) (fun x36 h37 hm => ?_)
        refine r_icmp_eq (tgt := 1118) dL_law_468 rfl (fun hc => ?_) (fun hc => ?_)
        · replace hm := hm.1 hc
          refine r_keep (L' := [some (tS 300), some (tR 11 0 (some 0)), some (tR 12 0 (some 51)), some (tI v3)]) [true, true, true, true] rfl ?_
          refine r_wide (cu' := cu + 5) (su' := su + 400) (by omega) (by omega) ?_
          exact s_L_law_1118 hd hk18 hm
        · replace hm := hm.2 hc
          refine r_iconst (v := 0) dL_law_471 rfl ?_
          exact r_bret dL_law_472 rfl ⟨by omega, by omega⟩ (by unfold bz; decide) ⟨_, rfl, hm⟩
      replace hm := hm.2 hc8
      by_cases hc9 : ((G.2.2.2.2.2.2 (ix v3)) &&& 31) = 9
      · refine r_tableIn (tgt := 473) (off := 440) dL_law_33 (by rw [hc9]; decide) (by rw [hc9]; decide) (by rw [hc9]; rfl) rfl ?_
        replace hm := hm.1 hc9
        refine r_aload_n dL_law_473 rfl rfl ?_
        refine r_aload_nS dL_law_474 rfl rfl ?_
        refine r_iload_n dL_law_475 rfl rfl ?_
        refine r_iconst (v := 1) dL_law_476 rfl ?_
        refine r_iadd dL_law_477 ?_
        refine r_sld dL_law_478 hm.1 ?_
        replace hm := hm.2
        refine r_aload_nS dL_law_479 rfl rfl ?_
        refine r_iload_n dL_law_480 rfl rfl ?_
        refine r_iconst (v := 2) dL_law_481 rfl ?_
        refine r_iadd dL_law_482 ?_
        refine r_sld dL_law_483 hm.1 ?_
        replace hm := hm.2
        refine r_callVI (d' := d - 1) (as := [tI (G.2.2.2.2.2.2 (ix (v3 + 1))), tI (G.2.2.2.2.2.2 (ix (v3 + 2)))]) (st := []) cl_11 dL_law_484 mi_X11_same t_846 t_847 t_848 rfl rfl (Nat.le_of_ble_eq_true rfl) (by omega) ⟨by omega, by omega⟩ ⟨rfl, rfl⟩ (s_X11_same (by omega) hm) (fun x38 h39 hm => ?_)
        refine r_aload_n dL_law_487 rfl rfl ?_
        refine r_aload_nS dL_law_488 rfl rfl ?_
        refine r_iload_n dL_law_489 rfl rfl ?_
        refine r_iconst (v := 1) dL_law_490 rfl ?_
        refine r_iadd dL_law_491 ?_
        refine r_sld dL_law_492 hm.1 ?_
        replace hm := hm.2
        refine r_aload_nS dL_law_493 rfl rfl ?_
        refine r_iload_n dL_law_494 rfl rfl ?_
        refine r_iconst (v := 2) dL_law_495 rfl ?_
        refine r_iadd dL_law_496 ?_
        refine r_sld dL_law_497 hm.1 ?_
        replace hm := hm.2
        refine r_callVI (d' := d - 1) (as := [tI (G.2.2.2.2.2.2 (ix (v3 + 1))), tI (G.2.2.2.2.2.2 (ix (v3 + 2)))]) (st := [tI x38]) cl_12 dL_law_498 mi_X12_same t_1725 t_1726 t_1727 rfl rfl (Nat.le_of_ble_eq_true rfl) (by omega) ⟨by omega, by omega⟩ ⟨rfl, rfl⟩ (s_X12_same (by omega) hm) (fun x40 h41 hm => ?_)
        refine r_icmp_eq (tgt := 1118) dL_law_501 rfl (fun hc => ?_) (fun hc => ?_)
        · replace hm := hm.1 hc
          refine r_keep (L' := [some (tS 300), some (tR 11 0 (some 0)), some (tR 12 0 (some 51)), some (tI v3)]) [true, true, true, true] rfl ?_
          refine r_wide (cu' := cu + 5) (su' := su + 400) (by omega) (by omega) ?_
          exact s_L_law_1118 hd hk18 hm
        · replace hm := hm.2 hc
          refine r_iconst (v := 0) dL_law_504 rfl ?_
          exact r_bret dL_law_505 rfl ⟨by omega, by omega⟩ (by unfold bz; decide) ⟨_, rfl, hm⟩
      replace hm := hm.2 hc9
      by_cases hc10 : ((G.2.2.2.2.2.2 (ix v3)) &&& 31) = 10
      · refine r_tableIn (tgt := 506) (off := 473) dL_law_33 (by rw [hc10]; decide) (by rw [hc10]; decide) (by rw [hc10]; rfl) rfl ?_
        replace hm := hm.1 hc10
        refine r_aload_n dL_law_506 rfl rfl ?_
        refine r_aload_nS dL_law_507 rfl rfl ?_
        refine r_iload_n dL_law_508 rfl rfl ?_
        refine r_iconst (v := 1) dL_law_509 rfl ?_
        refine r_iadd dL_law_510 ?_
        refine r_sld dL_law_511 hm.1 ?_
        replace hm := hm.2
        refine r_callVI (d' := d - 1) (as := [tI (G.2.2.2.2.2.2 (ix (v3 + 1)))]) (st := []) cl_11 dL_law_512 mi_X11_add t_882 t_883 t_884 rfl rfl (Nat.le_of_ble_eq_true rfl) (by omega) ⟨by omega, by omega⟩ ⟨rfl, rfl⟩ (s_X11_add (by omega) hm) (fun x42 h43 hm => ?_)
        refine r_aload_n dL_law_515 rfl rfl ?_
        refine r_aload_nS dL_law_516 rfl rfl ?_
        refine r_iload_n dL_law_517 rfl rfl ?_
        refine r_iconst (v := 1) dL_law_518 rfl ?_
        refine r_iadd dL_law_519 ?_
        refine r_sld dL_law_520 hm.1 ?_
        replace hm := hm.2
        refine r_callVI (d' := d - 1) (as := [tI (G.2.2.2.2.2.2 (ix (v3 + 1)))]) (st := [tI x42]) cl_12 dL_law_521 mi_X12_add t_1745 t_1746 t_1747 rfl rfl (Nat.le_of_ble_eq_true rfl) (by omega) ⟨by omega, by omega⟩ ⟨rfl, rfl⟩ (s_X12_add (by omega) hm) (fun x44 h45 hm => ?_)
        refine r_icmp_eq (tgt := 1118) dL_law_524 rfl (fun hc => ?_) (fun hc => ?_)
        · replace hm := hm.1 hc
          refine r_keep (L' := [some (tS 300), some (tR 11 0 (some 0)), some (tR 12 0 (some 51)), some (tI v3)]) [true, true, true, true] rfl ?_
          refine r_wide (cu' := cu + 5) (su' := su + 400) (by omega) (by omega) ?_
          exact s_L_law_1118 hd hk18 hm
        · replace hm := hm.2 hc
          refine r_iconst (v := 0) dL_law_527 rfl ?_
          exact r_bret dL_law_528 rfl ⟨by omega, by omega⟩ (by unfold bz; decide) ⟨_, rfl, hm⟩
      replace hm := hm.2 hc10
      by_cases hc11 : ((G.2.2.2.2.2.2 (ix v3)) &&& 31) = 11
      · refine r_tableIn (tgt := 529) (off := 496) dL_law_33 (by rw [hc11]; decide) (by rw [hc11]; decide) (by rw [hc11]; rfl) rfl ?_
        replace hm := hm.1 hc11
        refine r_aload_n dL_law_529 rfl rfl ?_
        refine r_callVI (d' := d - 1) (as := []) (st := []) cl_11 dL_law_530 mi_X11_clear t_894 t_895 t_896 rfl rfl (Nat.le_of_ble_eq_true rfl) (by omega) ⟨by omega, by omega⟩ ⟨rfl, rfl⟩ (s_X11_clear (by omega) hm) (fun x46 h47 hm => ?_)
        refine r_aload_n dL_law_533 rfl rfl ?_
        refine r_callVI (d' := d - 1) (as := []) (st := [tI x46]) cl_12 dL_law_534 mi_X12_clear t_1749 t_1750 t_1751 rfl rfl (Nat.le_of_ble_eq_true rfl) (by omega) ⟨by omega, by omega⟩ ⟨rfl, rfl⟩ (s_X12_clear (by omega) hm) (fun x48 h49 hm => ?_)
        refine r_icmp_eq (tgt := 1118) dL_law_537 rfl (fun hc => ?_) (fun hc => ?_)
        · replace hm := hm.1 hc
          refine r_keep (L' := [some (tS 300), some (tR 11 0 (some 0)), some (tR 12 0 (some 51)), some (tI v3)]) [true, true, true, true] rfl ?_
          refine r_wide (cu' := cu + 5) (su' := su + 400) (by omega) (by omega) ?_
          exact s_L_law_1118 hd hk18 hm
        · replace hm := hm.2 hc
          refine r_iconst (v := 0) dL_law_540 rfl ?_
          exact r_bret dL_law_541 rfl ⟨by omega, by omega⟩ (by unfold bz; decide) ⟨_, rfl, hm⟩
      replace hm := hm.2 hc11
      by_cases hc12 : ((G.2.2.2.2.2.2 (ix v3)) &&& 31) = 12
      · refine r_tableIn (tgt := 542) (off := 509) dL_law_33 (by rw [hc12]; decide) (by rw [hc12]; decide) (by rw [hc12]; rfl) rfl ?_
        replace hm := hm.1 hc12
        refine r_aload_n dL_law_542 rfl rfl ?_
        refine r_aload_nS dL_law_543 rfl rfl ?_
        refine r_iload_n dL_law_544 rfl rfl ?_
        refine r_iconst (v := 1) dL_law_545 rfl ?_
        refine r_iadd dL_law_546 ?_
        refine r_sld dL_law_547 hm.1 ?_
        replace hm := hm.2
        refine r_aload_nS dL_law_548 rfl rfl ?_
        refine r_iload_n dL_law_549 rfl rfl ?_
        refine r_iconst (v := 2) dL_law_550 rfl ?_
        refine r_iadd dL_law_551 ?_
        refine r_sld dL_law_552 hm.1 ?_
        replace hm := hm.2
        refine r_aload_nS dL_law_553 rfl rfl ?_
        refine r_iload_n dL_law_554 rfl rfl ?_
        refine r_iconst (v := 3) dL_law_555 rfl ?_
        refine r_iadd dL_law_556 ?_
        refine r_sld dL_law_557 hm.1 ?_
        replace hm := hm.2
        refine r_callVJ (d' := d - 1) (as := [tI (G.2.2.2.2.2.2 (ix (v3 + 1))), tI (G.2.2.2.2.2.2 (ix (v3 + 2))), tI (G.2.2.2.2.2.2 (ix (v3 + 3)))]) (st := []) cl_11 dL_law_558 mi_X11_passed t_898 t_899 t_900 rfl rfl (Nat.le_of_ble_eq_true rfl) (by omega) ⟨by omega, by omega⟩ ⟨rfl, rfl⟩ (s_X11_passed (by omega) hm) (fun x50 h51 hm => ?_)
        refine r_aload_n dL_law_561 rfl rfl ?_
        refine r_aload_nS dL_law_562 rfl rfl ?_
        refine r_iload_n dL_law_563 rfl rfl ?_
        refine r_iconst (v := 1) dL_law_564 rfl ?_
        refine r_iadd dL_law_565 ?_
        refine r_sld dL_law_566 hm.1 ?_
        replace hm := hm.2
        refine r_aload_nS dL_law_567 rfl rfl ?_
        refine r_iload_n dL_law_568 rfl rfl ?_
        refine r_iconst (v := 2) dL_law_569 rfl ?_
        refine r_iadd dL_law_570 ?_
        refine r_sld dL_law_571 hm.1 ?_
        replace hm := hm.2
        refine r_aload_nS dL_law_572 rfl rfl ?_
        refine r_iload_n dL_law_573 rfl rfl ?_
        refine r_iconst (v := 3) dL_law_574 rfl ?_
        refine r_iadd dL_law_575 ?_
        refine r_sld dL_law_576 hm.1 ?_
        replace hm := hm.2
        refine r_callVJ (d' := d - 1) (as := [tI (G.2.2.2.2.2.2 (ix (v3 + 1))), tI (G.2.2.2.2.2.2 (ix (v3 + 2))), tI (G.2.2.2.2.2.2 (ix (v3 + 3)))]) (st := [tJ x50]) cl_12 dL_law_577 mi_X12_passed t_1753 t_1754 t_1755 rfl rfl (Nat.le_of_ble_eq_true rfl) (by omega) ⟨by omega, by omega⟩ ⟨rfl, rfl⟩ (s_X12_passed (by omega) hm) (fun x52 h53 hm => ?_)
        refine r_lcmp dL_law_580 ?_
        refine r_if_eq (tgt := 1118) dL_law_581 rfl (fun hc => ?_) (fun hc => ?_)
        · replace hm := hm.1 hc
          refine r_keep (L' := [some (tS 300), some (tR 11 0 (some 0)), some (tR 12 0 (some 51)), some (tI v3)]) [true, true, true, true] rfl ?_
          refine r_wide (cu' := cu + 5) (su' := su + 400) (by omega) (by omega) ?_
          exact s_L_law_1118 hd hk18 hm
        · replace hm := hm.2 hc
          refine r_iconst (v := 0) dL_law_584 rfl ?_
          exact r_bret dL_law_585 rfl ⟨by omega, by omega⟩ (by unfold bz; decide) ⟨_, rfl, hm⟩
      replace hm := hm.2 hc12
      by_cases hc13 : ((G.2.2.2.2.2.2 (ix v3)) &&& 31) = 13
      · refine r_tableIn (tgt := 586) (off := 553) dL_law_33 (by rw [hc13]; decide) (by rw [hc13]; decide) (by rw [hc13]; rfl) rfl ?_
        replace hm := hm.1 hc13
        refine r_aload_n dL_law_586 rfl rfl ?_
        refine r_aload_nS dL_law_587 rfl rfl ?_
        refine r_iload_n dL_law_588 rfl rfl ?_
        refine r_iconst (v := 1) dL_law_589 rfl ?_
        refine r_iadd dL_law_590 ?_
        refine r_sld dL_law_591 hm.1 ?_
        replace hm := hm.2
        refine r_aload_nS dL_law_592 rfl rfl ?_
        refine r_iload_n dL_law_593 rfl rfl ?_
        refine r_iconst (v := 2) dL_law_594 rfl ?_
        refine r_iadd dL_law_595 ?_
        refine r_sld dL_law_596 hm.1 ?_
        replace hm := hm.2
        refine r_aload_nS dL_law_597 rfl rfl ?_
        refine r_iload_n dL_law_598 rfl rfl ?_
        refine r_iconst (v := 3) dL_law_599 rfl ?_
        refine r_iadd dL_law_600 ?_
        refine r_sld dL_law_601 hm.1 ?_
        replace hm := hm.2
        refine r_aload_nS dL_law_602 rfl rfl ?_
        refine r_iload_n dL_law_603 rfl rfl ?_
        refine r_iconst (v := 4) dL_law_604 rfl ?_
        refine r_iadd dL_law_605 ?_
        refine r_sld dL_law_606 hm.1 ?_
        replace hm := hm.2
        refine r_callVJ (d' := d - 1) (as := [tI (G.2.2.2.2.2.2 (ix (v3 + 1))), tI (G.2.2.2.2.2.2 (ix (v3 + 2))), tI (G.2.2.2.2.2.2 (ix (v3 + 3))), tI (G.2.2.2.2.2.2 (ix (v3 + 4)))]) (st := []) cl_11 dL_law_607 mi_X11_net t_928 t_929 t_930 rfl rfl (Nat.le_of_ble_eq_true rfl) (by omega) ⟨by omega, by omega⟩ ⟨rfl, rfl⟩ (s_X11_net (by omega) hm) (fun x54 h55 hm => ?_)
        refine r_aload_n dL_law_610 rfl rfl ?_
        refine r_aload_nS dL_law_611 rfl rfl ?_
        refine r_iload_n dL_law_612 rfl rfl ?_
        refine r_iconst (v := 1) dL_law_613 rfl ?_
        refine r_iadd dL_law_614 ?_
        refine r_sld dL_law_615 hm.1 ?_
        replace hm := hm.2
        refine r_aload_nS dL_law_616 rfl rfl ?_
        refine r_iload_n dL_law_617 rfl rfl ?_
        refine r_iconst (v := 2) dL_law_618 rfl ?_
        refine r_iadd dL_law_619 ?_
        refine r_sld dL_law_620 hm.1 ?_
        replace hm := hm.2
        refine r_aload_nS dL_law_621 rfl rfl ?_
        refine r_iload_n dL_law_622 rfl rfl ?_
        refine r_iconst (v := 3) dL_law_623 rfl ?_
        refine r_iadd dL_law_624 ?_
        refine r_sld dL_law_625 hm.1 ?_
        replace hm := hm.2
        refine r_aload_nS dL_law_626 rfl rfl ?_
        refine r_iload_n dL_law_627 rfl rfl ?_
        refine r_iconst (v := 4) dL_law_628 rfl ?_
        refine r_iadd dL_law_629 ?_
        refine r_sld dL_law_630 hm.1 ?_
        replace hm := hm.2
        refine r_callVJ (d' := d - 1) (as := [tI (G.2.2.2.2.2.2 (ix (v3 + 1))), tI (G.2.2.2.2.2.2 (ix (v3 + 2))), tI (G.2.2.2.2.2.2 (ix (v3 + 3))), tI (G.2.2.2.2.2.2 (ix (v3 + 4)))]) (st := [tJ x54]) cl_12 dL_law_631 mi_X12_net t_1785 t_1786 t_1787 rfl rfl (Nat.le_of_ble_eq_true rfl) (by omega) ⟨by omega, by omega⟩ ⟨rfl, rfl⟩ (s_X12_net (by omega) hm) (fun x56 h57 hm => ?_)
        refine r_lcmp dL_law_634 ?_
        refine r_if_eq (tgt := 1118) dL_law_635 rfl (fun hc => ?_) (fun hc => ?_)
        · replace hm := hm.1 hc
          refine r_keep (L' := [some (tS 300), some (tR 11 0 (some 0)), some (tR 12 0 (some 51)), some (tI v3)]) [true, true, true, true] rfl ?_
          refine r_wide (cu' := cu + 5) (su' := su + 400) (by omega) (by omega) ?_
          exact s_L_law_1118 hd hk18 hm
        · replace hm := hm.2 hc
          refine r_iconst (v := 0) dL_law_638 rfl ?_
          exact r_bret dL_law_639 rfl ⟨by omega, by omega⟩ (by unfold bz; decide) ⟨_, rfl, hm⟩
      replace hm := hm.2 hc13
      by_cases hc14 : ((G.2.2.2.2.2.2 (ix v3)) &&& 31) = 14
      · refine r_tableIn (tgt := 640) (off := 607) dL_law_33 (by rw [hc14]; decide) (by rw [hc14]; decide) (by rw [hc14]; rfl) rfl ?_
        replace hm := hm.1 hc14
        refine r_aload_n dL_law_640 rfl rfl ?_
        refine r_callVI (d' := d - 1) (as := []) (st := []) cl_11 dL_law_641 mi_X11_codes t_944 t_945 t_946 rfl rfl (Nat.le_of_ble_eq_true rfl) (by omega) ⟨by omega, by omega⟩ ⟨rfl, rfl⟩ (s_X11_codes (by omega) hm) (fun x58 h59 hm => ?_)
        refine r_aload_n dL_law_644 rfl rfl ?_
        refine r_callVI (d' := d - 1) (as := []) (st := [tI x58]) cl_12 dL_law_645 mi_X12_codes t_1798 t_1799 t_1800 rfl rfl (Nat.le_of_ble_eq_true rfl) (by omega) ⟨by omega, by omega⟩ ⟨rfl, rfl⟩ (s_X12_codes (by omega) hm) (fun x60 h61 hm => ?_)
        refine r_icmp_eq (tgt := 1118) dL_law_648 rfl (fun hc => ?_) (fun hc => ?_)
        · replace hm := hm.1 hc
          refine r_keep (L' := [some (tS 300), some (tR 11 0 (some 0)), some (tR 12 0 (some 51)), some (tI v3)]) [true, true, true, true] rfl ?_
          refine r_wide (cu' := cu + 5) (su' := su + 400) (by omega) (by omega) ?_
          exact s_L_law_1118 hd hk18 hm
        · replace hm := hm.2 hc
          refine r_iconst (v := 0) dL_law_651 rfl ?_
          exact r_bret dL_law_652 rfl ⟨by omega, by omega⟩ (by unfold bz; decide) ⟨_, rfl, hm⟩
      replace hm := hm.2 hc14
      by_cases hc15 : ((G.2.2.2.2.2.2 (ix v3)) &&& 31) = 15
      · refine r_tableIn (tgt := 653) (off := 620) dL_law_33 (by rw [hc15]; decide) (by rw [hc15]; decide) (by rw [hc15]; rfl) rfl ?_
        replace hm := hm.1 hc15
        refine r_aload_n dL_law_653 rfl rfl ?_
        refine r_aload_nS dL_law_654 rfl rfl ?_
        refine r_iload_n dL_law_655 rfl rfl ?_
        refine r_iconst (v := 1) dL_law_656 rfl ?_
        refine r_iadd dL_law_657 ?_
        refine r_sld dL_law_658 hm.1 ?_
        replace hm := hm.2
        refine r_aload_nS dL_law_659 rfl rfl ?_
        refine r_iload_n dL_law_660 rfl rfl ?_
        refine r_iconst (v := 2) dL_law_661 rfl ?_
        refine r_iadd dL_law_662 ?_
        refine r_sld dL_law_663 hm.1 ?_
        replace hm := hm.2
        refine r_callVI (d' := d - 1) (as := [tI (G.2.2.2.2.2.2 (ix (v3 + 1))), tI (G.2.2.2.2.2.2 (ix (v3 + 2)))]) (st := []) cl_11 dL_law_664 mi_X11_lends t_961 t_962 t_963 rfl rfl (Nat.le_of_ble_eq_true rfl) (by omega) ⟨by omega, by omega⟩ ⟨rfl, rfl⟩ (s_X11_lends (by omega) hm) (fun x62 h63 hm => ?_)
        refine r_aload_n dL_law_667 rfl rfl ?_
        refine r_aload_nS dL_law_668 rfl rfl ?_
        refine r_iload_n dL_law_669 rfl rfl ?_
        refine r_iconst (v := 1) dL_law_670 rfl ?_
        refine r_iadd dL_law_671 ?_
        refine r_sld dL_law_672 hm.1 ?_
        replace hm := hm.2
        refine r_aload_nS dL_law_673 rfl rfl ?_
        refine r_iload_n dL_law_674 rfl rfl ?_
        refine r_iconst (v := 2) dL_law_675 rfl ?_
        refine r_iadd dL_law_676 ?_
        refine r_sld dL_law_677 hm.1 ?_
        replace hm := hm.2
        refine r_callVI (d' := d - 1) (as := [tI (G.2.2.2.2.2.2 (ix (v3 + 1))), tI (G.2.2.2.2.2.2 (ix (v3 + 2)))]) (st := [tI x62]) cl_12 dL_law_678 mi_X12_lends t_1813 t_1814 t_1815 rfl rfl (Nat.le_of_ble_eq_true rfl) (by omega) ⟨by omega, by omega⟩ ⟨rfl, rfl⟩ (s_X12_lends (by omega) hm) (fun x64 h65 hm => ?_)
        refine r_icmp_eq (tgt := 1118) dL_law_681 rfl (fun hc => ?_) (fun hc => ?_)
        · replace hm := hm.1 hc
          refine r_keep (L' := [some (tS 300), some (tR 11 0 (some 0)), some (tR 12 0 (some 51)), some (tI v3)]) [true, true, true, true] rfl ?_
          refine r_wide (cu' := cu + 5) (su' := su + 400) (by omega) (by omega) ?_
          exact s_L_law_1118 hd hk18 hm
        · replace hm := hm.2 hc
          refine r_iconst (v := 0) dL_law_684 rfl ?_
          exact r_bret dL_law_685 rfl ⟨by omega, by omega⟩ (by unfold bz; decide) ⟨_, rfl, hm⟩
      replace hm := hm.2 hc15
      by_cases hc16 : ((G.2.2.2.2.2.2 (ix v3)) &&& 31) = 16
      · refine r_tableIn (tgt := 686) (off := 653) dL_law_33 (by rw [hc16]; decide) (by rw [hc16]; decide) (by rw [hc16]; rfl) rfl ?_
        replace hm := hm.1 hc16
        refine r_aload_n dL_law_686 rfl rfl ?_
        refine r_aload_nS dL_law_687 rfl rfl ?_
        refine r_iload_n dL_law_688 rfl rfl ?_
        refine r_iconst (v := 1) dL_law_689 rfl ?_
        refine r_iadd dL_law_690 ?_
        refine r_sld dL_law_691 hm.1 ?_
        replace hm := hm.2
        refine r_aload_nS dL_law_692 rfl rfl ?_
        refine r_iload_n dL_law_693 rfl rfl ?_
        refine r_iconst (v := 2) dL_law_694 rfl ?_
        refine r_iadd dL_law_695 ?_
        refine r_sld dL_law_696 hm.1 ?_
        replace hm := hm.2
        refine r_aload_nS dL_law_697 rfl rfl ?_
        refine r_iload_n dL_law_698 rfl rfl ?_
        refine r_iconst (v := 3) dL_law_699 rfl ?_
        refine r_iadd dL_law_700 ?_
        refine r_sld dL_law_701 hm.1 ?_
        replace hm := hm.2
        refine r_callVJ (d' := d - 1) (as := [tI (G.2.2.2.2.2.2 (ix (v3 + 1))), tI (G.2.2.2.2.2.2 (ix (v3 + 2))), tI (G.2.2.2.2.2.2 (ix (v3 + 3)))]) (st := []) cl_11 dL_law_702 mi_X11_price t_1037 t_1038 t_1039 rfl rfl (Nat.le_of_ble_eq_true rfl) (by omega) ⟨by omega, by omega⟩ ⟨rfl, rfl⟩ (s_X11_price (by omega) hm) (fun x66 h67 hm => ?_)
        refine r_aload_n dL_law_705 rfl rfl ?_
        refine r_aload_nS dL_law_706 rfl rfl ?_
        refine r_iload_n dL_law_707 rfl rfl ?_
        refine r_iconst (v := 1) dL_law_708 rfl ?_
        refine r_iadd dL_law_709 ?_
        refine r_sld dL_law_710 hm.1 ?_
        replace hm := hm.2
        refine r_aload_nS dL_law_711 rfl rfl ?_
        refine r_iload_n dL_law_712 rfl rfl ?_
        refine r_iconst (v := 2) dL_law_713 rfl ?_
        refine r_iadd dL_law_714 ?_
        refine r_sld dL_law_715 hm.1 ?_
        replace hm := hm.2
        refine r_aload_nS dL_law_716 rfl rfl ?_
        refine r_iload_n dL_law_717 rfl rfl ?_
        refine r_iconst (v := 3) dL_law_718 rfl ?_
        refine r_iadd dL_law_719 ?_
        refine r_sld dL_law_720 hm.1 ?_
        replace hm := hm.2
        refine r_callVJ (d' := d - 1) (as := [tI (G.2.2.2.2.2.2 (ix (v3 + 1))), tI (G.2.2.2.2.2.2 (ix (v3 + 2))), tI (G.2.2.2.2.2.2 (ix (v3 + 3)))]) (st := [tJ x66]) cl_12 dL_law_721 mi_X12_price t_1836 t_1837 t_1838 rfl rfl (Nat.le_of_ble_eq_true rfl) (by omega) ⟨by omega, by omega⟩ ⟨rfl, rfl⟩ (s_X12_price (by omega) hm) (fun x68 h69 hm => ?_)
        refine r_lcmp dL_law_724 ?_
        refine r_if_eq (tgt := 1118) dL_law_725 rfl (fun hc => ?_) (fun hc => ?_)
        · replace hm := hm.1 hc
          refine r_keep (L' := [some (tS 300), some (tR 11 0 (some 0)), some (tR 12 0 (some 51)), some (tI v3)]) [true, true, true, true] rfl ?_
          refine r_wide (cu' := cu + 5) (su' := su + 400) (by omega) (by omega) ?_
          exact s_L_law_1118 hd hk18 hm
        · replace hm := hm.2 hc
          refine r_iconst (v := 0) dL_law_728 rfl ?_
          exact r_bret dL_law_729 rfl ⟨by omega, by omega⟩ (by unfold bz; decide) ⟨_, rfl, hm⟩
      replace hm := hm.2 hc16
      by_cases hc17 : ((G.2.2.2.2.2.2 (ix v3)) &&& 31) = 17
      · refine r_tableIn (tgt := 730) (off := 697) dL_law_33 (by rw [hc17]; decide) (by rw [hc17]; decide) (by rw [hc17]; rfl) rfl ?_
        replace hm := hm.1 hc17
        refine r_aload_n dL_law_730 rfl rfl ?_
        refine r_callVI (d' := d - 1) (as := []) (st := []) cl_11 dL_law_731 mi_X11_loan t_1041 t_1042 t_1043 rfl rfl (Nat.le_of_ble_eq_true rfl) (by omega) ⟨by omega, by omega⟩ ⟨rfl, rfl⟩ (s_X11_loan (by omega) hm) (fun x70 h71 hm => ?_)
        refine r_aload_n dL_law_734 rfl rfl ?_
        refine r_callVI (d' := d - 1) (as := []) (st := [tI x70]) cl_12 dL_law_735 mi_X12_loan t_1850 t_1851 t_1852 rfl rfl (Nat.le_of_ble_eq_true rfl) (by omega) ⟨by omega, by omega⟩ ⟨rfl, rfl⟩ (s_X12_loan (by omega) hm) (fun x72 h73 hm => ?_)
        refine r_icmp_eq (tgt := 1118) dL_law_738 rfl (fun hc => ?_) (fun hc => ?_)
        · replace hm := hm.1 hc
          refine r_keep (L' := [some (tS 300), some (tR 11 0 (some 0)), some (tR 12 0 (some 51)), some (tI v3)]) [true, true, true, true] rfl ?_
          refine r_wide (cu' := cu + 5) (su' := su + 400) (by omega) (by omega) ?_
          exact s_L_law_1118 hd hk18 hm
        · replace hm := hm.2 hc
          refine r_iconst (v := 0) dL_law_741 rfl ?_
          exact r_bret dL_law_742 rfl ⟨by omega, by omega⟩ (by unfold bz; decide) ⟨_, rfl, hm⟩
      replace hm := hm.2 hc17
      by_cases hc18 : ((G.2.2.2.2.2.2 (ix v3)) &&& 31) = 18
      · refine r_tableIn (tgt := 743) (off := 710) dL_law_33 (by rw [hc18]; decide) (by rw [hc18]; decide) (by rw [hc18]; rfl) rfl ?_
        replace hm := hm.1 hc18
        refine r_aload_n dL_law_743 rfl rfl ?_
        refine r_callVJ (d' := d - 1) (as := []) (st := []) cl_11 dL_law_744 mi_X11_step t_1045 t_1046 t_1047 rfl rfl (Nat.le_of_ble_eq_true rfl) (by omega) ⟨by omega, by omega⟩ ⟨rfl, rfl⟩ (s_X11_step (by omega) hm) (fun x74 h75 hm => ?_)
        refine r_aload_n dL_law_747 rfl rfl ?_
        refine r_callVJ (d' := d - 1) (as := []) (st := [tJ x74]) cl_12 dL_law_748 mi_X12_step t_1858 t_1859 t_1860 rfl rfl (Nat.le_of_ble_eq_true rfl) (by omega) ⟨by omega, by omega⟩ ⟨rfl, rfl⟩ (s_X12_step (by omega) hm) (fun x76 h77 hm => ?_)
        refine r_lcmp dL_law_751 ?_
        refine r_if_eq (tgt := 1118) dL_law_752 rfl (fun hc => ?_) (fun hc => ?_)
        · replace hm := hm.1 hc
          refine r_keep (L' := [some (tS 300), some (tR 11 0 (some 0)), some (tR 12 0 (some 51)), some (tI v3)]) [true, true, true, true] rfl ?_
          refine r_wide (cu' := cu + 5) (su' := su + 400) (by omega) (by omega) ?_
          exact s_L_law_1118 hd hk18 hm
        · replace hm := hm.2 hc
          refine r_iconst (v := 0) dL_law_755 rfl ?_
          exact r_bret dL_law_756 rfl ⟨by omega, by omega⟩ (by unfold bz; decide) ⟨_, rfl, hm⟩
      replace hm := hm.2 hc18
      by_cases hc19 : ((G.2.2.2.2.2.2 (ix v3)) &&& 31) = 19
      · refine r_tableIn (tgt := 757) (off := 724) dL_law_33 (by rw [hc19]; decide) (by rw [hc19]; decide) (by rw [hc19]; rfl) rfl ?_
        replace hm := hm.1 hc19
        refine r_aload_n dL_law_757 rfl rfl ?_
        refine r_aload_nS dL_law_758 rfl rfl ?_
        refine r_iload_n dL_law_759 rfl rfl ?_
        refine r_iconst (v := 1) dL_law_760 rfl ?_
        refine r_iadd dL_law_761 ?_
        refine r_sld dL_law_762 hm.1 ?_
        replace hm := hm.2
        refine r_aload_nS dL_law_763 rfl rfl ?_
        refine r_iload_n dL_law_764 rfl rfl ?_
        refine r_iconst (v := 2) dL_law_765 rfl ?_
        refine r_iadd dL_law_766 ?_
        refine r_sld dL_law_767 hm.1 ?_
        replace hm := hm.2
        refine r_callVJ (d' := d - 1) (as := [tI (G.2.2.2.2.2.2 (ix (v3 + 1))), tI (G.2.2.2.2.2.2 (ix (v3 + 2)))]) (st := []) cl_11 dL_law_768 mi_X11_bears t_1049 t_1050 t_1051 rfl rfl (Nat.le_of_ble_eq_true rfl) (by omega) ⟨by omega, by omega⟩ ⟨rfl, rfl⟩ (s_X11_bears (by omega) hm) (fun x78 h79 hm => ?_)
        refine r_aload_n dL_law_771 rfl rfl ?_
        refine r_aload_nS dL_law_772 rfl rfl ?_
        refine r_iload_n dL_law_773 rfl rfl ?_
        refine r_iconst (v := 1) dL_law_774 rfl ?_
        refine r_iadd dL_law_775 ?_
        refine r_sld dL_law_776 hm.1 ?_
        replace hm := hm.2
        refine r_aload_nS dL_law_777 rfl rfl ?_
        refine r_iload_n dL_law_778 rfl rfl ?_
        refine r_iconst (v := 2) dL_law_779 rfl ?_
        refine r_iadd dL_law_780 ?_
        refine r_sld dL_law_781 hm.1 ?_
        replace hm := hm.2
        refine r_callVJ (d' := d - 1) (as := [tI (G.2.2.2.2.2.2 (ix (v3 + 1))), tI (G.2.2.2.2.2.2 (ix (v3 + 2)))]) (st := [tJ x78]) cl_12 dL_law_782 mi_X12_bears t_1862 t_1863 t_1864 rfl rfl (Nat.le_of_ble_eq_true rfl) (by omega) ⟨by omega, by omega⟩ ⟨rfl, rfl⟩ (s_X12_bears (by omega) hm) (fun x80 h81 hm => ?_)
        refine r_lcmp dL_law_785 ?_
        refine r_if_eq (tgt := 1118) dL_law_786 rfl (fun hc => ?_) (fun hc => ?_)
        · replace hm := hm.1 hc
          refine r_keep (L' := [some (tS 300), some (tR 11 0 (some 0)), some (tR 12 0 (some 51)), some (tI v3)]) [true, true, true, true] rfl ?_
          refine r_wide (cu' := cu + 5) (su' := su + 400) (by omega) (by omega) ?_
          exact s_L_law_1118 hd hk18 hm
        · replace hm := hm.2 hc
          refine r_iconst (v := 0) dL_law_789 rfl ?_
          exact r_bret dL_law_790 rfl ⟨by omega, by omega⟩ (by unfold bz; decide) ⟨_, rfl, hm⟩
      replace hm := hm.2 hc19
      by_cases hc20 : ((G.2.2.2.2.2.2 (ix v3)) &&& 31) = 20
      · refine r_tableIn (tgt := 791) (off := 758) dL_law_33 (by rw [hc20]; decide) (by rw [hc20]; decide) (by rw [hc20]; rfl) rfl ?_
        replace hm := hm.1 hc20
        refine r_aload_n dL_law_791 rfl rfl ?_
        refine r_aload_nS dL_law_792 rfl rfl ?_
        refine r_iload_n dL_law_793 rfl rfl ?_
        refine r_iconst (v := 1) dL_law_794 rfl ?_
        refine r_iadd dL_law_795 ?_
        refine r_sld dL_law_796 hm.1 ?_
        replace hm := hm.2
        refine r_aload_nS dL_law_797 rfl rfl ?_
        refine r_iload_n dL_law_798 rfl rfl ?_
        refine r_iconst (v := 2) dL_law_799 rfl ?_
        refine r_iadd dL_law_800 ?_
        refine r_sld dL_law_801 hm.1 ?_
        replace hm := hm.2
        refine r_aload_nS dL_law_802 rfl rfl ?_
        refine r_iload_n dL_law_803 rfl rfl ?_
        refine r_iconst (v := 3) dL_law_804 rfl ?_
        refine r_iadd dL_law_805 ?_
        refine r_sld dL_law_806 hm.1 ?_
        replace hm := hm.2
        refine r_callVJ (d' := d - 1) (as := [tI (G.2.2.2.2.2.2 (ix (v3 + 1))), tI (G.2.2.2.2.2.2 (ix (v3 + 2))), tI (G.2.2.2.2.2.2 (ix (v3 + 3)))]) (st := []) cl_11 dL_law_807 mi_X11_cost t_1053 t_1054 t_1055 rfl rfl (Nat.le_of_ble_eq_true rfl) (by omega) ⟨by omega, by omega⟩ ⟨rfl, rfl⟩ (s_X11_cost (by omega) hm) (fun x82 h83 hm => ?_)
        refine r_aload_n dL_law_810 rfl rfl ?_
        refine r_aload_nS dL_law_811 rfl rfl ?_
        refine r_iload_n dL_law_812 rfl rfl ?_
        refine r_iconst (v := 1) dL_law_813 rfl ?_
        refine r_iadd dL_law_814 ?_
        refine r_sld dL_law_815 hm.1 ?_
        replace hm := hm.2
        refine r_aload_nS dL_law_816 rfl rfl ?_
        refine r_iload_n dL_law_817 rfl rfl ?_
        refine r_iconst (v := 2) dL_law_818 rfl ?_
        refine r_iadd dL_law_819 ?_
        refine r_sld dL_law_820 hm.1 ?_
        replace hm := hm.2
        refine r_aload_nS dL_law_821 rfl rfl ?_
        refine r_iload_n dL_law_822 rfl rfl ?_
        refine r_iconst (v := 3) dL_law_823 rfl ?_
        refine r_iadd dL_law_824 ?_
        refine r_sld dL_law_825 hm.1 ?_
        replace hm := hm.2
        refine r_callVJ (d' := d - 1) (as := [tI (G.2.2.2.2.2.2 (ix (v3 + 1))), tI (G.2.2.2.2.2.2 (ix (v3 + 2))), tI (G.2.2.2.2.2.2 (ix (v3 + 3)))]) (st := [tJ x82]) cl_12 dL_law_826 mi_X12_cost t_1866 t_1867 t_1868 rfl rfl (Nat.le_of_ble_eq_true rfl) (by omega) ⟨by omega, by omega⟩ ⟨rfl, rfl⟩ (s_X12_cost (by omega) hm) (fun x84 h85 hm => ?_)
        refine r_lcmp dL_law_829 ?_
        refine r_if_eq (tgt := 1118) dL_law_830 rfl (fun hc => ?_) (fun hc => ?_)
        · replace hm := hm.1 hc
          refine r_keep (L' := [some (tS 300), some (tR 11 0 (some 0)), some (tR 12 0 (some 51)), some (tI v3)]) [true, true, true, true] rfl ?_
          refine r_wide (cu' := cu + 5) (su' := su + 400) (by omega) (by omega) ?_
          exact s_L_law_1118 hd hk18 hm
        · replace hm := hm.2 hc
          refine r_iconst (v := 0) dL_law_833 rfl ?_
          exact r_bret dL_law_834 rfl ⟨by omega, by omega⟩ (by unfold bz; decide) ⟨_, rfl, hm⟩
      replace hm := hm.2 hc20
      by_cases hc21 : ((G.2.2.2.2.2.2 (ix v3)) &&& 31) = 21
      · refine r_tableIn (tgt := 835) (off := 802) dL_law_33 (by rw [hc21]; decide) (by rw [hc21]; decide) (by rw [hc21]; rfl) rfl ?_
        replace hm := hm.1 hc21
        refine r_aload_n dL_law_835 rfl rfl ?_
        refine r_aload_nS dL_law_836 rfl rfl ?_
        refine r_iload_n dL_law_837 rfl rfl ?_
        refine r_iconst (v := 1) dL_law_838 rfl ?_
        refine r_iadd dL_law_839 ?_
        refine r_sld dL_law_840 hm.1 ?_
        replace hm := hm.2
        refine r_callVI (d' := d - 1) (as := [tI (G.2.2.2.2.2.2 (ix (v3 + 1)))]) (st := []) cl_11 dL_law_841 mi_X11_breach t_1057 t_1058 t_1059 rfl rfl (Nat.le_of_ble_eq_true rfl) (by omega) ⟨by omega, by omega⟩ ⟨rfl, rfl⟩ (s_X11_breach (by omega) hm) (fun x86 h87 hm => ?_)
        refine r_aload_n dL_law_844 rfl rfl ?_
        refine r_aload_nS dL_law_845 rfl rfl ?_
        refine r_iload_n dL_law_846 rfl rfl ?_
        refine r_iconst (v := 1) dL_law_847 rfl ?_
        refine r_iadd dL_law_848 ?_
        refine r_sld dL_law_849 hm.1 ?_
        replace hm := hm.2
        refine r_callVI (d' := d - 1) (as := [tI (G.2.2.2.2.2.2 (ix (v3 + 1)))]) (st := [tI x86]) cl_12 dL_law_850 mi_X12_breach t_1905 t_1906 t_1907 rfl rfl (Nat.le_of_ble_eq_true rfl) (by omega) ⟨by omega, by omega⟩ ⟨rfl, rfl⟩ (s_X12_breach (by omega) hm) (fun x88 h89 hm => ?_)
        refine r_icmp_eq (tgt := 1118) dL_law_853 rfl (fun hc => ?_) (fun hc => ?_)
        · replace hm := hm.1 hc
          refine r_keep (L' := [some (tS 300), some (tR 11 0 (some 0)), some (tR 12 0 (some 51)), some (tI v3)]) [true, true, true, true] rfl ?_
          refine r_wide (cu' := cu + 5) (su' := su + 400) (by omega) (by omega) ?_
          exact s_L_law_1118 hd hk18 hm
        · replace hm := hm.2 hc
          refine r_iconst (v := 0) dL_law_856 rfl ?_
          exact r_bret dL_law_857 rfl ⟨by omega, by omega⟩ (by unfold bz; decide) ⟨_, rfl, hm⟩
      replace hm := hm.2 hc21
      by_cases hc22 : ((G.2.2.2.2.2.2 (ix v3)) &&& 31) = 22
      · refine r_tableIn (tgt := 858) (off := 825) dL_law_33 (by rw [hc22]; decide) (by rw [hc22]; decide) (by rw [hc22]; rfl) rfl ?_
        replace hm := hm.1 hc22
        refine r_aload_n dL_law_858 rfl rfl ?_
        refine r_aload_nS dL_law_859 rfl rfl ?_
        refine r_iload_n dL_law_860 rfl rfl ?_
        refine r_iconst (v := 1) dL_law_861 rfl ?_
        refine r_iadd dL_law_862 ?_
        refine r_sld dL_law_863 hm.1 ?_
        replace hm := hm.2
        refine r_callVI (d' := d - 1) (as := [tI (G.2.2.2.2.2.2 (ix (v3 + 1)))]) (st := []) cl_11 dL_law_864 mi_X11_bars t_1098 t_1099 t_1100 rfl rfl (Nat.le_of_ble_eq_true rfl) (by omega) ⟨by omega, by omega⟩ ⟨rfl, rfl⟩ (s_X11_bars (by omega) hm) (fun x90 h91 hm => ?_)
        refine r_aload_n dL_law_867 rfl rfl ?_
        refine r_aload_nS dL_law_868 rfl rfl ?_
        refine r_iload_n dL_law_869 rfl rfl ?_
        refine r_iconst (v := 1) dL_law_870 rfl ?_
        refine r_iadd dL_law_871 ?_
        refine r_sld dL_law_872 hm.1 ?_
        replace hm := hm.2
        refine r_callVI (d' := d - 1) (as := [tI (G.2.2.2.2.2.2 (ix (v3 + 1)))]) (st := [tI x90]) cl_12 dL_law_873 mi_X12_bars t_1929 t_1930 t_1931 rfl rfl (Nat.le_of_ble_eq_true rfl) (by omega) ⟨by omega, by omega⟩ ⟨rfl, rfl⟩ (s_X12_bars (by omega) hm) (fun x92 h93 hm => ?_)
        refine r_icmp_eq (tgt := 1118) dL_law_876 rfl (fun hc => ?_) (fun hc => ?_)
        · replace hm := hm.1 hc
          refine r_keep (L' := [some (tS 300), some (tR 11 0 (some 0)), some (tR 12 0 (some 51)), some (tI v3)]) [true, true, true, true] rfl ?_
          refine r_wide (cu' := cu + 5) (su' := su + 400) (by omega) (by omega) ?_
          exact s_L_law_1118 hd hk18 hm
        · replace hm := hm.2 hc
          refine r_iconst (v := 0) dL_law_879 rfl ?_
          exact r_bret dL_law_880 rfl ⟨by omega, by omega⟩ (by unfold bz; decide) ⟨_, rfl, hm⟩
      replace hm := hm.2 hc22
      by_cases hc23 : ((G.2.2.2.2.2.2 (ix v3)) &&& 31) = 23
      · refine r_tableIn (tgt := 881) (off := 848) dL_law_33 (by rw [hc23]; decide) (by rw [hc23]; decide) (by rw [hc23]; rfl) rfl ?_
        replace hm := hm.1 hc23
        refine r_aload_n dL_law_881 rfl rfl ?_
        refine r_aload_nS dL_law_882 rfl rfl ?_
        refine r_iload_n dL_law_883 rfl rfl ?_
        refine r_iconst (v := 1) dL_law_884 rfl ?_
        refine r_iadd dL_law_885 ?_
        refine r_sld dL_law_886 hm.1 ?_
        replace hm := hm.2
        refine r_callVI (d' := d - 1) (as := [tI (G.2.2.2.2.2.2 (ix (v3 + 1)))]) (st := []) cl_11 dL_law_887 mi_X11_offer t_1102 t_1103 t_1104 rfl rfl (Nat.le_of_ble_eq_true rfl) (by omega) ⟨by omega, by omega⟩ ⟨rfl, rfl⟩ (s_X11_offer (by omega) hm) (fun x94 h95 hm => ?_)
        refine r_aload_n dL_law_890 rfl rfl ?_
        refine r_aload_nS dL_law_891 rfl rfl ?_
        refine r_iload_n dL_law_892 rfl rfl ?_
        refine r_iconst (v := 1) dL_law_893 rfl ?_
        refine r_iadd dL_law_894 ?_
        refine r_sld dL_law_895 hm.1 ?_
        replace hm := hm.2
        refine r_callVI (d' := d - 1) (as := [tI (G.2.2.2.2.2.2 (ix (v3 + 1)))]) (st := [tI x94]) cl_12 dL_law_896 mi_X12_offer t_1937 t_1938 t_1939 rfl rfl (Nat.le_of_ble_eq_true rfl) (by omega) ⟨by omega, by omega⟩ ⟨rfl, rfl⟩ (s_X12_offer (by omega) hm) (fun x96 h97 hm => ?_)
        refine r_icmp_eq (tgt := 1118) dL_law_899 rfl (fun hc => ?_) (fun hc => ?_)
        · replace hm := hm.1 hc
          refine r_keep (L' := [some (tS 300), some (tR 11 0 (some 0)), some (tR 12 0 (some 51)), some (tI v3)]) [true, true, true, true] rfl ?_
          refine r_wide (cu' := cu + 5) (su' := su + 400) (by omega) (by omega) ?_
          exact s_L_law_1118 hd hk18 hm
        · replace hm := hm.2 hc
          refine r_iconst (v := 0) dL_law_902 rfl ?_
          exact r_bret dL_law_903 rfl ⟨by omega, by omega⟩ (by unfold bz; decide) ⟨_, rfl, hm⟩
      replace hm := hm.2 hc23
      by_cases hc24 : ((G.2.2.2.2.2.2 (ix v3)) &&& 31) = 24
      · refine r_tableIn (tgt := 904) (off := 871) dL_law_33 (by rw [hc24]; decide) (by rw [hc24]; decide) (by rw [hc24]; rfl) rfl ?_
        replace hm := hm.1 hc24
        refine r_aload_n dL_law_904 rfl rfl ?_
        refine r_aload_nS dL_law_905 rfl rfl ?_
        refine r_iload_n dL_law_906 rfl rfl ?_
        refine r_iconst (v := 1) dL_law_907 rfl ?_
        refine r_iadd dL_law_908 ?_
        refine r_sld dL_law_909 hm.1 ?_
        replace hm := hm.2
        refine r_aload_nS dL_law_910 rfl rfl ?_
        refine r_iload_n dL_law_911 rfl rfl ?_
        refine r_iconst (v := 2) dL_law_912 rfl ?_
        refine r_iadd dL_law_913 ?_
        refine r_sld dL_law_914 hm.1 ?_
        replace hm := hm.2
        refine r_callVI (d' := d - 1) (as := [tI (G.2.2.2.2.2.2 (ix (v3 + 1))), tI (G.2.2.2.2.2.2 (ix (v3 + 2)))]) (st := []) cl_11 dL_law_915 mi_X11_sly t_1111 t_1112 t_1113 rfl rfl (Nat.le_of_ble_eq_true rfl) (by omega) ⟨by omega, by omega⟩ ⟨rfl, rfl⟩ (s_X11_sly (by omega) hm) (fun x98 h99 hm => ?_)
        refine r_aload_n dL_law_918 rfl rfl ?_
        refine r_aload_nS dL_law_919 rfl rfl ?_
        refine r_iload_n dL_law_920 rfl rfl ?_
        refine r_iconst (v := 1) dL_law_921 rfl ?_
        refine r_iadd dL_law_922 ?_
        refine r_sld dL_law_923 hm.1 ?_
        replace hm := hm.2
        refine r_aload_nS dL_law_924 rfl rfl ?_
        refine r_iload_n dL_law_925 rfl rfl ?_
        refine r_iconst (v := 2) dL_law_926 rfl ?_
        refine r_iadd dL_law_927 ?_
        refine r_sld dL_law_928 hm.1 ?_
        replace hm := hm.2
        refine r_callVI (d' := d - 1) (as := [tI (G.2.2.2.2.2.2 (ix (v3 + 1))), tI (G.2.2.2.2.2.2 (ix (v3 + 2)))]) (st := [tI x98]) cl_12 dL_law_929 mi_X12_sly t_1941 t_1942 t_1943 rfl rfl (Nat.le_of_ble_eq_true rfl) (by omega) ⟨by omega, by omega⟩ ⟨rfl, rfl⟩ (s_X12_sly (by omega) hm) (fun x100 h101 hm => ?_)
        refine r_icmp_eq (tgt := 1118) dL_law_932 rfl (fun hc => ?_) (fun hc => ?_)
        · replace hm := hm.1 hc
          refine r_keep (L' := [some (tS 300), some (tR 11 0 (some 0)), some (tR 12 0 (some 51)), some (tI v3)]) [true, true, true, true] rfl ?_
          refine r_wide (cu' := cu + 5) (su' := su + 400) (by omega) (by omega) ?_
          exact s_L_law_1118 hd hk18 hm
        · replace hm := hm.2 hc
          refine r_iconst (v := 0) dL_law_935 rfl ?_
          exact r_bret dL_law_936 rfl ⟨by omega, by omega⟩ (by unfold bz; decide) ⟨_, rfl, hm⟩
      replace hm := hm.2 hc24
      by_cases hc25 : ((G.2.2.2.2.2.2 (ix v3)) &&& 31) = 25
      · refine r_tableIn (tgt := 937) (off := 904) dL_law_33 (by rw [hc25]; decide) (by rw [hc25]; decide) (by rw [hc25]; rfl) rfl ?_
        replace hm := hm.1 hc25
        refine r_aload_n dL_law_937 rfl rfl ?_
        refine r_callVI (d' := d - 1) (as := []) (st := []) cl_11 dL_law_938 mi_X11_honest t_1172 t_1173 t_1174 rfl rfl (Nat.le_of_ble_eq_true rfl) (by omega) ⟨by omega, by omega⟩ ⟨rfl, rfl⟩ (s_X11_honest (by omega) hm) (fun x102 h103 hm => ?_)
        refine r_aload_n dL_law_941 rfl rfl ?_
        refine r_callVI (d' := d - 1) (as := []) (st := [tI x102]) cl_12 dL_law_942 mi_X12_honest t_1953 t_1954 t_1955 rfl rfl (Nat.le_of_ble_eq_true rfl) (by omega) ⟨by omega, by omega⟩ ⟨rfl, rfl⟩ (s_X12_honest (by omega) hm) (fun x104 h105 hm => ?_)
        refine r_icmp_eq (tgt := 1118) dL_law_945 rfl (fun hc => ?_) (fun hc => ?_)
        · replace hm := hm.1 hc
          refine r_keep (L' := [some (tS 300), some (tR 11 0 (some 0)), some (tR 12 0 (some 51)), some (tI v3)]) [true, true, true, true] rfl ?_
          refine r_wide (cu' := cu + 5) (su' := su + 400) (by omega) (by omega) ?_
          exact s_L_law_1118 hd hk18 hm
        · replace hm := hm.2 hc
          refine r_iconst (v := 0) dL_law_948 rfl ?_
          exact r_bret dL_law_949 rfl ⟨by omega, by omega⟩ (by unfold bz; decide) ⟨_, rfl, hm⟩
      replace hm := hm.2 hc25
      by_cases hc26 : ((G.2.2.2.2.2.2 (ix v3)) &&& 31) = 26
      · refine r_tableIn (tgt := 950) (off := 917) dL_law_33 (by rw [hc26]; decide) (by rw [hc26]; decide) (by rw [hc26]; rfl) rfl ?_
        replace hm := hm.1 hc26
        refine r_aload_n dL_law_950 rfl rfl ?_
        refine r_aload_nS dL_law_951 rfl rfl ?_
        refine r_iload_n dL_law_952 rfl rfl ?_
        refine r_iconst (v := 1) dL_law_953 rfl ?_
        refine r_iadd dL_law_954 ?_
        refine r_sld dL_law_955 hm.1 ?_
        replace hm := hm.2
        refine r_aload_nS dL_law_956 rfl rfl ?_
        refine r_iload_n dL_law_957 rfl rfl ?_
        refine r_iconst (v := 2) dL_law_958 rfl ?_
        refine r_iadd dL_law_959 ?_
        refine r_sld dL_law_960 hm.1 ?_
        replace hm := hm.2
        refine r_callVI (d' := d - 1) (as := [tI (G.2.2.2.2.2.2 (ix (v3 + 1))), tI (G.2.2.2.2.2.2 (ix (v3 + 2)))]) (st := []) cl_11 dL_law_961 mi_X11_innocent t_1181 t_1182 t_1183 rfl rfl (Nat.le_of_ble_eq_true rfl) (by omega) ⟨by omega, by omega⟩ ⟨rfl, rfl⟩ (s_X11_innocent (by omega) hm) (fun x106 h107 hm => ?_)
        refine r_aload_n dL_law_964 rfl rfl ?_
        refine r_aload_nS dL_law_965 rfl rfl ?_
        refine r_iload_n dL_law_966 rfl rfl ?_
        refine r_iconst (v := 1) dL_law_967 rfl ?_
        refine r_iadd dL_law_968 ?_
        refine r_sld dL_law_969 hm.1 ?_
        replace hm := hm.2
        refine r_aload_nS dL_law_970 rfl rfl ?_
        refine r_iload_n dL_law_971 rfl rfl ?_
        refine r_iconst (v := 2) dL_law_972 rfl ?_
        refine r_iadd dL_law_973 ?_
        refine r_sld dL_law_974 hm.1 ?_
        replace hm := hm.2
        refine r_callVI (d' := d - 1) (as := [tI (G.2.2.2.2.2.2 (ix (v3 + 1))), tI (G.2.2.2.2.2.2 (ix (v3 + 2)))]) (st := [tI x106]) cl_12 dL_law_975 mi_X12_innocent t_1957 t_1958 t_1959 rfl rfl (Nat.le_of_ble_eq_true rfl) (by omega) ⟨by omega, by omega⟩ ⟨rfl, rfl⟩ (s_X12_innocent (by omega) hm) (fun x108 h109 hm => ?_)
        refine r_icmp_eq (tgt := 1118) dL_law_978 rfl (fun hc => ?_) (fun hc => ?_)
        · replace hm := hm.1 hc
          refine r_keep (L' := [some (tS 300), some (tR 11 0 (some 0)), some (tR 12 0 (some 51)), some (tI v3)]) [true, true, true, true] rfl ?_
          refine r_wide (cu' := cu + 5) (su' := su + 400) (by omega) (by omega) ?_
          exact s_L_law_1118 hd hk18 hm
        · replace hm := hm.2 hc
          refine r_iconst (v := 0) dL_law_981 rfl ?_
          exact r_bret dL_law_982 rfl ⟨by omega, by omega⟩ (by unfold bz; decide) ⟨_, rfl, hm⟩
      replace hm := hm.2 hc26
      by_cases hc27 : ((G.2.2.2.2.2.2 (ix v3)) &&& 31) = 27
      · refine r_tableIn (tgt := 983) (off := 950) dL_law_33 (by rw [hc27]; decide) (by rw [hc27]; decide) (by rw [hc27]; rfl) rfl ?_
        replace hm := hm.1 hc27
        refine r_aload_n dL_law_983 rfl rfl ?_
        refine r_aload_nS dL_law_984 rfl rfl ?_
        refine r_iload_n dL_law_985 rfl rfl ?_
        refine r_iconst (v := 1) dL_law_986 rfl ?_
        refine r_iadd dL_law_987 ?_
        refine r_sld dL_law_988 hm.1 ?_
        replace hm := hm.2
        refine r_callVI (d' := d - 1) (as := [tI (G.2.2.2.2.2.2 (ix (v3 + 1)))]) (st := []) cl_11 dL_law_989 mi_X11_parts t_1190 t_1191 t_1192 rfl rfl (Nat.le_of_ble_eq_true rfl) (by omega) ⟨by omega, by omega⟩ ⟨rfl, rfl⟩ (s_X11_parts (by omega) hm) (fun x110 h111 hm => ?_)
        refine r_aload_n dL_law_992 rfl rfl ?_
        refine r_aload_nS dL_law_993 rfl rfl ?_
        refine r_iload_n dL_law_994 rfl rfl ?_
        refine r_iconst (v := 1) dL_law_995 rfl ?_
        refine r_iadd dL_law_996 ?_
        refine r_sld dL_law_997 hm.1 ?_
        replace hm := hm.2
        refine r_callVI (d' := d - 1) (as := [tI (G.2.2.2.2.2.2 (ix (v3 + 1)))]) (st := [tI x110]) cl_12 dL_law_998 mi_X12_parts t_1965 t_1966 t_1967 rfl rfl (Nat.le_of_ble_eq_true rfl) (by omega) ⟨by omega, by omega⟩ ⟨rfl, rfl⟩ (s_X12_parts (by omega) hm) (fun x112 h113 hm => ?_)
        refine r_icmp_eq (tgt := 1118) dL_law_1001 rfl (fun hc => ?_) (fun hc => ?_)
        · replace hm := hm.1 hc
          refine r_keep (L' := [some (tS 300), some (tR 11 0 (some 0)), some (tR 12 0 (some 51)), some (tI v3)]) [true, true, true, true] rfl ?_
          refine r_wide (cu' := cu + 5) (su' := su + 400) (by omega) (by omega) ?_
          exact s_L_law_1118 hd hk18 hm
        · replace hm := hm.2 hc
          refine r_iconst (v := 0) dL_law_1004 rfl ?_
          exact r_bret dL_law_1005 rfl ⟨by omega, by omega⟩ (by unfold bz; decide) ⟨_, rfl, hm⟩
      replace hm := hm.2 hc27
      by_cases hc28 : ((G.2.2.2.2.2.2 (ix v3)) &&& 31) = 28
      · refine r_tableIn (tgt := 1006) (off := 973) dL_law_33 (by rw [hc28]; decide) (by rw [hc28]; decide) (by rw [hc28]; rfl) rfl ?_
        replace hm := hm.1 hc28
        refine r_aload_n dL_law_1006 rfl rfl ?_
        refine r_aload_nS dL_law_1007 rfl rfl ?_
        refine r_iload_n dL_law_1008 rfl rfl ?_
        refine r_iconst (v := 1) dL_law_1009 rfl ?_
        refine r_iadd dL_law_1010 ?_
        refine r_sld dL_law_1011 hm.1 ?_
        replace hm := hm.2
        refine r_callVI (d' := d - 1) (as := [tI (G.2.2.2.2.2.2 (ix (v3 + 1)))]) (st := []) cl_11 dL_law_1012 mi_X11_stop t_1199 t_1200 t_1201 rfl rfl (Nat.le_of_ble_eq_true rfl) (by omega) ⟨by omega, by omega⟩ ⟨rfl, rfl⟩ (s_X11_stop (by omega) hm) (fun x114 h115 hm => ?_)
        refine r_aload_n dL_law_1015 rfl rfl ?_
        refine r_aload_nS dL_law_1016 rfl rfl ?_
        refine r_iload_n dL_law_1017 rfl rfl ?_
        refine r_iconst (v := 1) dL_law_1018 rfl ?_
        refine r_iadd dL_law_1019 ?_
        refine r_sld dL_law_1020 hm.1 ?_
        replace hm := hm.2
        refine r_callVI (d' := d - 1) (as := [tI (G.2.2.2.2.2.2 (ix (v3 + 1)))]) (st := [tI x114]) cl_12 dL_law_1021 mi_X12_stop t_1973 t_1974 t_1975 rfl rfl (Nat.le_of_ble_eq_true rfl) (by omega) ⟨by omega, by omega⟩ ⟨rfl, rfl⟩ (s_X12_stop (by omega) hm) (fun x116 h117 hm => ?_)
        refine r_icmp_eq (tgt := 1118) dL_law_1024 rfl (fun hc => ?_) (fun hc => ?_)
        · replace hm := hm.1 hc
          refine r_keep (L' := [some (tS 300), some (tR 11 0 (some 0)), some (tR 12 0 (some 51)), some (tI v3)]) [true, true, true, true] rfl ?_
          refine r_wide (cu' := cu + 5) (su' := su + 400) (by omega) (by omega) ?_
          exact s_L_law_1118 hd hk18 hm
        · replace hm := hm.2 hc
          refine r_iconst (v := 0) dL_law_1027 rfl ?_
          exact r_bret dL_law_1028 rfl ⟨by omega, by omega⟩ (by unfold bz; decide) ⟨_, rfl, hm⟩
      replace hm := hm.2 hc28
      by_cases hc29 : ((G.2.2.2.2.2.2 (ix v3)) &&& 31) = 29
      · refine r_tableIn (tgt := 1029) (off := 996) dL_law_33 (by rw [hc29]; decide) (by rw [hc29]; decide) (by rw [hc29]; rfl) rfl ?_
        replace hm := hm.1 hc29
        refine r_aload_n dL_law_1029 rfl rfl ?_
        refine r_aload_nS dL_law_1030 rfl rfl ?_
        refine r_iload_n dL_law_1031 rfl rfl ?_
        refine r_iconst (v := 1) dL_law_1032 rfl ?_
        refine r_iadd dL_law_1033 ?_
        refine r_sld dL_law_1034 hm.1 ?_
        replace hm := hm.2
        refine r_aload_nS dL_law_1035 rfl rfl ?_
        refine r_iload_n dL_law_1036 rfl rfl ?_
        refine r_iconst (v := 2) dL_law_1037 rfl ?_
        refine r_iadd dL_law_1038 ?_
        refine r_sld dL_law_1039 hm.1 ?_
        replace hm := hm.2
        refine r_callVI (d' := d - 1) (as := [tI (G.2.2.2.2.2.2 (ix (v3 + 1))), tI (G.2.2.2.2.2.2 (ix (v3 + 2)))]) (st := []) cl_11 dL_law_1040 mi_X11_heap t_1223 t_1224 t_1225 rfl rfl (Nat.le_of_ble_eq_true rfl) (by omega) ⟨by omega, by omega⟩ ⟨rfl, rfl⟩ (s_X11_heap (by omega) hm) (fun x118 h119 hm => ?_)
        refine r_aload_n dL_law_1043 rfl rfl ?_
        refine r_aload_nS dL_law_1044 rfl rfl ?_
        refine r_iload_n dL_law_1045 rfl rfl ?_
        refine r_iconst (v := 1) dL_law_1046 rfl ?_
        refine r_iadd dL_law_1047 ?_
        refine r_sld dL_law_1048 hm.1 ?_
        replace hm := hm.2
        refine r_aload_nS dL_law_1049 rfl rfl ?_
        refine r_iload_n dL_law_1050 rfl rfl ?_
        refine r_iconst (v := 2) dL_law_1051 rfl ?_
        refine r_iadd dL_law_1052 ?_
        refine r_sld dL_law_1053 hm.1 ?_
        replace hm := hm.2
        refine r_callVI (d' := d - 1) (as := [tI (G.2.2.2.2.2.2 (ix (v3 + 1))), tI (G.2.2.2.2.2.2 (ix (v3 + 2)))]) (st := [tI x118]) cl_12 dL_law_1054 mi_X12_heap t_1977 t_1978 t_1979 rfl rfl (Nat.le_of_ble_eq_true rfl) (by omega) ⟨by omega, by omega⟩ ⟨rfl, rfl⟩ (s_X12_heap (by omega) hm) (fun x120 h121 hm => ?_)
        refine r_icmp_eq (tgt := 1118) dL_law_1057 rfl (fun hc => ?_) (fun hc => ?_)
        · replace hm := hm.1 hc
          refine r_keep (L' := [some (tS 300), some (tR 11 0 (some 0)), some (tR 12 0 (some 51)), some (tI v3)]) [true, true, true, true] rfl ?_
          refine r_wide (cu' := cu + 5) (su' := su + 400) (by omega) (by omega) ?_
          exact s_L_law_1118 hd hk18 hm
        · replace hm := hm.2 hc
          refine r_iconst (v := 0) dL_law_1060 rfl ?_
          exact r_bret dL_law_1061 rfl ⟨by omega, by omega⟩ (by unfold bz; decide) ⟨_, rfl, hm⟩
      replace hm := hm.2 hc29
      by_cases hc30 : ((G.2.2.2.2.2.2 (ix v3)) &&& 31) = 30
      · refine r_tableIn (tgt := 1062) (off := 1029) dL_law_33 (by rw [hc30]; decide) (by rw [hc30]; decide) (by rw [hc30]; rfl) rfl ?_
        replace hm := hm.1 hc30
        refine r_aload_n dL_law_1062 rfl rfl ?_
        refine r_aload_nS dL_law_1063 rfl rfl ?_
        refine r_iload_n dL_law_1064 rfl rfl ?_
        refine r_iconst (v := 1) dL_law_1065 rfl ?_
        refine r_iadd dL_law_1066 ?_
        refine r_sld dL_law_1067 hm.1 ?_
        replace hm := hm.2
        refine r_aload_nS dL_law_1068 rfl rfl ?_
        refine r_iload_n dL_law_1069 rfl rfl ?_
        refine r_iconst (v := 2) dL_law_1070 rfl ?_
        refine r_iadd dL_law_1071 ?_
        refine r_sld dL_law_1072 hm.1 ?_
        replace hm := hm.2
        refine r_callVI (d' := d - 1) (as := [tI (G.2.2.2.2.2.2 (ix (v3 + 1))), tI (G.2.2.2.2.2.2 (ix (v3 + 2)))]) (st := []) cl_11 dL_law_1073 mi_X11_group t_1248 t_1249 t_1250 rfl rfl (Nat.le_of_ble_eq_true rfl) (by omega) ⟨by omega, by omega⟩ ⟨rfl, rfl⟩ (s_X11_group (by omega) hm) (fun x122 h123 hm => ?_)
        refine r_aload_n dL_law_1076 rfl rfl ?_
        refine r_aload_nS dL_law_1077 rfl rfl ?_
        refine r_iload_n dL_law_1078 rfl rfl ?_
        refine r_iconst (v := 1) dL_law_1079 rfl ?_
        refine r_iadd dL_law_1080 ?_
        refine r_sld dL_law_1081 hm.1 ?_
        replace hm := hm.2
        refine r_aload_nS dL_law_1082 rfl rfl ?_
        refine r_iload_n dL_law_1083 rfl rfl ?_
        refine r_iconst (v := 2) dL_law_1084 rfl ?_
        refine r_iadd dL_law_1085 ?_
        refine r_sld dL_law_1086 hm.1 ?_
        replace hm := hm.2
        refine r_callVI (d' := d - 1) (as := [tI (G.2.2.2.2.2.2 (ix (v3 + 1))), tI (G.2.2.2.2.2.2 (ix (v3 + 2)))]) (st := [tI x122]) cl_12 dL_law_1087 mi_X12_group t_1990 t_1991 t_1992 rfl rfl (Nat.le_of_ble_eq_true rfl) (by omega) ⟨by omega, by omega⟩ ⟨rfl, rfl⟩ (s_X12_group (by omega) hm) (fun x124 h125 hm => ?_)
        refine r_icmp_eq (tgt := 1118) dL_law_1090 rfl (fun hc => ?_) (fun hc => ?_)
        · replace hm := hm.1 hc
          refine r_keep (L' := [some (tS 300), some (tR 11 0 (some 0)), some (tR 12 0 (some 51)), some (tI v3)]) [true, true, true, true] rfl ?_
          refine r_wide (cu' := cu + 5) (su' := su + 400) (by omega) (by omega) ?_
          exact s_L_law_1118 hd hk18 hm
        · replace hm := hm.2 hc
          refine r_iconst (v := 0) dL_law_1093 rfl ?_
          exact r_bret dL_law_1094 rfl ⟨by omega, by omega⟩ (by unfold bz; decide) ⟨_, rfl, hm⟩
      replace hm := hm.2 hc30
      by_cases hc31 : ((G.2.2.2.2.2.2 (ix v3)) &&& 31) = 31
      · refine r_tableIn (tgt := 1095) (off := 1062) dL_law_33 (by rw [hc31]; decide) (by rw [hc31]; decide) (by rw [hc31]; rfl) rfl ?_
        replace hm := hm.1 hc31
        refine r_aload_n dL_law_1095 rfl rfl ?_
        refine r_aload_nS dL_law_1096 rfl rfl ?_
        refine r_iload_n dL_law_1097 rfl rfl ?_
        refine r_iconst (v := 1) dL_law_1098 rfl ?_
        refine r_iadd dL_law_1099 ?_
        refine r_sld dL_law_1100 hm.1 ?_
        replace hm := hm.2
        refine r_callVI (d' := d - 1) (as := [tI (G.2.2.2.2.2.2 (ix (v3 + 1)))]) (st := []) cl_11 dL_law_1101 mi_X11_count t_1257 t_1258 t_1259 rfl rfl (Nat.le_of_ble_eq_true rfl) (by omega) ⟨by omega, by omega⟩ ⟨rfl, rfl⟩ (s_X11_count (by omega) hm) (fun x126 h127 hm => ?_)
        refine r_aload_n dL_law_1104 rfl rfl ?_
        refine r_aload_nS dL_law_1105 rfl rfl ?_
        refine r_iload_n dL_law_1106 rfl rfl ?_
        refine r_iconst (v := 1) dL_law_1107 rfl ?_
        refine r_iadd dL_law_1108 ?_
        refine r_sld dL_law_1109 hm.1 ?_
        replace hm := hm.2
        refine r_callVI (d' := d - 1) (as := [tI (G.2.2.2.2.2.2 (ix (v3 + 1)))]) (st := [tI x126]) cl_12 dL_law_1110 mi_X12_count t_1994 t_1995 t_1996 rfl rfl (Nat.le_of_ble_eq_true rfl) (by omega) ⟨by omega, by omega⟩ ⟨rfl, rfl⟩ (s_X12_count (by omega) hm) (fun x128 h129 hm => ?_)
        refine r_icmp_eq (tgt := 1118) dL_law_1113 rfl (fun hc => ?_) (fun hc => ?_)
        · replace hm := hm.1 hc
          refine r_keep (L' := [some (tS 300), some (tR 11 0 (some 0)), some (tR 12 0 (some 51)), some (tI v3)]) [true, true, true, true] rfl ?_
          refine r_wide (cu' := cu + 5) (su' := su + 400) (by omega) (by omega) ?_
          exact s_L_law_1118 hd hk18 hm
        · replace hm := hm.2 hc
          refine r_iconst (v := 0) dL_law_1116 rfl ?_
          exact r_bret dL_law_1117 rfl ⟨by omega, by omega⟩ (by unfold bz; decide) ⟨_, rfl, hm⟩
      replace hm := hm.2 hc31
      refine r_tableOut (tgt := 1118) dL_law_33 (sw_out (n := 32) (fun k hk => by rcases (show k = 0 ∨ k = 1 ∨ k = 2 ∨ k = 3 ∨ k = 4 ∨ k = 5 ∨ k = 6 ∨ k = 7 ∨ k = 8 ∨ k = 9 ∨ k = 10 ∨ k = 11 ∨ k = 12 ∨ k = 13 ∨ k = 14 ∨ k = 15 ∨ k = 16 ∨ k = 17 ∨ k = 18 ∨ k = 19 ∨ k = 20 ∨ k = 21 ∨ k = 22 ∨ k = 23 ∨ k = 24 ∨ k = 25 ∨ k = 26 ∨ k = 27 ∨ k = 28 ∨ k = 29 ∨ k = 30 ∨ k = 31 by omega) with rfl | rfl | rfl | rfl | rfl | rfl | rfl | rfl | rfl | rfl | rfl | rfl | rfl | rfl | rfl | rfl | rfl | rfl | rfl | rfl | rfl | rfl | rfl | rfl | rfl | rfl | rfl | rfl | rfl | rfl | rfl | rfl <;> first | exact hc0 | exact hc1 | exact hc2 | exact hc3 | exact hc4 | exact hc5 | exact hc6 | exact hc7 | exact hc8 | exact hc9 | exact hc10 | exact hc11 | exact hc12 | exact hc13 | exact hc14 | exact hc15 | exact hc16 | exact hc17 | exact hc18 | exact hc19 | exact hc20 | exact hc21 | exact hc22 | exact hc23 | exact hc24 | exact hc25 | exact hc26 | exact hc27 | exact hc28 | exact hc29 | exact hc30 | exact hc31)) rfl ?_
      refine r_keep (L' := [some (tS 300), some (tR 11 0 (some 0)), some (tR 12 0 (some 51)), some (tI v3)]) [true, true, true, true] rfl ?_
      refine r_wide (cu' := cu + 5) (su' := su + 400) (by omega) (by omega) ?_
      exact s_L_law_1118 hd hk18 hm
def m_L_law (G : Cx) (h : Hp) (Q : Int32 → Hp → Prop) : Prop := hN h = 0 ∧ ∀ h130 : Hp, h130 = nw h (31, 0) → m_X11_init 0 h130 (fun h132 => hN h ≤ 0 ∧ sealOK h132 0 11 ∧ ∀ h133 : Hp, h133 = wT h132 0 (11, 0) → hN h133 = 51 ∧ ∀ h134 : Hp, h134 = nw h133 (32, 0) → m_X12_init 51 h134 (fun h136 => hN h ≤ 51 ∧ sealOK h136 51 12 ∧ ∀ h137 : Hp, h137 = wT h136 51 (12, 0) → m_L_law_18 G 513 Q 0 h137))
set_option maxHeartbeats 8000000 in
set_option maxRecDepth 100000 in
theorem s_L_law {l : Launch} {G : Cx} {nm : String} {d : Nat} (hd : 182 ≤ d) {h : Hp} {Q : Int32 → Hp → Prop} (hm : m_L_law G h Q) : Rn l G d 600000 7302250 (MLw nm) h (qI Q) 0 [some (tS 300)] [] h 0 0 := by
  unfold m_L_law at hm
  obtain ⟨e_a, hm⟩ := hm
  refine r_new cl_11 dL_law_0 t_23 (N := 18) rfl t_24 t_1 ⟨by decide, by decide⟩ ?_
  refine r_nmA (fun a_ e_ h130 e_h130 => ?_)
  obtain rfl : a_ = 0 := e_.trans e_a
  replace hm := hm h130 e_h130
  refine r_dup dL_law_3 cv_cat1R ?_
  refine r_callIU (d' := d - 1) (ci := 11) (as := []) (st := [tR 31 0 (some 0)]) (mc' := 50) (ms' := 8088) dL_law_4 mi_X11_init rfl t_25 t_26 rfl rfl rfl (Nat.le_of_ble_eq_true rfl) (by omega) ⟨by decide, by decide⟩ ⟨rfl, rfl⟩ (s_X11_init (by omega) hm) (fun h132 hm => ?_)
  obtain ⟨hz, hs, hm⟩ := hm
  refine r_seal (by decide) hz hs (by simp [noK]) (by simp) ?_
  refine r_nmH (fun h133 e_h133 => ?_)
  replace hm := hm h133 e_h133
  refine r_astore_n (L' := [some (tS 300), some (tR 11 0 (some 0))]) dL_law_7 rfl (by show _ < 4; decide) rfl ?_
  obtain ⟨e_a, hm⟩ := hm
  refine r_new cl_12 dL_law_8 t_1266 (N := 93) rfl t_1267 t_11 ⟨by decide, by decide⟩ ?_
  refine r_nmA (fun a_ e_ h134 e_h134 => ?_)
  obtain rfl : a_ = 51 := e_.trans e_a
  replace hm := hm h134 e_h134
  refine r_dup dL_law_11 cv_cat1R ?_
  refine r_callIU (d' := d - 1) (ci := 12) (as := []) (st := [tR 32 0 (some 51)]) (mc' := 56) (ms' := 37158) dL_law_12 mi_X12_init rfl t_1268 t_1269 rfl rfl rfl (Nat.le_of_ble_eq_true rfl) (by omega) ⟨by decide, by decide⟩ ⟨rfl, rfl⟩ (s_X12_init (by omega) hm) (fun h136 hm => ?_)
  obtain ⟨hz, hs, hm⟩ := hm
  refine r_seal (by decide) hz hs (by simp [noK]) (by simp) ?_
  refine r_nmH (fun h137 e_h137 => ?_)
  replace hm := hm h137 e_h137
  refine r_astore_n (L' := [some (tS 300), some (tR 11 0 (some 0)), some (tR 12 0 (some 51))]) dL_law_15 rfl (by show _ < 4; decide) rfl ?_
  refine r_iconst (v := 0) dL_law_16 rfl ?_
  refine r_istore_n (L' := [some (tS 300), some (tR 11 0 (some 0)), some (tR 12 0 (some 51)), some (tI 0)]) dL_law_17 rfl (by show _ < 4; decide) rfl ?_
  refine r_keep (L' := [some (tS 300), some (tR 11 0 (some 0)), some (tR 12 0 (some 51)), some (tI 0)]) [true, true, true, true] rfl ?_
  exact s_L_law_18 hd ⟨by decide, by decide⟩ hm
