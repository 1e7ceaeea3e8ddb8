/-! THE LAW: call by call -/
theorem lgc_self (a : Int64) : lg_cmp a a = 0 := by
  unfold lg_cmp
  simp
def LI (x : Ab) (da : Nat → Nat) (h : Hp) : Prop := InvC x da h ∧ InvR x h ∧ OkA x ∧ OkF x ∧ OkM x
theorem LI.nx {x x' : Ab} {da : Nat → Nat} {h : Hp} (K : OkA x) (F : OkF x) (M : OkM x) (e : aD x' = aD x) (I : InvC x' da h) (R : InvR x' h) : LI x' da h := by
  refine ⟨I, R, ⟨?_, fun k hk => (R.1 k hk).2⟩, ?_, ?_⟩
  · have := K.1; rw [← e] at this; exact this
  · unfold OkF at F ⊢; rw [e]; exact F
  · unfold OkM at M ⊢; rw [e]; exact M
theorem dD_Family (x : Ab) (v1 v2 : Int32) : aD (nxFamily x v1 v2) = aD x := by
  unfold nxFamily
  repeat (first | rfl | split)
theorem dD_Feed (x : Ab) (a b c d e : Int32) : aD (nxFeed x a b c d e) = aD x := by
  unfold nxFeed
  repeat (first | rfl | split)
theorem dD_Add (x : Ab) (v1 : Int32) : aD (nxAdd x v1) = aD x := by
  unfold nxAdd
  repeat (first | rfl | split)
theorem dD_Offer (x : Ab) (v1 : Int32) : aD (nxOffer x v1) = aD x := by
  unfold nxOffer
  repeat (first | rfl | split)
theorem dD_Honest (x : Ab) : aD (nxHonest x ) = aD x := by
  unfold nxHonest
  repeat (first | rfl | split)
theorem dD_Law (x : Ab) (v1 : Int32) : aD (nxLaw x v1) = aD x := by
  unfold nxLaw
  repeat (first | rfl | split)
theorem dD_Word (x : Ab) (v1 : Int32) : aD (nxWord x v1) = aD x := by
  unfold nxWord
  repeat (first | rfl | split)
theorem L6 {L k : Nat} (hL : L ≤ 3072) (hk : k ≤ 3100) : (Int32.ofNat L - 6) < n32 k ↔ L < k + 6 := by
  have e : (Int32.ofNat L - 6 : Int32).toInt = (L : Int) - 6 := by
    rw [show (Int32.ofNat L - 6 : Int32) = Int32.ofNat L - Int32.ofNat 6 from rfl]
    have h1 : (Int32.ofNat L).toInt = (L : Int) := n32_toInt (by omega)
    have h6 : (Int32.ofNat 6).toInt = 6 := rfl
    rw [Int32.toInt_sub, h1, h6]
    exact Int.bmod_eq_of_le (by omega) (by omega)
  rw [Int32.lt_iff_toInt_lt, e, n32_toInt (by omega)]
  omega
set_option maxHeartbeats 4000000 in
set_option maxRecDepth 100000 in
theorem l_loop {G : Cx} (hG : G.2.2.2.2.2.1 ≤ 3072) {Q : Int32 → Hp → Prop} (q1 : ∀ h, Q 1 h) : ∀ (n i : Nat) (x : Ab) (da : Nat → Nat) (h : Hp), n + i = 513 → 6 * i ≤ G.2.2.2.2.2.1 + 5 → LI x da h → m_L_law_18 G n Q (n32 (6 * i)) h := by
  intro n
  induction n with
  | zero => intro i x da h hn hi I; omega
  | succ n ih =>
    intro i x da h hn hi J
    have J0 := J
    obtain ⟨I, R, K, F, M⟩ := J
    have T := R.txs
    rw [m_L_law_18, L6 hG (by omega)]
    refine ⟨fun _ => q1 h, fun z => ⟨vpI (by omega) (by omega), ?_⟩⟩
    have p : ∀ j : Nat, j < 6 → vp_in (n32 (6 * i) + n32 j) G.2.2.2.2.2.1 := fun j hj => by rw [n32_add]; exact vpI (by omega) (by omega)
    have p1 : vp_in (n32 (6 * i) + 1) G.2.2.2.2.2.1 := p 1 (by decide)
    have p2 : vp_in (n32 (6 * i) + 2) G.2.2.2.2.2.1 := p 2 (by decide)
    have p3 : vp_in (n32 (6 * i) + 3) G.2.2.2.2.2.1 := p 3 (by decide)
    have p4 : vp_in (n32 (6 * i) + 4) G.2.2.2.2.2.1 := p 4 (by decide)
    have p5 : vp_in (n32 (6 * i) + 5) G.2.2.2.2.2.1 := p 5 (by decide)
    have nx : ∀ (x' : Ab) (da' : Nat → Nat) (h' : Hp), LI x' da' h' → m_L_law_1118 G (fun (v3 : Int32) (hh : Hp) => m_L_law_18 G n Q v3 hh) Q (n32 (6 * i)) h' := fun x' da' h' I' => by
      unfold m_L_law_1118
      intro x1 e1
      rw [e1, show n32 (6 * i) + 6 = n32 (6 * (i + 1)) from n32_add _ 6]
      exact ih (i + 1) x' da' h' (by omega) (by omega) I'
    have sC : ∀ {h3 h5 : Hp}, InvC x da h3 → fr Scr h3 h5 → InvR x h3 → LI x da h5 := fun I3 f R3 => ⟨I3.same (sameC.ofS f), R3.fr f, K, F, M⟩
    have oC : ∀ {h3 : Hp}, fr Own h h3 → InvC x da h3 ∧ InvR x h3 := fun f => ⟨I.own f, R.sm (sameM.of f Own_M)⟩
    refine ⟨fun _ => ⟨p1, p2, C_family I (fun h3 s3 I3 => ⟨p1, p2, R_family (R.sm s3) (fun h5 f5 R5 => ⟨fun _ => nx _ _ _ (LI.nx K F M (dD_Family x _ _) (I3.same (sameC.of f5)) R5), fun y => absurd (rfl) y⟩)⟩)⟩, fun _ => ?_⟩
    refine ⟨fun _ => ⟨p1, p2, p3, p4, p5, C_feed I (fun h3 s3 I3 => ⟨p1, p2, p3, p4, p5, R_feed (R.sm s3) (fun h5 f5 R5 => ⟨fun _ => nx _ _ _ (LI.nx K F M (dD_Feed x _ _ _ _ _) (I3.same (sameC.of f5)) R5), fun y => absurd (rfl) y⟩)⟩)⟩, fun _ => ?_⟩
    refine ⟨fun _ => ⟨p1, p2, C_deal I (fun h3 da3 s3 I3 => ⟨p1, p2, R_deal (R.sm s3) K (fun h5 f5 R5 _ => ⟨fun _ => nx _ _ _ ⟨I3.same (sameC.of f5), R5, okA_deal K I.2.2.1.2.1, okF_deal F I.2.2.1.2.1, okM_deal M⟩, fun y => absurd (rfl) y⟩)⟩)⟩, fun _ => ?_⟩
    refine ⟨fun _ => ⟨p1, C_law I (fun h3 s3 I3 => ⟨p1, R_law12 (R.sm s3) (fun h5 f5 R5 _ => ⟨fun _ => nx _ _ _ (LI.nx K F M (dD_Law x _) (I3.same (sameC.of f5)) R5), fun y => absurd (rfl) y⟩)⟩)⟩, fun _ => ?_⟩
    refine ⟨fun _ => ⟨p1, C_word I (fun h3 s3 I3 => ⟨p1, R_word12 (R.sm s3) (fun h5 f5 R5 _ => ⟨fun _ => nx _ _ _ (LI.nx K F M (dD_Word x _) (I3.same (sameC.of f5)) R5), fun y => absurd (rfl) y⟩)⟩)⟩, fun _ => ?_⟩
    refine ⟨fun _ => C_fault I (R_fault R ⟨fun _ => nx _ _ _ J0, fun y => absurd (rfl) y⟩), fun _ => ?_⟩
    refine ⟨fun _ => ⟨p1, p2, C_size I K (⟨p1, p2, R_size R K ⟨fun _ => nx _ _ _ J0, fun y => absurd (rfl) y⟩⟩)⟩, fun _ => ?_⟩
    refine ⟨fun _ => ⟨p1, p2, p3, C_leaf I K (⟨p1, p2, p3, R_leaf R K ⟨fun _ => nx _ _ _ J0, fun y => absurd (rfl) y⟩⟩)⟩, fun _ => ?_⟩
    refine ⟨fun _ => ⟨p1, p2, C_plain I (fun hd => ⟨p1, p2, R_plain (hd := hd) R K F (fun h5 f5 => ⟨fun _ => nx _ _ _ (sC I f5 R), fun y => absurd (rfl) y⟩)⟩)⟩, fun _ => ?_⟩
    refine ⟨fun _ => ⟨p1, p2, C_same I K M (fun h3 f3 => ⟨p1, p2, R_same (oC f3).2 K (fun h5 f5 => ⟨fun _ => nx _ _ _ (sC (oC f3).1 f5 (oC f3).2), fun y => absurd (rfl) y⟩)⟩)⟩, fun _ => ?_⟩
    refine ⟨fun _ => ⟨p1, C_add I (fun h3 s3 I3 => ⟨p1, R_add (R.sm s3) (fun h5 f5 R5 => ⟨fun _ => nx _ _ _ (LI.nx K F M (dD_Add x _) (I3.same (sameC.of f5)) R5), fun y => absurd (rfl) y⟩)⟩)⟩, fun _ => ?_⟩
    refine ⟨fun _ => C_clear I (fun h3 s3 I3 => R_clear (R.sm s3) (fun h5 f5 R5 => ⟨fun _ => nx _ _ _ (LI.nx K F M (show aD (stB x []) = aD x from rfl) (I3.same (sameC.of f5)) R5), fun y => absurd (rfl) y⟩)), fun _ => ?_⟩
    refine ⟨fun _ => ⟨p1, p2, p3, C_passed I K (⟨p1, p2, p3, R_passed R K (fun h5 f5 => ⟨fun _ => nx _ _ _ (sC I f5 R), fun y => absurd (lgc_self _) y⟩)⟩)⟩, fun _ => ?_⟩
    refine ⟨fun _ => ⟨p1, p2, p3, p4, C_net I K (⟨p1, p2, p3, p4, R_net R K (fun h5 f5 => ⟨fun _ => nx _ _ _ (sC I f5 R), fun y => absurd (lgc_self _) y⟩)⟩)⟩, fun _ => ?_⟩
    refine ⟨fun _ => C_codes I K (R_codes R K (fun h5 f5 => ⟨fun _ => nx _ _ _ (sC I f5 R), fun y => absurd (rfl) y⟩)), fun _ => ?_⟩
    refine ⟨fun _ => ⟨p1, p2, C_lends I K M (fun h3 s3 I3 => ⟨p1, p2, R_lends (R.sm s3) K (fun h5 f5 => ⟨fun _ => nx _ _ _ (sC I3 f5 (R.sm s3)), fun y => absurd (rfl) y⟩)⟩)⟩, fun _ => ?_⟩
    refine ⟨fun _ => ⟨p1, p2, p3, C_price I K M (fun h3 s3 I3 => ⟨p1, p2, p3, R_price (R.sm s3) K (fun h5 f5 => ⟨fun _ => nx _ _ _ (sC I3 f5 (R.sm s3)), fun y => absurd (lgc_self _) y⟩)⟩)⟩, fun _ => ?_⟩
    refine ⟨fun _ => C_loan I K M (fun h3 s3 I3 => R_loan (R.sm s3) K (fun h5 f5 => ⟨fun _ => nx _ _ _ (sC I3 f5 (R.sm s3)), fun y => absurd (rfl) y⟩)), fun _ => ?_⟩
    refine ⟨fun _ => C_step I K M (fun h3 s3 I3 => R_step (R.sm s3) K (fun h5 f5 => ⟨fun _ => nx _ _ _ (sC I3 f5 (R.sm s3)), fun y => absurd (lgc_self _) y⟩)), fun _ => ?_⟩
    refine ⟨fun _ => ⟨p1, p2, C_bears I K (⟨p1, p2, R_bears R K (fun h5 f5 => ⟨fun _ => nx _ _ _ (sC I f5 R), fun y => absurd (lgc_self _) y⟩)⟩)⟩, fun _ => ?_⟩
    refine ⟨fun _ => ⟨p1, p2, p3, C_cost I K (⟨p1, p2, p3, R_cost R K (fun h5 f5 => ⟨fun _ => nx _ _ _ (sC I f5 R), fun y => absurd (lgc_self _) y⟩)⟩)⟩, fun _ => ?_⟩
    refine ⟨fun _ => ⟨p1, C_breach I K T (fun h3 f3 => ⟨p1, R_breach (oC f3).2 K (fun h5 f5 => ⟨fun _ => nx _ _ _ (sC (oC f3).1 f5 (oC f3).2), fun y => absurd (rfl) y⟩)⟩)⟩, fun _ => ?_⟩
    refine ⟨fun _ => ⟨p1, C_bars I K T (fun h3 f3 => ⟨p1, R_bars (oC f3).2 K (fun h5 f5 => ⟨fun _ => nx _ _ _ (sC (oC f3).1 f5 (oC f3).2), fun y => absurd (rfl) y⟩)⟩)⟩, fun _ => ?_⟩
    refine ⟨fun _ => ⟨p1, C_offer I (fun h3 s3 I3 => ⟨p1, R_offer (R.sm s3) (fun h5 f5 R5 => ⟨fun _ => nx _ _ _ (LI.nx K F M (dD_Offer x _) (I3.same (sameC.of f5)) R5), fun y => absurd (rfl) y⟩)⟩)⟩, fun _ => ?_⟩
    refine ⟨fun _ => ⟨p1, p2, C_sly I K M T (fun h3 s3 I3 => ⟨p1, p2, R_sly (R.sm s3) K (fun h5 f5 => ⟨fun _ => nx _ _ _ (sC I3 f5 (R.sm s3)), fun y => absurd (rfl) y⟩)⟩)⟩, fun _ => ?_⟩
    refine ⟨fun _ => C_honest I (fun h3 s3 I3 => R_honest (R.sm s3) (fun h5 f5 R5 => ⟨fun _ => nx _ _ _ (LI.nx K F M (dD_Honest x) (I3.same (sameC.of f5)) R5), fun y => absurd (rfl) y⟩)), fun _ => ?_⟩
    refine ⟨fun _ => ⟨p1, p2, C_innocent I K M T (fun h3 s3 I3 => ⟨p1, p2, R_innocent (R.sm s3) K (fun h5 f5 => ⟨fun _ => nx _ _ _ (sC I3 f5 (R.sm s3)), fun y => absurd (rfl) y⟩)⟩)⟩, fun _ => ?_⟩
    refine ⟨fun _ => ⟨p1, C_parts I K (fun h3 f3 => ⟨p1, R_parts (oC f3).2 K (fun h5 f5 => ⟨fun _ => nx _ _ _ (sC (oC f3).1 f5 (oC f3).2), fun y => absurd (rfl) y⟩)⟩)⟩, fun _ => ?_⟩
    refine ⟨fun _ => ⟨p1, C_stop I K M T (fun h3 s3 I3 => ⟨p1, R_stop (R.sm s3) K (fun h5 f5 => ⟨fun _ => nx _ _ _ (sC I3 f5 (R.sm s3)), fun y => absurd (rfl) y⟩)⟩)⟩, fun _ => ?_⟩
    refine ⟨fun _ => ⟨p1, p2, C_heap I K (fun h3 f3 => ⟨p1, p2, R_heap (oC f3).2 K (fun h5 f5 => ⟨fun _ => nx _ _ _ (sC (oC f3).1 f5 (oC f3).2), fun y => absurd (rfl) y⟩)⟩)⟩, fun _ => ?_⟩
    refine ⟨fun _ => ⟨p1, p2, C_group I K M (fun h3 s3 I3 => ⟨p1, p2, R_group (R.sm s3) K (fun h5 f5 => ⟨fun _ => nx _ _ _ (sC I3 f5 (R.sm s3)), fun y => absurd (rfl) y⟩)⟩)⟩, fun _ => ?_⟩
    refine ⟨fun _ => ⟨p1, C_count I (⟨p1, R_count R ⟨fun _ => nx _ _ _ J0, fun y => absurd (rfl) y⟩⟩)⟩, fun _ => ?_⟩
    exact nx x da h J0
