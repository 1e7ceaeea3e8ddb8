/-! THE MODEL: net, codes, bears, cost -/
theorem InvR.inB {x : Ab} {h : Hp} (I : InvR x h) : inD x (aB x) := I.2.2.2.2.2.2.2.1.2.2.2.1
theorem InvR.b6 {x : Ab} {h : Hp} (I : InvR x h) : (aB x).length ≤ 6 := I.2.2.2.2.2.2.2.1.2.1
def bR (x : Ab) (c : Nat) : List Rec := bRows (aD x) (aB x) c 0
def ansNet (x : Ab) (v1 v2 v3 v4 : Int32) : Int64 := match argN v1 (nCod (aD x) (aB x)), argN v2 8, argN v3 6, argP v4 10000 with
  | some c, some f, some t, some dd => z64 (netG (aF x) (bR x c) f t dd)
  | _, _, _, _ => -1000000000000
theorem q_code {x : Ab} {l : List Nat} {v : Int32} {h : Hp} {A : Prop} {B : Prop} (I : InvR x h) (K : OkA x) (hin : inD x l) (L : LstIs l h) (k1 : argN v (nCod (aD x) l) = none → A) (k2 : ∀ c, c < nCod (aD x) l → v = n32 c → argN v (nCod (aD x) l) = some c → B) : (v < 0 → A) ∧ (¬ v < 0 → m_X12_codesAtHand h (fun (x3 : Int32) (h4 : Hp) => h4 = h ∧ ((x3 ≤ v → A) ∧ (¬ x3 ≤ v → B)))) := by
  have hN := nCod_le K hin L.2.1
  rcases arg_cases v (nCod (aD x) l) with ⟨e, c⟩ | ⟨a, h1, h2, rfl, e⟩
  · refine ⟨fun _ => k1 e, fun c1 => q_codesN I K hin L ⟨rfl, fun _ => k1 e, fun c2 => ?_⟩⟩
    rcases c with c | ⟨a, g1, g2, rfl⟩
    · exact absurd c c1
    · rw [show 32 * 2 ^ bChs (aD x) l = nCod (aD x) l from rfl, n32_le (by omega) g2] at c2; omega
  · refine ⟨fun c => ?_, fun _ => q_codesN I K hin L ⟨rfl, fun c => ?_, fun _ => k2 a h1 rfl e⟩⟩
    · rw [show (0 : Int32) = n32 0 from rfl, n32_lt (by omega) (by omega)] at c; omega
    · rw [show 32 * 2 ^ bChs (aD x) l = nCod (aD x) l from rfl, n32_le (by omega) h2] at c; omega
/-- the monotone form of a read that changes nothing -/
theorem q_codesQ {h : Hp} {Q Q' : Int32 → Hp → Prop} (k : ∀ v h', Q v h' → Q' v h') : m_X12_codesAtHand h Q → m_X12_codesAtHand h Q' := by
  unfold m_X12_codesAtHand m_X12_choicesAtHand
  rintro ⟨n, hn⟩
  refine ⟨n, ?_⟩
  have key : ∀ (n : Nat) (a b : Int32) (h : Hp), m_X12_choicesAtHand_4 n (fun (x1 : Int32) (h2 : Hp) => Q (32 <<< (x1 &&& 31)) h2) a b h → m_X12_choicesAtHand_4 n (fun (x1 : Int32) (h2 : Hp) => Q' (32 <<< (x1 &&& 31)) h2) a b h := by
    intro n
    induction n with
    | zero => intro a b h q; exact q
    | succ n ih =>
      intro a b h q
      rw [m_X12_choicesAtHand_4] at q ⊢
      exact ⟨fun c => k _ _ (q.1 c), fun c => ⟨(q.2 c).1, (q.2 c).2.1, fun x1 e1 x2 e2 => ih _ _ _ ((q.2 c).2.2 x1 e1 x2 e2)⟩⟩
  exact key n 0 0 h hn
theorem q_code2 {x : Ab} {l : List Nat} {v : Int32} {h : Hp} {A : Hp → Prop} {B : Hp → Prop} (I : InvR x h) (K : OkA x) (hin : inD x l) (L : LstIs l h) (k1 : argN v (nCod (aD x) l) = none → A h) (k2 : ∀ c, c < nCod (aD x) l → v = n32 c → argN v (nCod (aD x) l) = some c → B h) : (v < 0 → A h) ∧ (¬ v < 0 → m_X12_codesAtHand h (fun (x3 : Int32) (h4 : Hp) => (x3 ≤ v → A h4) ∧ (¬ x3 ≤ v → B h4))) := by
  have := q_code (A := A h) (B := B h) I K hin L k1 k2
  exact ⟨this.1, fun c => q_codesQ (fun v' h' q => by obtain ⟨rfl, q⟩ := q; exact q) (this.2 c)⟩
theorem RFam.fr {x : Ab} {h h' : Hp} {S : Nat → Nat → Prop} (R : RFam x h) (f : fr S h h') (hs : ∀ k, ¬ S 52 k) : RFam x h' := fun k hk => by rw [f.I (hs k)]; exact R k hk
/-- by a code: the rows, then a net -/
theorem q_rows {x : Ab} {l : List Nat} {c : Nat} {h : Hp} {Q : Hp → Prop} (I : InvR x h) (K : OkA x) (hin : inD x l) (L : LstIs l h) (hc : c < 2147483648) (k : ∀ h', fr SFl h h' → InvR x h' → LstIs l h' → FlA (nz (bRows (aD x) l c 0)) h' → Q h') : m_X12_passesAll (n32 c) h Q :=
  q_passesAll I K hin L hc (fun h' f F => k h' f (I.fr (f.mono SFl_Scr)) (L.fr f (by unfold SFl; omega) (by unfold SFl; omega)) F)
set_option maxHeartbeats 4000000 in
set_option maxRecDepth 100000 in
theorem R_net {x : Ab} {v1 v2 v3 v4 : Int32} {h : Hp} {Q : Int64 → Hp → Prop} (I : InvR x h) (K : OkA x) (k : ∀ h', fr Scr h h' → Q (ansNet x v1 v2 v3 v4) h') : m_X12_net v1 v2 v3 v4 h Q := by
  unfold m_X12_net
  unfold ansNet at k
  refine q_bundle I (fun h1 f1 L => ?_)
  have I1 := I.fr (f1.mono SLs_Scr)
  replace k := fun h' (f : fr Scr h1 h') => k h' ((f1.mono SLs_Scr).trans f)
  have hN := nCod_le K I.inB I.b6
  refine q_code2 I1 K I.inB L (fun e => ?_) (fun c hc e1 e2 => ?_)
  · rw [e] at k; exact k h1 (fr.rf _ _)
  · rw [e2] at k
    refine q_upto (hi := 7) (by decide) (fun e => ?_) (fun f hf e3 e4 => ?_)
    · rw [e] at k; exact ⟨fun _ => k h1 (fr.rf _ _), fun z => absurd rfl z⟩
    · rw [e4] at k
      refine ⟨fun z => absurd z (by decide), fun _ => ?_⟩
      refine q_upto (hi := 5) (by decide) (fun e => ?_) (fun t ht e5 e6 => ?_)
      · rw [e] at k; exact ⟨fun _ => k h1 (fr.rf _ _), fun z => absurd rfl z⟩
      · rw [e6] at k
        refine ⟨fun z => absurd z (by decide), fun _ => ?_⟩
        subst e1; subst e3; subst e5
        rcases argP_cases v4 10000 (by decide) with ⟨e, q⟩ | ⟨a, h5, rfl, e⟩
        · rw [e] at k
          refine q_within (fun _ => ⟨fun z => absurd rfl z, fun _ => k h1 (fr.rf _ _)⟩) (fun c1 c2 => ?_)
          rcases q with q | ⟨a, g1, g2, rfl⟩
          · exact absurd q c1
          · rw [show (9999 : Int32) = n32 9999 from rfl, n32_lt (by omega) g2] at c2; omega
        · rw [e] at k
          refine q_within (fun q => ?_) (fun c1 c2 => ⟨fun _ => ?_, fun z => absurd z (by decide)⟩)
          · rw [show (9999 : Int32) = n32 9999 from rfl, n_ltpm (by omega) (by omega)] at q
            rcases q with q | q
            · cases a with
              | zero => exact absurd q (by decide)
              | succ a => rw [pmS, show (-1 : Int32) = pm 0 from rfl, n_ltpm (by omega) (by omega)] at q; omega
            · omega
          · refine q_rows I1 K I.inB L (by omega) (fun h2 f2 I2 L2 F2 => ?_)
            exact q_netOf I2.1 F2 (bRows_ok K I.inB).1 (by omega) (by omega) (by omega) (k h2 (f2.mono SFl_Scr))
def ansCodes (x : Ab) : Int32 := if pop (bEvs (aD x) (aB x)) + bChs (aD x) (aB x) ≤ 8 then n32 (2 ^ (pop (bEvs (aD x) (aB x)) + bChs (aD x) (aB x))) else -1
set_option maxHeartbeats 4000000 in
set_option maxRecDepth 100000 in
theorem R_codes {x : Ab} {h : Hp} {Q : Int32 → Hp → Prop} (I : InvR x h) (K : OkA x) (k : ∀ h', fr Scr h h' → Q (ansCodes x) h') : m_X12_codes h Q := by
  unfold m_X12_codes
  unfold ansCodes at k
  refine q_bundle I (fun h1 f1 L => ?_)
  have I1 := I.fr (f1.mono SLs_Scr)
  have hb := bEvs_lt K I.inB
  replace k := k h1 (f1.mono SLs_Scr)
  refine q_looked I1 K I.inB L (fun q => ?_) (fun q => ?_)
  · unfold looked at q
    rw [if_pos q] at k
    refine ⟨fun z => absurd z (by decide), fun _ => ?_⟩
    refine q_events I1 K I.inB L (q_bits (by omega) (q_choices I1 K I.inB L ?_))
    simp (disch := omega) only [lit32, n32_add, shl1]
    exact k
  · unfold looked at q
    rw [if_neg q] at k
    exact ⟨fun _ => k, fun z => absurd rfl z⟩
def ansBears (x : Ab) (v1 v2 : Int32) : Int64 := match argN v1 8, argN v2 5 with
  | some f, some e => z64 (net (aF x) (bR x (2 ^ e)) f 0 - net (aF x) (bR x 0) f 0)
  | _, _ => -1000000000000
set_option maxHeartbeats 4000000 in
set_option maxRecDepth 100000 in
theorem R_bears {x : Ab} {v1 v2 : Int32} {h : Hp} {Q : Int64 → Hp → Prop} (I : InvR x h) (K : OkA x) (k : ∀ h', fr Scr h h' → Q (ansBears x v1 v2) h') : m_X12_bears v1 v2 h Q := by
  unfold m_X12_bears
  unfold ansBears at k
  refine q_bundle I (fun h1 f1 L => ?_)
  have I1 := I.fr (f1.mono SLs_Scr)
  replace k := fun h' (f : fr Scr h1 h') => k h' ((f1.mono SLs_Scr).trans f)
  refine q_upto (hi := 7) (by decide) (fun e => ?_) (fun f hf e3 e4 => ?_)
  · rw [e] at k; exact ⟨fun _ => k h1 (fr.rf _ _), fun z => absurd rfl z⟩
  · rw [e4] at k
    refine ⟨fun z => absurd z (by decide), fun _ => ?_⟩
    refine q_upto (hi := 4) (by decide) (fun e => ?_) (fun t ht e5 e6 => ?_)
    · rw [e] at k; exact ⟨fun z => absurd rfl z, fun _ => k h1 (fr.rf _ _)⟩
    · rw [e6] at k
      dsimp only at k
      subst e3; subst e5
      refine ⟨fun _ => ?_, fun z => absurd z (by decide)⟩
      have hp : 2 ^ t ≤ 2 ^ 4 := pw_le ht
      simp (disch := omega) only [lit32, shl1]
      refine q_rows I1 K I.inB L (by omega) (fun h2 f2 I2 L2 F2 => ?_)
      refine q_netOf (t := 0) (dd := 0) I2.1 F2 (bRows_ok K I.inB).1 (by omega) (by omega) (by omega) ?_
      refine q_rows (c := 0) I2 K I.inB L2 (by omega) (fun h3 f3 I3 L3 F3 => ?_)
      refine q_netOf (t := 0) (dd := 0) I3.1 F3 (bRows_ok K I.inB).1 (by omega) (by omega) (by omega) ?_
      rw [netG0, netG0, z64_sub]
      exact k h3 ((f2.trans f3).mono SFl_Scr)
theorem q_two {v1 v2 : Int32} {h : Hp} {Q : Int32 → Hp → Prop} (k1 : (∀ l b, argN v1 8 = some l → argN v2 8 = some b → l = b) → Q 0 h) (k2 : ∀ l b, l < 8 → b < 8 → l ≠ b → v1 = n32 l → v2 = n32 b → argN v1 8 = some l → argN v2 8 = some b → Q 1 h) : m_X12_areTwo v1 v2 h Q := by
  unfold m_X12_areTwo
  refine q_upto (hi := 7) (by decide) (fun e => ?_) (fun l hl e1 e2 => ?_)
  · exact ⟨fun _ => k1 (fun l b h1 _ => by rw [e] at h1; cases h1), fun z => absurd rfl z⟩
  · refine ⟨fun z => absurd z (by decide), fun _ => ?_⟩
    refine q_upto (hi := 7) (by decide) (fun e => ?_) (fun b hb e3 e4 => ?_)
    · exact ⟨fun _ => k1 (fun l b _ h2 => by rw [e] at h2; cases h2), fun z => absurd rfl z⟩
    · refine ⟨fun z => absurd z (by decide), fun _ => ?_⟩
      by_cases hlb : l = b
      · subst hlb
        refine ⟨fun _ => k1 (fun l' b' h1 h2 => ?_), fun z => absurd (e1.trans e3.symm) z⟩
        rw [e2] at h1; rw [e4] at h2; cases h1; cases h2; rfl
      · refine ⟨fun z => ?_, fun _ => k2 l b (by omega) (by omega) hlb e1 e3 e2 e4⟩
        rw [e1, e3, n32_eq (by omega) (by omega)] at z
        exact absurd z hlb
/-- who has what beside two: all, the most, who (one more) -/
def costS (F : Nat → Nat) (fl : List Rec) (l b : Nat) (s : Int × Int × Nat) (f : Nat) : Int × Int × Nat :=
  if f = l ∨ f = b ∨ net F fl f 0 ≤ 0 then s else (s.1 + net F fl f 0, if s.2.1 < net F fl f 0 then net F fl f 0 else s.2.1, if s.2.1 < net F fl f 0 then f + 1 else s.2.2)
def ansCost (x : Ab) (v1 v2 v3 : Int32) : Int64 := match argN v1 8, argN v2 8, argN v3 2 with
  | some l, some b, some w => if l = b then -1 else if w = 0 then z64 ((List.range 8).foldl (costS (aF x) (bR x 0) l b) (0, 0, 0)).1 else (pm ((List.range 8).foldl (costS (aF x) (bR x 0) l b) (0, 0, 0)).2.2).toInt64
  | _, _, _ => -1
theorem bR_abs {x : Ab} (K : OkA x) {l : List Nat} (hin : inD x l) (hl : l.length ≤ 6) (c bf f t dd : Nat) : -3000000000000 ≤ netG (aF x) (bRows (aD x) l c bf) f t dd ∧ netG (aF x) (bRows (aD x) l c bf) f t dd ≤ 3000000000000 := by
  obtain ⟨h1, h2⟩ := bRows_ok K (l := l) (c := c) (bf := bf) hin
  have := netG_abs (aF x) f t dd h1
  omega
