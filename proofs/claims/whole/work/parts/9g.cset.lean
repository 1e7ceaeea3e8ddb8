/-! THE CLASS: feed, add, clear, offer, family, honest -/
theorem bt_cls (v : Int32) {s : Nat} (hs : s < 32) : ((v.toUInt32 >>> ((n32 s).toUInt32 &&& Int32.toUInt32 31)).toInt32) &&& 255 = n32 ((v.toBitVec.toNat >>> s) % 256) := by
  have e1 : ((n32 s).toUInt32 &&& Int32.toUInt32 31) = UInt32.ofNat s := by
    have key : ∀ t : Fin 32, ((n32 t.val).toUInt32 &&& Int32.toUInt32 31) = UInt32.ofNat t.val := by decide
    exact key ⟨s, hs⟩
  rw [e1]
  have e2 : (v.toUInt32 >>> UInt32.ofNat s).toNat = v.toBitVec.toNat >>> s := by
    rw [UInt32.toNat_shiftRight]
    have key2 : ∀ t : Fin 32, (UInt32.ofNat t.val).toNat % 32 = t.val := by decide
    rw [key2 ⟨s, hs⟩]; rfl
  apply Int32.toBitVec_inj.mp
  rw [Int32.toBitVec_and, n32_bv]
  apply BitVec.eq_of_toNat_eq
  rw [BitVec.toNat_and, BitVec.toNat_ofNat]
  have e3 : ((v.toUInt32 >>> UInt32.ofNat s).toInt32.toBitVec).toNat = v.toBitVec.toNat >>> s := e2
  rw [e3, show ((255 : Int32).toBitVec).toNat = 2 ^ 8 - 1 from rfl, Nat.and_two_pow_sub_one_eq_mod, Nat.mod_eq_of_lt (show (v.toBitVec.toNat >>> s) % 256 < 2 ^ 32 by omega)]
def TpA (L : List Nat) (h : Hp) : Prop := hI h 2 1 = n32 L.length ∧ ∀ k, k < L.length → hI h 3 k = n32 (L.getD k 0)
def STp (a k : Nat) : Prop := a = 3 ∨ a = 2 ∧ k = 1
theorem c_put1 {L : List Nat} {v : Nat} {h : Hp} (T : TpA L h) : TpA (L ++ [v]) (wI (wI h 3 L.length (n32 v)) 2 1 (n32 (L.length + 1))) := by
  refine ⟨?_, fun k hk => ?_⟩
  · rw [hI_wI, if_pos ⟨rfl, rfl⟩, List.length_append]; rfl
  · rw [List.length_append, List.length_singleton] at hk
    rw [hI_wI, if_neg (by omega), hI_wI]
    by_cases q : k = L.length
    · rw [if_pos ⟨rfl, q⟩, q, getD_app_at]
    · rw [if_neg (by omega), getD_app_lt (by omega)]; exact T.2 k (by omega)
theorem c_putStep {L : List Nat} {v : Int32} {s n : Nat} {h : Hp} {Q : Hp → Prop} (T : TpA L h) (hL : L.length < 600) (hs : s < 32) (k : ∀ h', fr STp h h' → TpA (L ++ [(v.toBitVec.toNat >>> s) % 256]) h' → m_X10_putFour_3 n Q v (n32 s + -8) h') : m_X10_putFour_3 (n + 1) Q v (n32 s) h := by
  rw [m_X10_putFour_3, T.1, show (600 : Int32) = n32 600 from rfl, n32_le (by decide) (by omega), n32_ix (by omega), bt_cls v hs]
  refine ⟨fun z => ?_, fun _ => ⟨fun z => absurd z (by omega), fun _ => ⟨vpI hL (by decide), ?_⟩⟩⟩
  · rw [show (0 : Int32) = n32 0 from rfl, n32_lt (by omega) (by decide)] at z; omega
  · unfold m_X10_putFour_43
    intro x1 e1
    rw [e1, hI_wI, if_neg (by omega), T.1, show n32 L.length + 1 = n32 (L.length + 1) from n32_add _ 1]
    exact k _ (fr_wI (fr_wI (fr.rf _ _) _ (Or.inl rfl)) _ (Or.inr ⟨rfl, rfl⟩)) (c_put1 T)
theorem c_put4 {L : List Nat} {v : Int32} {h : Hp} {Q : Hp → Prop} (T : TpA L h) (hL : L.length + 4 ≤ 600) (k : ∀ h', fr STp h h' → TpA (L ++ [btN v 0, btN v 1, btN v 2, btN v 3]) h' → Q h') : m_X10_putFour v h Q := by
  unfold m_X10_putFour
  refine ⟨5, ?_⟩
  rw [show (24 : Int32) = n32 24 from rfl]
  refine c_putStep T (by omega) (by decide) (fun h1 f1 T1 => ?_)
  rw [show n32 24 + -8 = n32 16 from by decide]
  refine c_putStep T1 (by rw [List.length_append, List.length_singleton]; omega) (by decide) (fun h2 f2 T2 => ?_)
  rw [show n32 16 + -8 = n32 8 from by decide]
  refine c_putStep T2 (by simp only [List.length_append, List.length_singleton]; omega) (by decide) (fun h3 f3 T3 => ?_)
  rw [show n32 8 + -8 = n32 0 from by decide]
  refine c_putStep T3 (by simp only [List.length_append, List.length_singleton]; omega) (by decide) (fun h4 f4 T4 => ?_)
  rw [show n32 0 + -8 = (-8 : Int32) from by decide, m_X10_putFour_3]
  refine ⟨fun _ => k h4 (((f1.trans f2).trans f3).trans f4) ?_, fun z => absurd (by decide) z⟩
  simpa [btN] using T4
theorem C_feed {x : Ab} {da : Nat → Nat} {a b c d e : Int32} {h : Hp} {Q : Int32 → Hp → Prop} (I : InvC x da h) (k : ∀ h', sameM h h' → InvC (nxFeed x a b c d e) da h' → Q (ansFeed x) h') : m_X11_feed a b c d e h Q := by
  unfold m_X11_feed
  unfold nxFeed ansFeed at k
  obtain ⟨t1, t2, t3⟩ := I.2.2.2.1
  have T : TpA (aT x) h := ⟨t1, fun j hj => (t3 j hj).1⟩
  rw [t1, show (20 : Int32) = n32 20 from rfl, n32_add, show (600 : Int32) = n32 600 from rfl, n32_le (by omega) (by decide)]
  refine ⟨fun q => ?_, fun q => ?_⟩
  · rw [if_pos q, if_pos q] at k
    refine c_put4 T (by omega) (fun h1 f1 T1 => ?_)
    refine c_put4 T1 (by simp only [List.length_append, List.length_cons, List.length_nil]; omega) (fun h2 f2 T2 => ?_)
    refine c_put4 T2 (by simp only [List.length_append, List.length_cons, List.length_nil]; omega) (fun h3 f3 T3 => ?_)
    refine c_put4 T3 (by simp only [List.length_append, List.length_cons, List.length_nil]; omega) (fun h4 f4 T4 => ?_)
    refine c_put4 T4 (by simp only [List.length_append, List.length_cons, List.length_nil]; omega) (fun h5 f5 T5 => ?_)
    have f := (((f1.trans f2).trans f3).trans f4).trans f5
    have eL : aT x ++ [btN a 0, btN a 1, btN a 2, btN a 3] ++ [btN b 0, btN b 1, btN b 2, btN b 3] ++ [btN c 0, btN c 1, btN c 2, btN c 3] ++ [btN d 0, btN d 1, btN d 2, btN d 3] ++ [btN e 0, btN e 1, btN e 2, btN e 3] = aT x ++ fdL a b c d e := by
      simp [fdL]
    rw [eL] at T5
    have lf : (fdL a b c d e).length = 20 := rfl
    have el : hI h5 2 1 = n32 ((aT x).length + 20) := by rw [T5.1, List.length_append, lf]
    rw [el]
    obtain ⟨m1, m2, m3, m4, m5, m6, m7, m8, m9, m10, m11, m12, m13⟩ := I.mvs f (by unfold STp; omega)
    refine k h5 (sameM.of f (by unfold STp; omega)) ⟨m1, m2 (by unfold STp; omega), m3 (by unfold STp; omega) (by unfold STp; omega), ⟨T5.1, ?_, fun j hj => ⟨T5.2 j hj, ?_⟩⟩, m5 (by unfold STp; omega), m6 (by unfold STp; omega) (by unfold STp; omega) (by unfold STp; omega) (by unfold STp; omega), m7 (by unfold STp; omega) (by unfold STp; omega), m8 (by unfold STp; omega) (by unfold STp; omega), m9 (by unfold STp; omega) (by unfold STp; omega), m10, m11 (by unfold STp; omega), m12 (by unfold STp; omega) (by unfold STp; omega) (by unfold STp; omega) (by unfold STp; omega), m13 (by unfold STp; omega)⟩
    · show (aT x ++ fdL a b c d e).length ≤ 600
      rw [List.length_append, lf]; exact q
    · have hj' : j < (aT x ++ fdL a b c d e).length := hj
      rw [List.length_append, lf] at hj'
      show (aT x ++ fdL a b c d e).getD j 0 < 256
      rcases Nat.lt_or_ge j (aT x).length with z | z
      · rw [List.getD_eq_getElem?_getD, List.getElem?_append_left z, ← List.getD_eq_getElem?_getD]; exact (t3 j z).2
      · rw [List.getD_eq_getElem?_getD, List.getElem?_append_right z, ← List.getD_eq_getElem?_getD]; exact fd_lt a b c d e (by omega)
  · rw [if_neg q, if_neg q] at k
    exact k h (sameM.rf h) I
theorem C_clear {x : Ab} {da : Nat → Nat} {h : Hp} {Q : Int32 → Hp → Prop} (I : InvC x da h) (k : ∀ h', sameM h h' → InvC (stB x []) da h' → Q (ansClear x) h') : m_X11_clear h Q := by
  unfold m_X11_clear
  intro x1 e1
  rw [e1, I.2.2.2.2.2.2.1.1]
  have f : fr (fun a k => a = 11 ∧ k = 1 ∨ a = 26 ∧ k = 0) h (wI (wI h 11 1 0) 26 0 0) := fr_wI (fr_wI (fr.rf _ _) _ (by omega)) _ (by omega)
  obtain ⟨m1, m2, m3, m4, m5, m6, m7, m8, m9, m10, m11, m12, m13⟩ := I.mvs f (by omega)
  refine k _ (sameM.of f (by omega)) ⟨m1, m2 (by omega), m3 (by omega) (by omega), m4 (by omega) (by omega), m5 (by omega), m6 (by omega) (by omega) (by omega) (by omega), ⟨?_, Nat.zero_le _, fun j hj => absurd hj (by show ¬ j < 0; omega), fun d hd => absurd hd (by show ¬ d ∈ []; simp), List.nodup_nil⟩, m8 (by omega) (by omega), m9 (by omega) (by omega), m10, Or.inl ?_, m12 (by omega) (by omega) (by omega) (by omega), m13 (by omega)⟩
  · rw [hI_wI, if_neg (by omega), hI_wI, if_pos ⟨rfl, rfl⟩]; rfl
  · rw [hI_wI, if_pos ⟨rfl, rfl⟩]
theorem C_add {x : Ab} {da : Nat → Nat} {v : Int32} {h : Hp} {Q : Int32 → Hp → Prop} (I : InvC x da h) (k : ∀ h', sameM h h' → InvC (nxAdd x v) da h' → Q (ansAdd x v) h') : m_X11_add v h Q := by
  unfold m_X11_add
  unfold nxAdd ansAdd at k
  have D := I.2.2.1
  have h24 := D.2.1
  have BB := I.2.2.2.2.2.2.1
  have B := BB.bd
  have h6 := B.2.1
  rw [D.1]
  refine c_within (by omega) (fun e => ?_) (fun d hd h31 e1 e2 => ?_)
  · rw [e] at k; exact ⟨fun _ => k h (sameM.rf h) I, fun z => absurd rfl z⟩
  · rw [e2] at k
    subst e1
    dsimp only at k
    refine ⟨fun z => absurd z (by decide), fun _ => ?_⟩
    obtain ⟨r, -, -, -⟩ := D.da hd
    rw [B.1, show (6 : Int32) = n32 6 from rfl, n32_le (by decide) (by omega), n32_ix (by omega)]
    refine ⟨fun z => ?_, fun z => ⟨vpI (by omega) (by decide), da d, r, c_holds D B hd (fun m => ?_) (fun m => ?_)⟩⟩
    · rw [if_pos (Or.inl (by omega)), if_pos (Or.inl (by omega))] at k; exact k h (sameM.rf h) I
    · rw [if_pos (Or.inr m), if_pos (Or.inr m)] at k
      exact ⟨fun z => absurd z (by decide), fun _ => k h (sameM.rf h) I⟩
    · have nn : ¬ ((aB x).length = 6 ∨ d ∈ aB x) := fun y => y.elim (fun y => by omega) m
      rw [if_neg nn, if_neg nn] at k
      refine ⟨fun _ => ⟨vpI (by omega) (by decide), da d, r, ?_⟩, fun z => absurd rfl z⟩
      refine c_push B (by omega) hd (fun h1 f1 B1 => ?_)
      have f2 : fr (fun a k => a = 11 ∧ k = 1 ∨ a = 12 ∨ a = 26 ∧ k = 0) h (wI h1 26 0 0) := fr_wI (f1.mono (by omega)) _ (by omega)
      have e11 : hI (wI h1 26 0 0) 11 1 = n32 ((aB x).length + 1) := by rw [hI_wI, if_neg (by omega), B1.1, List.length_append]; rfl
      rw [e11]
      obtain ⟨m1, m2, m3, m4, m5, m6, m7, m8, m9, m10, m11, m12, m13⟩ := I.mvs f2 (by omega)
      refine k _ (sameM.of f2 (by omega)) ⟨m1, m2 (by omega), m3 (by omega) (by omega), m4 (by omega) (by omega), m5 (by omega), m6 (by omega) (by omega) (by omega) (by omega), ⟨?_, B1.2.1, fun j hj => ?_, B1.2.2.2, ?_⟩, m8 (by omega) (by omega), m9 (by omega) (by omega), m10, Or.inl ?_, m12 (by omega) (by omega) (by omega) (by omega), m13 (by omega)⟩
      · rw [hI_wI, if_neg (by omega)]; exact B1.1
      · rw [hR_wI]; exact B1.2.2.1 j hj
      · show (aB x ++ [d]).Nodup
        rw [List.nodup_append]
        exact ⟨BB.2.2.2.2, List.nodup_cons.mpr ⟨by simp, List.nodup_nil⟩, fun p hp q hq => by rw [List.mem_singleton] at hq; subst hq; rintro rfl; exact m hp⟩
      · rw [hI_wI, if_pos ⟨rfl, rfl⟩]
theorem subK_app {off : List Nat} {d s : Nat} : ∀ j, j ≤ off.length → subK (off ++ [d]) s j = subK off s j := by
  intro j hj
  unfold subK
  apply List.map_congr_left
  intro i hi
  have := List.mem_range.mp (List.mem_filter.mp hi).1
  rw [getD_app_lt (by omega)]
theorem subL_app {off : List Nat} {d s : Nat} (h : s < 2 ^ off.length) : subL (off ++ [d]) s = subL off s := by
  unfold subL
  rw [List.length_append, List.length_singleton]
  have e : subK (off ++ [d]) s (off.length + 1) = subK (off ++ [d]) s off.length := by
    unfold subK
    rw [List.range_succ, List.filter_append]
    have : List.filter (fun i => s.testBit i) [off.length] = [] := by
      rw [List.filter_cons, if_neg (by rw [Nat.testBit_lt_two_pow h]; simp)]; rfl
    rw [this, List.append_nil]
  rw [e, subK_app _ (Nat.le_refl _)]
theorem C_offer {x : Ab} {da : Nat → Nat} {v : Int32} {h : Hp} {Q : Int32 → Hp → Prop} (I : InvC x da h) (k : ∀ h', sameM h h' → InvC (nxOffer x v) da h' → Q (ansOffer x v) h') : m_X11_offer v h Q := by
  unfold m_X11_offer
  unfold nxOffer ansOffer at k
  have D := I.2.2.1
  have h24 := D.2.1
  obtain ⟨o1, o2, o3, o4, o5⟩ := I.2.2.2.2.2.2.2.1
  rw [D.1]
  refine c_within (by omega) (fun e => ?_) (fun d hd h31 e1 e2 => ?_)
  · rw [e] at k; exact ⟨fun z => absurd rfl z, fun _ => k h (sameM.rf h) I⟩
  · rw [e2] at k
    subst e1
    dsimp only at k
    obtain ⟨r, -, -, -⟩ := D.da hd
    rw [n32_ix (by omega)]
    refine ⟨fun _ => ⟨vpI (by omega) (by decide), da d, r, ?_⟩, fun z => absurd z (by decide)⟩
    unfold m_X7_putOffered
    have put : d ∉ aO x → m_X7_putOffered_28 (fun (x4 : Int32) (h5 : Hp) => (x4 = 0 → Q (-1) h5) ∧ (¬ x4 = 0 → Q (hI h5 32 3) h5)) (da d) h := by
      intro m
      unfold m_X7_putOffered_28 m_X7_forget
      rw [o1, show (10 : Int32) = n32 10 from rfl, n32_lt (by omega) (by decide), n32_ix (by omega), hI_wR, o1, show n32 (aO x).length + 1 = n32 ((aO x).length + 1) from n32_add _ 1]
      refine ⟨fun z => ⟨vpI z (by decide), fun y => absurd y (by decide), fun _ => ?_⟩, fun z => ⟨fun _ => ?_, fun y => absurd rfl y⟩⟩
      · have nn : ¬ ((aO x).length = 10 ∨ d ∈ aO x) := fun y => y.elim (fun y => by omega) m
        rw [if_neg nn, if_neg nn] at k
        have f : fr (fun a k => a = 33 ∧ k = (aO x).length ∨ a = 32 ∧ (k = 3 ∨ k = 6)) h (wI (wI (wR h 33 (aO x).length (some (da d))) 32 3 (n32 ((aO x).length + 1))) 32 6 0) := fr_wI (fr_wI (fr_wR (fr.rf _ _) _ (by omega)) _ (by omega)) _ (by omega)
        have e3 : hI (wI (wI (wR h 33 (aO x).length (some (da d))) 32 3 (n32 ((aO x).length + 1))) 32 6 0) 32 3 = n32 ((aO x).length + 1) := by rw [hI_wI, if_neg (by omega), hI_wI, if_pos ⟨rfl, rfl⟩]
        have e6 : hI (wI (wI (wR h 33 (aO x).length (some (da d))) 32 3 (n32 ((aO x).length + 1))) 32 6 0) 32 6 = n32 0 := by rw [hI_wI, if_pos ⟨rfl, rfl⟩]; rfl
        have e33 : ∀ j, hR (wI (wI (wR h 33 (aO x).length (some (da d))) 32 3 (n32 ((aO x).length + 1))) 32 6 0) 33 j = if j = (aO x).length then some (da d) else hR h 33 j := by
          intro j
          rw [hR_wI, hR_wI, hR_wR]
          by_cases q : j = (aO x).length
          · rw [if_pos ⟨rfl, q⟩, if_pos q]
          · rw [if_neg (by omega), if_neg q]
        generalize wI (wI (wR h 33 (aO x).length (some (da d))) 32 3 (n32 ((aO x).length + 1))) 32 6 0 = h1 at f e3 e6 e33
        rw [e3]
        obtain ⟨m1, m2, m3, m4, m5, m6, m7, m8, m9, m10, m11, m12, m13⟩ := I.mvs f (by omega)
        refine k h1 (sameM.of f (by omega)) ⟨m1, m2 (by omega), m3 (by omega) (by omega), m4 (by omega) (by omega), m5 (by omega), m6 (by omega) (by omega) (by omega) (by omega), m7 (by omega) (by omega), ⟨?_, ?_, ?_, ?_, ?_⟩, m9 (by omega) (by omega), m10, m11 (by omega), ⟨?_, 0, by omega, e6, Or.inl rfl⟩, m13 (by omega)⟩
        · show hI h1 32 3 = n32 (aO x ++ [d]).length
          rw [e3, List.length_append]; rfl
        · show (aO x ++ [d]).length ≤ 10
          rw [List.length_append, List.length_singleton]; omega
        · show CRefs da 33 (aO x ++ [d]) h1
          exact o3.app (fun j hj => by rw [e33, if_neg (by omega)]) (by rw [e33, if_pos rfl])
        · intro g hg
          have hg' : g ∈ aO x ++ [d] := hg
          rw [List.mem_append, List.mem_singleton] at hg'
          rcases hg' with hg' | rfl
          · exact o4 g hg'
          · exact hd
        · show (aO x ++ [d]).Nodup
          rw [List.nodup_append]
          exact ⟨o5, List.nodup_cons.mpr ⟨by simp, List.nodup_nil⟩, fun p hp q hq => by rw [List.mem_singleton] at hq; subst hq; rintro rfl; exact m hp⟩
        · intro s hs
          rw [f.I (by omega)]
          rcases I.2.2.2.2.2.2.2.2.2.2.2.1.1 s hs with y | ⟨y1, y2⟩
          · exact Or.inl y
          · refine Or.inr ⟨?_, ?_⟩
            · show s < 2 ^ (aO x ++ [d]).length
              rw [List.length_append, List.length_singleton]
              have := pw_le (show (aO x).length ≤ (aO x).length + 1 by omega)
              omega
            · rw [y2]
              show n32 (lnV x s) = n32 (if loanN (aF x) (aD x) (subL (aO x ++ [d]) s) = 0 then 1 else 2)
              rw [subL_app y1]; rfl
      · have nn : (aO x).length = 10 ∨ d ∈ aO x := Or.inl (by omega)
        rw [if_pos nn, if_pos nn] at k
        exact k h (sameM.rf h) I
    have main : ∀ (rest pre : List Nat), aO x = pre ++ rest → d ∉ pre → m_X7_putOffered_2 (rest.length + 1) (m_X7_putOffered_28 (fun (x4 : Int32) (h5 : Hp) => (x4 = 0 → Q (-1) h5) ∧ (¬ x4 = 0 → Q (hI h5 32 3) h5))) (fun (x4 : Int32) (h5 : Hp) => (x4 = 0 → Q (-1) h5) ∧ (¬ x4 = 0 → Q (hI h5 32 3) h5)) (da d) (n32 pre.length) h := by
      intro rest
      induction rest with
      | nil =>
        intro pre e hn
        rw [List.append_nil] at e
        rw [m_X7_putOffered_2, o1, e, n32_le (by rw [← e]; omega) (by rw [← e]; omega)]
        exact ⟨fun _ => put (by rw [e]; exact hn), fun z => absurd (Nat.le_refl _) z⟩
      | cons g rest ih =>
        intro pre e hn
        have el : (aO x).length = pre.length + (rest.length + 1) := by rw [e]; simp
        have rg := o3 pre.length (by omega)
        rw [e, getD_mid] at rg
        have hg := o4 g (by rw [e]; simp)
        rw [m_X7_putOffered_2, o1, n32_le (by omega) (by omega), n32_ix (by omega)]
        refine ⟨fun z => absurd z (by omega), fun _ => ⟨vpI (by omega) (by decide), da g, rg, ?_, ?_⟩⟩
        · intro z x2 e2
          rw [e2, show n32 pre.length + 1 = n32 (pre.length + 1) from n32_add _ 1]
          have := ih (pre ++ [g]) (by rw [e]; simp) (by
            rw [List.mem_append, not_or]
            refine ⟨hn, ?_⟩
            rw [List.mem_singleton]
            rintro rfl
            exact z rfl)
          rw [List.length_append] at this
          exact this
        · intro z
          injection z with z
          have := (da_inj D hg hd).mp z
          have nn : (aO x).length = 10 ∨ d ∈ aO x := Or.inr (by rw [e, ← this]; simp)
          rw [if_pos nn, if_pos nn] at k
          exact ⟨fun _ => k h (sameM.rf h) I, fun y => absurd rfl y⟩
    exact ⟨_, main (aO x) [] rfl (by simp)⟩
theorem C_family {x : Ab} {da : Nat → Nat} {v1 v2 : Int32} {h : Hp} {Q : Int32 → Hp → Prop} (I : InvC x da h) (k : ∀ h', sameM h h' → InvC (nxFamily x v1 v2) da h' → Q (ansFamily v1 v2) h') : m_X11_family v1 v2 h Q := by
  unfold m_X11_family
  unfold nxFamily ansFamily at k
  rw [show (8 : Int32) = n32 8 from rfl]
  refine c_within (by omega) (fun e => ?_) (fun a ha h31 e1 e2 => ?_)
  · rw [e] at k; exact ⟨fun _ => k h (sameM.rf h) I, fun z => absurd rfl z⟩
  · rw [e2] at k
    subst e1
    refine ⟨fun z => absurd z (by decide), fun _ => ?_⟩
    refine c_within (by omega) (fun e => ?_) (fun g hg h32 e3 e4 => ?_)
    · rw [e] at k; exact ⟨fun z => absurd rfl z, fun _ => k h (sameM.rf h) I⟩
    · rw [e4] at k
      subst e3
      dsimp only at k
      refine ⟨fun _ => ⟨vpI ha (by decide), ?_⟩, fun z => absurd z (by decide)⟩
      unfold m_X7_forgetAll
      rw [n32_ix (by omega)]
      have f0 : fr (fun b j => b = 1 ∨ b = 26 ∧ j = 0 ∨ b = 32 ∧ j = 6 ∨ b = 35) h (wI (wI (wI h 1 a (n32 g)) 26 0 0) 32 6 0) := fr_wI (fr_wI (fr_wI (fr.rf _ _) _ (by omega)) _ (by omega)) _ (by omega)
      have e1 : ∀ j, hI (wI (wI (wI h 1 a (n32 g)) 26 0 0) 32 6 0) 1 j = if j = a then n32 g else hI h 1 j := by
        intro j
        rw [hI_wI, if_neg (by omega), hI_wI, if_neg (by omega), hI_wI]
        by_cases q : j = a
        · rw [if_pos ⟨rfl, q⟩, if_pos q]
        · rw [if_neg (by omega), if_neg q]
      have e26 : hI (wI (wI (wI h 1 a (n32 g)) 26 0 0) 32 6 0) 26 0 = 0 := by rw [hI_wI, if_neg (by omega), hI_wI, if_pos ⟨rfl, rfl⟩]
      have e32 : hI (wI (wI (wI h 1 a (n32 g)) 26 0 0) 32 6 0) 32 6 = 0 := by rw [hI_wI, if_pos ⟨rfl, rfl⟩]
      generalize wI (wI (wI h 1 a (n32 g)) 26 0 0) 32 6 0 = h1 at f0 e1 e26 e32
      refine q_fillI (by decide) (fun h2 f2 e35 => ?_)
      have f : fr (fun b j => b = 1 ∨ b = 26 ∧ j = 0 ∨ b = 32 ∧ j = 6 ∨ b = 35) h h2 := f0.trans (f2.mono (by omega))
      obtain ⟨m1, m2, m3, m4, m5, m6, m7, m8, m9, m10, m11, m12, m13⟩ := I.mvs f (by omega)
      refine k h2 (sameM.of f (by omega)) ⟨m1, fun j hj => ?_, m3 (by omega) (by omega), m4 (by omega) (by omega), m5 (by omega), m6 (by omega) (by omega) (by omega) (by omega), m7 (by omega) (by omega), m8 (by omega) (by omega), m9 (by omega) (by omega), m10, Or.inl ?_, ⟨fun s hs => Or.inl (e35 s hs), 0, by omega, ?_, Or.inl rfl⟩, m13 (by omega)⟩
      · rw [f2.I (by omega), e1]
        show (if j = a then n32 g else hI h 1 j) = n32 (if j = a then g else aF x j) ∧ (if j = a then g else aF x j) < 8
        by_cases q : j = a
        · rw [if_pos q, if_pos q]; exact ⟨rfl, hg⟩
        · rw [if_neg q, if_neg q]; exact I.2.1 j hj
      · rw [f2.I (by omega)]; exact e26
      · rw [f2.I (by omega)]; exact e32
