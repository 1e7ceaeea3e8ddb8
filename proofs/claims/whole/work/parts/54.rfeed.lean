/-! THE MODEL: feed -/
def nxFeed (x : Ab) (a b c d e : Int32) : Ab := if (aT x).length + 20 ≤ 600 then stT x (aT x ++ fdL a b c d e) else x
def ansFeed (x : Ab) : Int32 := if (aT x).length + 20 ≤ 600 then n32 ((aT x).length + 20) else -1
theorem fd_sh {k : Nat} (h : k < 20) : (24 : Int32) - 8 * (n32 k - n32 k / 4 * 4) = n32 (24 - 8 * (k % 4)) := by
  have key : ∀ t : Fin 20, (24 : Int32) - 8 * (n32 t.val - n32 t.val / 4 * 4) = n32 (24 - 8 * (t.val % 4)) := by decide
  exact key ⟨k, h⟩
theorem fd_len (a b c d e : Int32) : (fdL a b c d e).length = 20 := rfl
set_option maxHeartbeats 4000000 in
set_option maxRecDepth 100000 in
theorem R_feed {x : Ab} {a b c d e : Int32} {h : Hp} {Q : Int32 → Hp → Prop} (I : InvR x h) (k : ∀ h', fr RefC h h' → InvR (nxFeed x a b c d e) h' → Q (ansFeed x) h') : m_X12_feed a b c d e h Q := by
  unfold m_X12_feed
  unfold ansFeed nxFeed at k
  obtain ⟨t1, t2, t3⟩ := id I.2.2.1
  have main : (aT x).length + 20 ≤ 600 → ∀ (r j : Nat) (h1 : Hp), r + j = 20 → fr (fun a k => a = 71 ∧ (aT x).length ≤ k ∨ a = 51 ∧ k = 21) h h1 → hI h1 51 21 = n32 ((aT x).length + j) → (∀ m, m < j → hI h1 71 ((aT x).length + m) = byteOf ((fdL a b c d e).getD m 0)) → m_X12_feed_18 (r + 1) Q a b c d e (n32 j) h1 := by
    intro hl r
    induction r with
    | zero =>
      intro j h1 hr f e21 e71
      obtain rfl : j = 20 := by omega
      rw [m_X12_feed_18]
      refine ⟨fun _ => ?_, fun z => absurd (by decide) z⟩
      rw [e21]
      have := k h1 (f.mono (by unfold RefC; intro a k h; omega)) ?_
      · rw [if_pos hl] at this; exact this
      · rw [if_pos hl]
        obtain ⟨r1, r2, r3, r4, r4', r5, r6, r7, r8, r9⟩ := I
        have o : ∀ b j, b ≠ 71 → ¬ (b = 51 ∧ j = 21) → hI h1 b j = hI h b j := fun b j h1 h2 => f.I (by omega)
        refine ⟨r1.mv (fun j => o _ _ (by decide) (by omega)), r2.mv (o _ _ (by decide) (by omega)) (fun b j h1 h2 => o b j (by omega) (by omega)), ⟨?_, ?_, fun j hj => ?_⟩, by rw [o _ _ (by decide) (by omega)]; exact r4, r4', r5.mv (o _ _ (by decide) (by omega)) (fun j => o _ _ (by decide) (by omega)) (fun b j h1 h2 => o b j (by omega) (by omega)), r6.mv (o _ _ (by decide) (by omega)) (fun j => o _ _ (by decide) (by omega)) (fun b j h1 h2 => o b j (by omega) (by omega)), r7.mv (o _ _ (by decide) (by omega)) (fun j => o _ _ (by decide) (by omega)), r8.mv (o _ _ (by decide) (by omega)) (fun j => o _ _ (by decide) (by omega)), r9.mv (o _ _ (by decide) (by omega)) (fun j => o _ _ (by decide) (by omega)) (fun j => o _ _ (by decide) (by omega))⟩
        · show _ = n32 (aT x ++ fdL a b c d e).length
          rw [e21, List.length_append, fd_len]
        · show (aT x ++ fdL a b c d e).length ≤ 600
          rw [List.length_append, fd_len]; exact hl
        · have hj' : j < (aT x).length + 20 := by
            have : j < (aT x ++ fdL a b c d e).length := hj
            rw [List.length_append, fd_len] at this
            exact this
          show hI h1 71 j = byteOf ((aT x ++ fdL a b c d e).getD j 0) ∧ (aT x ++ fdL a b c d e).getD j 0 < 256
          rcases Nat.lt_or_ge j (aT x).length with q | q
          · rw [getD_ap_l q, f.I (by omega)]; exact t3 j q
          · rw [getD_ap_r q]
            have := e71 (j - (aT x).length) (by omega)
            rw [show (aT x).length + (j - (aT x).length) = j by omega] at this
            exact ⟨this, fd_lt a b c d e (by omega)⟩
    | succ r ih =>
      intro j h1 hr f e21 e71
      rw [m_X12_feed_18]
      have go : ∀ v : Int32, v = fdV a b c d e j → m_X12_feed_71 (fun v1 v2 v3 v4 v5 v6 hh => m_X12_feed_18 (r + 1) Q v1 v2 v3 v4 v5 v6 hh) Q a b c d e (n32 j) v h1 := by
        intro v hv
        unfold m_X12_feed_71
        rw [fd_sh (by omega), e21, n32_ix (by omega), show (31 : Int32) = n32 31 from rfl, bt_ref v (Nat.mod_lt _ (by decide)), hI_wI, if_neg (by omega), e21]
        refine ⟨vpI (by omega) (by decide), fun x1 e1 => ?_⟩
        rw [e1, show n32 j + 1 = n32 (j + 1) from n32_add j 1, show n32 ((aT x).length + j) + 1 = n32 ((aT x).length + j + 1) from n32_add _ 1]
        refine ih (j + 1) _ (by omega) (fr_wI (fr_wI f _ (Or.inl ⟨rfl, by omega⟩)) _ (Or.inr ⟨rfl, rfl⟩)) (by rw [hI_wI, if_pos ⟨rfl, rfl⟩]; rfl) (fun m hm => ?_)
        rw [hI_wI, if_neg (by omega), hI_wI]
        by_cases q : m = j
        · subst q
          rw [if_pos ⟨rfl, rfl⟩, fd_get a b c d e (by omega), hv]
        · rw [if_neg (by omega)]; exact e71 m (by omega)
      unfold fdV at go
      simp (disch := omega) only [↓m1_pm, lit32, n32_add, n32_mul, n32_ix, n32_lt, n32_le, n32_eq, n32_in, pm_ix, pm_in, pm_eqn, n_eqpm, pm_ltn, n_ltpm, pm_len, n_lepm, pm_inj, forall_eq]
      refine ⟨fun z => absurd z (by omega), fun _ => ⟨fun q1 => ⟨fun q2 => ⟨fun q3 => ⟨fun q4 => go e ?_, fun q4 => go d ?_⟩, fun q3 => go c ?_⟩, fun q2 => go b ?_⟩, fun q1 => go a ?_⟩⟩
      · rw [if_neg (by omega), if_neg (by omega), if_neg (by omega), if_neg (by omega)]
      · rw [if_neg (by omega), if_neg (by omega), if_neg (by omega), if_pos (by omega)]
      · rw [if_neg (by omega), if_neg (by omega), if_pos (by omega)]
      · rw [if_neg (by omega), if_pos (by omega)]
      · rw [if_pos (by omega)]
  rw [t1, show (20 : Int32) = n32 20 from rfl, n32_add, show (600 : Int32) = n32 600 from rfl, n32_le (by omega) (by decide)]
  refine ⟨fun q => ⟨_, main q 20 0 h rfl (fr.rf _ _) t1 (fun m hm => by omega)⟩, fun q => ?_⟩
  have := k h (fr.rf _ _) (by rw [if_neg q]; exact I)
  rw [if_neg q] at this
  exact this
