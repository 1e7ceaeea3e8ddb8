/-! THE CLASS: same, asked -/
theorem C_same {x : Ab} {da : Nat → Nat} {v1 v2 : Int32} {h : Hp} {Q : Int32 → Hp → Prop} (I : InvC x da h) (K : OkA x) (M : OkM x) (k : ∀ h', fr Own h h' → Q (ansSame x v1 v2) h') : m_X11_same v1 v2 h Q := by
  unfold m_X11_same
  unfold ansSame at k
  have V := I.vw
  have D := I.kd
  have e4 := I.2.2.1.1
  have N24 := I.2.2.1.2.1
  rw [e4]
  refine c_within (by omega) (fun e => ?_) (fun a ha ha2 e1 e2 => ?_)
  · rw [e] at k
    exact ⟨fun _ => k h (fr.rf _ _), fun y => absurd rfl y⟩
  · rw [e2] at k
    refine ⟨fun y => absurd y (by decide), fun _ => ?_⟩
    rw [e4]
    refine c_within (by omega) (fun e => ?_) (fun b hb hb2 e3 e5 => ?_)
    · rw [e] at k
      exact ⟨fun y => absurd rfl y, fun _ => k h (fr.rf _ _)⟩
    · rw [e5] at k
      dsimp only at k
      subst e1; subst e3
      refine ⟨fun _ => ?_, fun y => absurd y (by decide)⟩
      rw [n32_ix (by omega), n32_ix (by omega)]
      exact ⟨vpI (by omega) (by decide), da a, (D a ha).1, vpI (by omega) (by decide), da b, (D b hb).1, c_firstApart V K M ha hb (fun h' f => k h' (f.mono SSa_Own))⟩
