/-! THE MODEL: a leaf is read -/
theorem up2_if (f : Nat → Nat → Nat) (a k v b j : Nat) : up2 f a k v b j = if b = a ∧ j = k then v else f b j := rfl
/-- the row of what is open -/
def StkM : List Rec → Hp → Prop
  | [], _ => True
  | f :: l, h => hI h 72 l.length = n32 (f 3) ∧ hI h 73 l.length = n32 (f 2) ∧ StkM l h
theorem StkM.mv {S : Nat → Nat → Prop} {h h' : Hp} (f : fr S h h') : ∀ {K : List Rec} {m : Nat}, K.length ≤ m → (∀ k, k < m → ¬ S 72 k ∧ ¬ S 73 k) → StkM K h → StkM K h'
  | [], _, _, _, _ => trivial
  | g :: l, m, hm, n, H => by
    have hl : l.length < m := by simp at hm; omega
    exact ⟨by rw [f.I (n _ hl).1]; exact H.1, by rw [f.I (n _ hl).2]; exact H.2.1, H.2.2.mv f (by omega) n⟩
def DM (b : Nat) (s : St) (h : Hp) : Prop := hI h 51 37 = n32 b ∧ hI h 51 33 = n32 (sN s - b) ∧ hI h 51 34 = n32 (sL s).length ∧ hI h 51 35 = n32 (sC s) ∧ hI h 51 36 = n32 (sE s) ∧ hI h 51 32 = n32 (sK s).length ∧ StkM (sK s) h ∧ ∀ i, b ≤ i → i < sN s → RNode s h i
/-- how big a text's state can be; 0: a part comes, 1: a part was -/
def GB (b : Nat) (s : St) (md : Nat) : Prop := b ≤ 2208 ∧ b ≤ sN s ∧ sN s ≤ b + 7 * (sL s).length + (if md = 0 then (sK s).length else 0) ∧ (sL s).length ≤ 12 ∧ (sK s).length ≤ 6 ∧ sC s ≤ 3 ∧ sE s < 32
/-- what holds of a frame that is open -/
def FrOk (b : Nat) (s : St) (f : Rec) : Prop := b ≤ f 3 ∧ f 3 < sN s ∧ sD s 58 (f 3) = f 0 ∧ 4 ≤ f 0 ∧ f 0 ≤ 7 ∧ f 2 < 2
def SNw (i a k : Nat) : Prop := 58 ≤ a ∧ a ≤ 63 ∧ k = i ∨ a = 51 ∧ k = 33
def NdM (s : St) (kd i : Nat) (h : Hp) : Prop := hI h 58 i = n32 kd ∧ hI h 59 i = 0 ∧ hI h 60 i = pm (topUp (sK s)) ∧ hI h 61 i = n32 (topPart (sK s)) ∧ hI h 62 i = n32 (i + 1) ∧ hI h 63 i = -1
set_option maxHeartbeats 4000000 in
set_option maxRecDepth 100000 in
theorem q_newNode {b kd : Nat} {s : St} {h : Hp} {Q : Int32 → Hp → Prop} (D : DM b s h) (G : GB b s 0) (k : ∀ h', fr (SNw (sN s)) h h' → hI h' 51 33 = n32 (sN s + 1 - b) → NdM s kd (sN s) h' → Q (n32 (sN s)) h') : m_X12_newNode (n32 kd) h Q := by
  unfold m_X12_newNode
  obtain ⟨e37, e33, -, -, -, e32, hS, -⟩ := D
  obtain ⟨g0, g1, g2, g3, g4, -, -⟩ := G
  rw [if_pos rfl] at g2
  intro x1 ex
  rw [e37, e33, n32_add, show b + (sN s - b) = sN s by omega] at ex
  rw [ex, n32_ix (by omega), e33, show n32 (sN s - b) + 1 = n32 (sN s + 1 - b) by rw [show sN s + 1 - b = sN s - b + 1 by omega]; exact n32_add _ 1]
  generalize sN s = i at g1 g2 k
  have hi : i < 2304 := by omega
  have f1 : fr (SNw i) h (wI (wI (wI h 51 33 (n32 (i + 1 - b))) 58 i (n32 kd)) 59 i 0) := fr_wI (fr_wI (fr_wI (fr.rf _ _) _ (by unfold SNw; omega)) _ (by unfold SNw; omega)) _ (by unfold SNw; omega)
  have a33 : hI (wI (wI (wI h 51 33 (n32 (i + 1 - b))) 58 i (n32 kd)) 59 i 0) 51 33 = n32 (i + 1 - b) := by rw [hI_wI, if_neg (by omega), hI_wI, if_neg (by omega), hI_wI, if_pos ⟨rfl, rfl⟩]
  have a58 : hI (wI (wI (wI h 51 33 (n32 (i + 1 - b))) 58 i (n32 kd)) 59 i 0) 58 i = n32 kd := by rw [hI_wI, if_neg (by omega), hI_wI, if_pos ⟨rfl, rfl⟩]
  have a59 : hI (wI (wI (wI h 51 33 (n32 (i + 1 - b))) 58 i (n32 kd)) 59 i 0) 59 i = 0 := by rw [hI_wI, if_pos ⟨rfl, rfl⟩]
  generalize wI (wI (wI h 51 33 (n32 (i + 1 - b))) 58 i (n32 kd)) 59 i 0 = h1 at f1 a33 a58 a59
  have b32 : hI h1 51 32 = n32 (sK s).length := by rw [f1.I (by unfold SNw; omega)]; exact e32
  have hS1 : StkM (sK s) h1 := hS.mv f1 (Nat.le_refl _) (fun k _ => by unfold SNw; omega)
  have last : ∀ (u p : Int32), u = pm (topUp (sK s)) → p = n32 (topPart (sK s)) → m_X12_newNode_89 Q (n32 i) (n32 i) p (wI h1 60 i u) := by
    intro u p eu ep
    unfold m_X12_newNode_89
    rw [n32_ix (by omega), show n32 i + 1 = n32 (i + 1) from n32_add _ 1]
    refine ⟨vpI (by omega) (by decide), vpI (by omega) (by decide), vpI (by omega) (by decide), ?_⟩
    refine k _ (fr_wI (fr_wI (fr_wI (fr_wI f1 _ (by unfold SNw; omega)) _ (by unfold SNw; omega)) _ (by unfold SNw; omega)) _ (by unfold SNw; omega)) ?_ ⟨?_, ?_, ?_, ?_, ?_, ?_⟩
    · rw [hI_wI, if_neg (by omega), hI_wI, if_neg (by omega), hI_wI, if_neg (by omega), hI_wI, if_neg (by omega)]; exact a33
    · rw [hI_wI, if_neg (by omega), hI_wI, if_neg (by omega), hI_wI, if_neg (by omega), hI_wI, if_neg (by omega)]; exact a58
    · rw [hI_wI, if_neg (by omega), hI_wI, if_neg (by omega), hI_wI, if_neg (by omega), hI_wI, if_neg (by omega)]; exact a59
    · rw [hI_wI, if_neg (by omega), hI_wI, if_neg (by omega), hI_wI, if_neg (by omega), hI_wI, if_pos ⟨rfl, rfl⟩]; exact eu
    · rw [hI_wI, if_neg (by omega), hI_wI, if_neg (by omega), hI_wI, if_pos ⟨rfl, rfl⟩]; exact ep
    · rw [hI_wI, if_neg (by omega), hI_wI, if_pos ⟨rfl, rfl⟩]
    · rw [hI_wI, if_pos ⟨rfl, rfl⟩]
  refine ⟨vpI (by omega) (by decide), vpI (by omega) (by decide), ?_⟩
  unfold m_X12_newNode_61
  rw [b32, n32_ix (show i < 2147483648 by omega)]
  have b32' : ∀ u, hI (wI h1 60 i u) 51 32 = n32 (sK s).length := fun u => by rw [hI_wI, if_neg (by omega)]; exact b32
  simp only [b32']
  have e72 : ∀ u j, hI (wI h1 60 i u) 73 j = hI h1 73 j := fun u j => by rw [hI_wI, if_neg (by omega)]
  simp only [e72]
  cases hK : sK s with
  | nil =>
    rw [hK] at last
    refine ⟨fun _ => ⟨vpI (by omega) (by decide), fun _ => last _ _ rfl rfl, fun z => absurd (by decide) z⟩, fun z => absurd (by decide) z⟩
  | cons f l =>
    rw [hK] at last hS1 g4
    simp only [List.length_cons] at g4 ⊢
    rw [show (1 : Int32) = n32 1 from rfl, n32_sub (by omega), show l.length + 1 - 1 = l.length by omega, n32_ix (by omega), show (0 : Int32) = n32 0 from rfl, n32_le (by omega) (by decide), hS1.1, hS1.2.1]
    exact ⟨fun z => absurd z (by omega), fun _ => ⟨vpI (by omega) (by decide), vpI (by omega) (by decide), fun z => absurd z (by omega), fun _ => ⟨vpI (by omega) (by decide), last _ _ rfl rfl⟩⟩⟩
/-- what a leaf's words say, step by step -/
def l1 (T : List Nat) (t : Tk) : PS × Nat := sHnd T 0 (.inr (nxt T t))
def l2 (T : List Nat) (t : Tk) : PS × Nat := sHnd T ((l1 T t).2 + 1) (l1 T t).1
def l3 (T : List Nat) (t : Tk) : PS × Nat := sThg T (l2 T t).1
def l4 (T : List Nat) (t : Tk) : PS × Nat := sNum T 0 9999 (l3 T t).1
def l5 (T : List Nat) (kd : Nat) (t : Tk) : PS × Nat := if kd < 2 then ((l4 T t).1, 0) else sNum T 0 9999 (sMust T wFor (l4 T t).1)
def l6 (T : List Nat) (kd : Nat) (t : Tk) : PS × Nat := sNum T 0 399 (sMust T wAt (l5 T kd t).1)
def sPaid (T : List Nat) (d : Nat) : PS → PS × Nat
  | .inl e => (.inl e, d)
  | .inr t => if isW T t wPaid then sNum T d 399 (.inr (nxt T t)) else (.inr t, d)
def l7 (T : List Nat) (kd : Nat) (t : Tk) : PS × Nat := if kd = 2 then sPaid T (l6 T kd t).2 (l6 T kd t).1 else if kd = 3 then sNum T (l6 T kd t).2 399 (sMust T wBack (l6 T kd t).1) else l6 T kd t
def lfR (T : List Nat) (kd : Nat) (t : Tk) : Rec := fun j => if j = 0 then kd else if j = 1 then (l1 T t).2 else if j = 2 then (l2 T t).2 else if j = 3 then (l3 T t).2 else if j = 4 then (l4 T t).2 else if j = 5 then (l5 T kd t).2 else if j = 6 then (l6 T kd t).2 else (l7 T kd t).2
theorem sNum_ok {T : List Nat} {lo hi : Nat} : ∀ {s : PS}, okP (sNum T lo hi s).1 → okP s
  | .inl _, h => h
  | .inr _, _ => trivial
theorem sMust_ok {T w : List Nat} : ∀ {s : PS}, okP (sMust T w s) → okP s
  | .inl _, h => h
  | .inr _, _ => trivial
theorem sThg_ok {T : List Nat} : ∀ {s : PS}, okP (sThg T s).1 → okP s
  | .inl _, h => h
  | .inr _, _ => trivial
theorem sHnd_ok {T : List Nat} {nt : Nat} : ∀ {s : PS}, okP (sHnd T nt s).1 → okP s
  | .inl _, h => h
  | .inr _, _ => trivial
theorem sNum_lt {T : List Nat} {lo hi : Nat} : ∀ {s : PS}, (sNum T lo hi s).2 ≤ hi
  | .inl _ => Nat.zero_le _
  | .inr t => by
    show (if _ then _ else _ : PS × Nat).2 ≤ hi
    split
    · rename_i q; exact q.2.2
    · exact Nat.zero_le _
theorem sNum_ge {T : List Nat} {lo hi : Nat} : ∀ {s : PS}, okP (sNum T lo hi s).1 → lo ≤ (sNum T lo hi s).2
  | .inl _, h => absurd h (fun z => z)
  | .inr t, h => by
    revert h
    show okP (if _ then _ else _ : PS × Nat).1 → lo ≤ (if _ then _ else _ : PS × Nat).2
    split
    · rename_i q; exact fun _ => q.2.1
    · exact fun h => absurd h (fun z => z)
theorem sHnd_lt {T : List Nat} {nt : Nat} : ∀ {s : PS}, (sHnd T nt s).2 < 8
  | .inl _ => by show 0 < 8; decide
  | .inr t => by
    have := pl_le T t HNDS
    have e : HNDS.length = 8 := rfl
    show (if _ then _ else _ : PS × Nat).2 < 8
    split
    · show 0 < 8; decide
    · show _ - 1 < 8; omega
theorem sHnd_ne {T : List Nat} {nt : Nat} : ∀ {s : PS}, okP (sHnd T nt s).1 → (sHnd T nt s).2 + 1 ≠ nt
  | .inl _, h => absurd h (fun z => z)
  | .inr t, h => by
    revert h
    show okP (if _ then _ else _ : PS × Nat).1 → (if _ then _ else _ : PS × Nat).2 + 1 ≠ nt
    split
    · exact fun h => absurd h (fun z => z)
    · rename_i q
      intro _
      show _ - 1 + 1 ≠ nt
      omega
theorem sThg_lt {T : List Nat} : ∀ {s : PS}, (sThg T s).2 < 6
  | .inl _ => by show 0 < 6; decide
  | .inr t => by
    have := pl_le T t THGS
    have e : THGS.length = 6 := rfl
    show (if _ then _ else _ : PS × Nat).2 < 6
    split
    · show 0 < 6; decide
    · show _ - 1 < 6; omega
def SLf (i a k : Nat) : Prop := SPr a k ∨ 64 ≤ a ∧ a ≤ 70 ∧ k = i
/-- a leaf's node is filled up to a column -/
def LfP (T : List Nat) (i : Nat) (h0 : Hp) (r : Rec) (n : Nat) (s : PS) (h : Hp) : Prop := fr (SLf i) h0 h ∧ PM T s h ∧ (okP s → ∀ j, j < n → hI h (64 + j) i = n32 (r (j + 1)))
theorem LfP.pr {T : List Nat} {i n : Nat} {h0 h h' : Hp} {r : Rec} {s s' : PS} (L : LfP T i h0 r n s h) (f : fr SPr h h') (P : PM T s' h') (o : okP s' → okP s) : LfP T i h0 r n s' h' :=
  ⟨L.1.trans (f.mono (fun _ _ h => Or.inl h)), P, fun z j hj => by rw [f.I (by unfold SPr; omega)]; exact L.2.2 (o z) j hj⟩
theorem LfP.wr {T : List Nat} {i n : Nat} {h0 h : Hp} {r : Rec} {s : PS} {v : Int32} (L : LfP T i h0 r n s h) (hn : n < 7) (e : okP s → v = n32 (r (n + 1))) : LfP T i h0 r (n + 1) s (wI h (64 + n) i v) := by
  have f : fr (fun a k => a = 64 + n ∧ k = i) h (wI h (64 + n) i v) := fr_wI (fr.rf _ _) _ ⟨rfl, rfl⟩
  refine ⟨L.1.trans (f.mono (fun a k h => Or.inr (by omega))), L.2.1.mv f (by omega) (by omega), fun z j hj => ?_⟩
  rw [hI_wI]
  by_cases q : j = n
  · rw [if_pos (by omega), q]; exact e z
  · rw [if_neg (by omega)]; exact L.2.2 z j (by omega)
theorem LfP.rw {T : List Nat} {i n : Nat} {h0 h : Hp} {r : Rec} {s : PS} {v : Int32} (L : LfP T i h0 r (n + 1) s h) (hn : n < 7) (e : okP s → v = n32 (r (n + 1))) : LfP T i h0 r (n + 1) s (wI h (64 + n) i v) :=
  LfP.wr ⟨L.1, L.2.1, fun z j hj => L.2.2 z j (by omega)⟩ hn e
