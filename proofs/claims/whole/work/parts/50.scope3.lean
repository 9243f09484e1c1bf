/-! Each open expression sees the names known to it. -/
def Sees (H : List Hd) (σ : Mem) (q : Nat) (s : Int) : Prop := ∀ c, Kf H q c = true → ∃ i, Vis σ c s i
def LinkOK (H : List Hd) (σ : Mem) (n s : Int) : Prop := isVal n = true ∨ ∃ p, p < H.length ∧ lt H p = 64 ∧ nm H p = n ∧ Sees H σ p s
def SI (H : List Hd) (σ : Mem) (o L : Nat) : Prop := Low σ L ∧ (∀ j, j < L → LinkOK H σ (σ 34 j) (σ 36 j)) ∧ (∀ d, d < o → -1 ≤ σ 31 d ∧ σ 31 d < (L : Int) ∧ ∀ p : Nat, σ 30 d = (p : Int) → Sees H σ p (σ 31 d))
theorem Sees.keep {H : List Hd} {σ τ : Mem} {L : Nat} {q : Nat} {s : Int} (hl : Low σ L) (e : ∀ j, j < L → τ 34 j = σ 34 j ∧ τ 36 j = σ 36 j) (hs : s < (L : Int)) (h : Sees H σ q s) : Sees H τ q s := by
  intro c hc
  obtain ⟨i, hi⟩ := h c hc
  exact ⟨i, hi.keep hl e hs⟩
theorem LinkOK.keep {H : List Hd} {σ τ : Mem} {L : Nat} {n s : Int} (hl : Low σ L) (e : ∀ j, j < L → τ 34 j = σ 34 j ∧ τ 36 j = σ 36 j) (hs : s < (L : Int)) (h : LinkOK H σ n s) : LinkOK H τ n s := by
  rcases h with h | ⟨p, h1, h2, h3, h4⟩
  · exact Or.inl h
  · exact Or.inr ⟨p, h1, h2, h3, h4.keep hl e hs⟩
theorem SI.keep {H : List Hd} {σ τ : Mem} {o o' L : Nat} (h : SI H σ o L) (ho : o' ≤ o) (e : ∀ j, j < L → τ 34 j = σ 34 j ∧ τ 36 j = σ 36 j) (e2 : ∀ d, d < o' → τ 30 d = σ 30 d ∧ τ 31 d = σ 31 d) : SI H τ o' L := by
  obtain ⟨h1, h2, h3⟩ := h
  refine ⟨fun j hj => by rw [(e j hj).2]; exact h1 j hj, fun j hj => ?_, fun d hd => ?_⟩
  · rw [(e j hj).1, (e j hj).2]
    have := h1 j hj
    exact (h2 j hj).keep h1 e (by omega)
  · rw [(e2 d hd).1, (e2 d hd).2]
    obtain ⟨a, b, c⟩ := h3 d (by omega)
    exact ⟨a, b, fun p hp => (c p hp).keep h1 e b⟩
theorem SI.beg {H : List Hd} {J : Mem} {o L q : Nat} {s : Int} (h : SI H J o L) (h11 : J 26 11 = (o : Int)) (h15 : J 26 15 = (L : Int)) (hs : -1 ≤ s ∧ s < (L : Int)) (hv : Sees H J q s) (hn : begF J q s 26 0 = 0) :
    ∃ o' L' : Nat, begF J q s 26 11 = (o' : Int) ∧ begF J q s 26 15 = (L' : Int) ∧ SI H (begF J q s) o' L' := by
  have hop : opn J = o := by unfold opn; rw [h11]; rfl
  unfold begF at hn ⊢
  by_cases hc : 300 ≤ J 26 2 ∨ 100 ≤ J 26 11
  · rw [if_pos hc] at hn
    simp [upd2] at hn
  · rw [if_neg hc, hop]
    generalize hK : upd2 (upd2 (upd2 (upd2 (upd2 (upd2 J 26 2 (J 26 2 + 1)) 27 q (J 27 q + 1)) 30 o (q : Int)) 31 o s) 32 o 0) 26 11 (J 26 11 + 1) = K
    have k11 : K 26 11 = J 26 11 + 1 := by rw [← hK]; simp [upd2]
    have k15 : K 26 15 = J 26 15 := by rw [← hK]; simp [upd2]
    have k34 : K 34 = J 34 := by rw [← hK, upd2_id (by decide), upd2_id (by decide), upd2_id (by decide), upd2_id (by decide), upd2_id (by decide), upd2_id (by decide)]
    have k36 : K 36 = J 36 := by rw [← hK, upd2_id (by decide), upd2_id (by decide), upd2_id (by decide), upd2_id (by decide), upd2_id (by decide), upd2_id (by decide)]
    have k30 : ∀ d, K 30 d = if d = o then (q : Int) else J 30 d := fun d => by rw [← hK]; simp [upd2]
    have k31 : ∀ d, K 31 d = if d = o then s else J 31 d := fun d => by rw [← hK]; simp [upd2]
    have e : ∀ j, j < L → K 34 j = J 34 j ∧ K 36 j = J 36 j := fun j _ => by rw [k34, k36]; exact ⟨rfl, rfl⟩
    have h' := h.keep (τ := K) (Nat.le_refl o) e (fun d hd => by rw [k30, k31, if_neg (by omega), if_neg (by omega)]; exact ⟨rfl, rfl⟩)
    refine ⟨o + 1, L, by rw [k11, h11]; omega, by rw [k15, h15], h'.1, h'.2.1, fun d hd => ?_⟩
    rcases Nat.lt_or_ge d o with hd' | hd'
    · exact h'.2.2 d hd'
    · have : d = o := by omega
      subst this
      rw [k30, k31, if_pos rfl, if_pos rfl]
      refine ⟨hs.1, hs.2, fun p hp => ?_⟩
      have : p = q := by omega
      subst this
      exact hv.keep h.1 e hs.2
theorem lnkF_low {J : Mem} {s n v : Int} {L : Nat} (h15 : J 26 15 = (L : Int)) : (∀ j, j < L → lnkF J s n v 34 j = J 34 j ∧ lnkF J s n v 36 j = J 36 j) ∧ lnkF J s n v 34 L = n ∧ lnkF J s n v 36 L = s ∧ lnkF J s n v 35 L = v ∧ (∀ j, j < L → lnkF J s n v 35 j = J 35 j) := by
  unfold lnkF
  rw [h15, toNat_c]
  refine ⟨fun j hj => ?_, ?_, ?_, ?_, fun j hj => ?_⟩
  · have : j ≠ L := by omega
    simp [upd2, this]
  · simp [upd2]
  · simp [upd2]
  · simp [upd2]
  · have : j ≠ L := by omega
    simp [upd2, this]
theorem SI.lnk {H : List Hd} {J : Mem} {o L : Nat} {s n v : Int} (h : SI H J o L) (h15 : J 26 15 = (L : Int)) (hs : -1 ≤ s ∧ s < (L : Int)) (hn : LinkOK H J n s) : SI H (lnkF J s n v) o (L + 1) := by
  obtain ⟨l1, l2, l3, -, -⟩ := lnkF_low (s := s) (n := n) (v := v) h15
  have e30 : lnkF J s n v 30 = J 30 := lnkF_id (by decide) (by decide) (by decide) (by decide)
  have e31 : lnkF J s n v 31 = J 31 := lnkF_id (by decide) (by decide) (by decide) (by decide)
  have h' := h.keep (τ := lnkF J s n v) (Nat.le_refl o) l1 (fun d _ => by rw [e30, e31]; exact ⟨rfl, rfl⟩)
  refine ⟨fun j hj => ?_, fun j hj => ?_, fun d hd => ?_⟩
  · rcases Nat.lt_or_ge j L with hj' | hj'
    · exact h'.1 j hj'
    · have : j = L := by omega
      subst this
      rw [l3]
      exact hs
  · rcases Nat.lt_or_ge j L with hj' | hj'
    · exact h'.2.1 j hj'
    · have : j = L := by omega
      subst this
      rw [l2, l3]
      exact hn.keep h.1 l1 hs.2
  · obtain ⟨a, b, c⟩ := h'.2.2 d hd
    exact ⟨a, by omega, c⟩
/-- with one more link, one more name is seen -/
theorem see_lnk {H : List Hd} {J : Mem} {o L : Nat} {s n v : Int} (h : SI H J o L) (h15 : J 26 15 = (L : Int)) (hs : s < (L : Int)) {G : KS} (hG : ∀ c, G c = true → ∃ i, Vis J c s i) : ∀ c, ins G n c = true → ∃ i, Vis (lnkF J s n v) c (J 26 15) i := by
  obtain ⟨l1, l2, l3, -, -⟩ := lnkF_low (s := s) (n := n) (v := v) h15
  intro c hc
  rw [h15]
  by_cases e : c = n
  · exact ⟨L, Vis.here L (by rw [l2, e])⟩
  · unfold ins at hc
    simp [e] at hc
    obtain ⟨i, hi⟩ := hG c hc
    refine ⟨i, Vis.up L i (by rw [l2]; exact fun q => e q.symm) ?_⟩
    rw [l3]
    exact hi.keep h.1 l1 hs
