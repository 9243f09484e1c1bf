/-! usesIn and callsIn count. -/
def cU (H : List Hd) (L : Int) (a : Nat) : Nat → Nat
  | 0 => 0
  | n + 1 => cU H L a n + if lt H (a + n) = L then 1 else 0
theorem cU_le (H : List Hd) (L : Int) (a : Nat) : ∀ n, cU H L a n ≤ n := by
  intro n
  induction n with
  | zero => exact Nat.le_refl _
  | succ n ih => unfold cU; split <;> omega
theorem uses_loop {t : Nat} (ht : t = 9 ∨ t = 40) {H : List Hd} (h60 : H.length ≤ 60) {I : Mem} (hT : TreeOK I t H) {L : Int} {Q : Post} {a n : Nat} (hn : a + n ≤ H.length) (hQ : Q (some (.inl (cU H L a n : Int))) I) :
    ∀ (d j : Nat), j + d = n → R 74 17 [(0, .inr (some t)), (2, .inl L), (3, .inl (cU H L a j : Int)), (4, .inl ((a + n : Nat) : Int)), (5, .inl ((a + j : Nat) : Int))] [] I Q := by
  intro d
  induction d with
  | zero =>
    intro j hj
    have : j = n := by omega
    subst this
    exact t74_17 t ht I _ _ _ _ ⟨fun _ => hQ, fun h => absurd (by omega) h⟩
  | succ d ih =>
    intro j hj
    have hc := cU_le H L a j
    have e0 : rd I (t + 1) ((a + j : Nat) : Int) = lt H (a + j) := by
      rw [rd_nat (by rw [szT ht (by omega) (by omega)]; omega)]
      exact (hT.2.1 (a + j) (by omega)).1
    have hr := ih (j + 1) (by omega)
    refine t74_17 t ht I _ _ _ _ ⟨fun h => absurd h (by omega), fun _ => ?_⟩
    rw [e0, wrap_succ (n := a + j) (by omega), wrap_succ (n := cU H L a j) (by omega)]
    refine ⟨fun h => ?_, fun h => ?_⟩
    · unfold cU at hr
      rw [if_neg h] at hr
      exact hr
    · unfold cU at hr
      rw [if_pos (by simpa using h)] at hr
      exact hr
theorem R_uses {t : Nat} (ht : t = 9 ∨ t = 40) {H : List Hd} (h60 : H.length ≤ 60) {I : Mem} (hT : TreeOK I t H) {p : Nat} (hp : p < H.length) {L : Int} {Q : Post} (hQ : Q (some (.inl (cU H L p (sp H p) : Int))) I) :
    R 74 0 [(0, .inr (some t)), (1, .inl (p : Int)), (2, .inl L)] [] I Q := by
  refine t74_0 t ht I _ _ ?_
  have hs := sp_le (H := H) (p := p) (by omega)
  rw [rd_nat (by rw [szT ht (by omega) (by omega)]; omega), (hT.2.2.2.1 p hp).2, wrap_of (by omega) (by omega), show ((p : Int) + (sp H p : Int)) = ((p + sp H p : Nat) : Int) by omega]
  exact uses_loop ht h60 hT (a := p) (n := sp H p) hs hQ (sp H p) 0 (by omega)
def cC (H : List Hd) (F : Int) (a : Nat) : Nat → Nat
  | 0 => 0
  | n + 1 => cC H F a n + if lt H (a + n) = 33 ∧ nm H (a + n) = F then 1 else 0
theorem cC_le (H : List Hd) (F : Int) (a : Nat) : ∀ n, cC H F a n ≤ n := by
  intro n
  induction n with
  | zero => exact Nat.le_refl _
  | succ n ih => unfold cC; split <;> omega
theorem calls_loop {t : Nat} (ht : t = 9 ∨ t = 40) {H : List Hd} (h60 : H.length ≤ 60) {I : Mem} (hT : TreeOK I t H) {F : Int} {Q : Post} {a n : Nat} (hn : a + n ≤ H.length) (hQ : Q (some (.inl (cC H F a n : Int))) I) :
    ∀ (d j : Nat), j + d = n → R 75 17 [(0, .inr (some t)), (2, .inl F), (3, .inl (cC H F a j : Int)), (4, .inl ((a + n : Nat) : Int)), (5, .inl ((a + j : Nat) : Int))] [] I Q := by
  intro d
  induction d with
  | zero =>
    intro j hj
    have : j = n := by omega
    subst this
    exact t75_17 t ht I _ _ _ _ ⟨fun _ => hQ, fun h => absurd (by omega) h⟩
  | succ d ih =>
    intro j hj
    have hc := cC_le H F a j
    have e0 : rd I (t + 1) ((a + j : Nat) : Int) = lt H (a + j) := by
      rw [rd_nat (by rw [szT ht (by omega) (by omega)]; omega)]
      exact (hT.2.1 (a + j) (by omega)).1
    have e1 : rd I (t + 2) ((a + j : Nat) : Int) = nm H (a + j) := by
      rw [rd_nat (by rw [szT ht (by omega) (by omega)]; omega)]
      exact (hT.2.1 (a + j) (by omega)).2.1
    have hr := ih (j + 1) (by omega)
    refine t75_17 t ht I _ _ _ _ ⟨fun h => absurd h (by omega), fun _ => ?_⟩
    rw [e0, e1, wrap_succ (n := a + j) (by omega), wrap_succ (n := cC H F a j) (by omega)]
    unfold cC at hr
    refine ⟨fun h => ?_, fun h => ⟨fun h2 => ?_, fun h2 => ?_⟩⟩
    · rw [if_neg (fun q => h q.1)] at hr
      exact hr
    · rw [if_neg (fun q => h2 q.2)] at hr
      exact hr
    · rw [if_pos ⟨by simpa using h, by simpa using h2⟩] at hr
      exact hr
theorem R_calls {t : Nat} (ht : t = 9 ∨ t = 40) {H : List Hd} (h60 : H.length ≤ 60) {I : Mem} (hT : TreeOK I t H) {p : Nat} (hp : p < H.length) {F : Int} {Q : Post} (hQ : Q (some (.inl (cC H F p (sp H p) : Int))) I) :
    R 75 0 [(0, .inr (some t)), (1, .inl (p : Int)), (2, .inl F)] [] I Q := by
  refine t75_0 t ht I _ _ ?_
  have hs := sp_le (H := H) (p := p) (by omega)
  rw [rd_nat (by rw [szT ht (by omega) (by omega)]; omega), (hT.2.2.2.1 p hp).2, wrap_of (by omega) (by omega), show ((p : Int) + (sp H p : Int)) = ((p + sp H p : Nat) : Int) by omega]
  exact calls_loop ht h60 hT (a := p) (n := sp H p) hs hQ (sp H p) 0 (by omega)
