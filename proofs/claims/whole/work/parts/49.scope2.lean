/-! The names that a run sees. -/
/-- the link of the name c, seen from the scope s -/
def visN (σ : Mem) (c : Int) : Nat → Int → Nat → Prop
  | 0, _, _ => False
  | n + 1, s, j => (s = (j : Int) ∧ σ 34 j = c) ∨ ∃ i : Nat, s = (i : Int) ∧ σ 34 i ≠ c ∧ visN σ c n (σ 36 i) j
def Vis (σ : Mem) (c s : Int) (j : Nat) : Prop := ∃ n, visN σ c n s j
theorem Vis.here {σ : Mem} {c : Int} (j : Nat) (h : σ 34 j = c) : Vis σ c (j : Int) j := ⟨1, Or.inl ⟨rfl, h⟩⟩
theorem Vis.up {σ : Mem} {c : Int} (i j : Nat) (h1 : σ 34 i ≠ c) (h2 : Vis σ c (σ 36 i) j) : Vis σ c (i : Int) j := by
  obtain ⟨n, h2⟩ := h2
  exact ⟨n + 1, Or.inr ⟨i, rfl, h1, h2⟩⟩
theorem Vis.ind {σ : Mem} {c : Int} {M : Int → Nat → Prop} (h1 : ∀ j : Nat, σ 34 j = c → M (j : Int) j) (h2 : ∀ i j : Nat, σ 34 i ≠ c → M (σ 36 i) j → M (i : Int) j) {s : Int} {j : Nat} (h : Vis σ c s j) : M s j := by
  obtain ⟨n, h⟩ := h
  induction n generalizing s with
  | zero => exact h.elim
  | succ n ih =>
    rcases h with ⟨rfl, h⟩ | ⟨i, rfl, h3, h4⟩
    · exact h1 j h
    · exact h2 i j h3 (ih h4)
theorem Vis.name {σ : Mem} {c s : Int} {j : Nat} (h : Vis σ c s j) : σ 34 j = c := by
  exact Vis.ind (M := fun _ j => σ 34 j = c) (fun _ h => h) (fun _ _ _ h => h) h
/-- a scope with L links -/
def Low (σ : Mem) (L : Nat) : Prop := ∀ j, j < L → -1 ≤ σ 36 j ∧ σ 36 j < (j : Int)
theorem Vis.lt {σ : Mem} {c : Int} {L : Nat} (hl : Low σ L) : ∀ {s : Int} {j : Nat}, Vis σ c s j → s < (L : Int) → (j : Int) ≤ s ∧ j < L := by
  intro s j h
  refine Vis.ind (M := fun s j => s < (L : Int) → (j : Int) ≤ s ∧ j < L) (fun j h => ?_) (fun i j h1 ih => ?_) h
  · intro hs; exact ⟨Int.le_refl _, by omega⟩
  · intro hs
    have h3 := hl i (by omega)
    have h4 := ih (by omega)
    omega
theorem Vis.keep {σ τ : Mem} {c : Int} {L : Nat} (hl : Low σ L) (e : ∀ j, j < L → τ 34 j = σ 34 j ∧ τ 36 j = σ 36 j) : ∀ {s : Int} {j : Nat}, Vis σ c s j → s < (L : Int) → Vis τ c s j := by
  intro s j h
  refine Vis.ind (M := fun s j => s < (L : Int) → Vis τ c s j) (fun j h => ?_) (fun i j h1 ih => ?_) h
  · intro hs; exact Vis.here j (by rw [(e j (by omega)).1]; exact h)
  · intro hs
    have h3 := hl i (by omega)
    refine Vis.up i j (by rw [(e i (by omega)).1]; exact h1) ?_
    rw [(e i (by omega)).2]
    exact ih (by omega)
theorem Vis.fnd {σ : Mem} {c : Int} {L : Nat} (hl : Low σ L) (hL : L ≤ 300) : ∀ {s : Int} {j : Nat}, Vis σ c s j → s < (L : Int) → ∀ n : Nat, s < (n : Int) → fndF σ c n s = (j : Int) := by
  intro s j h
  refine Vis.ind (M := fun s j => s < (L : Int) → ∀ n : Nat, s < (n : Int) → fndF σ c n s = (j : Int)) (fun j h => ?_) (fun i j h1 ih => ?_) h
  · intro hs n hn
    cases n with
    | zero => rfl
    | succ n =>
      unfold fndF
      rw [if_pos (Or.inr (by rw [rd_nat (by rw [sz34]; omega)]; exact h))]
  · intro hs n hn
    have h3 := hl i (by omega)
    cases n with
    | zero => omega
    | succ n =>
      unfold fndF
      rw [if_neg (by rw [rd_nat (by rw [sz34]; omega)]; intro q; rcases q with q | q; omega; exact h1 q), rd_nat (by rw [sz36]; omega)]
      exact ih (by omega) n (by omega)
theorem bc_one {c : Int} {H : List Hd} {a : Nat} (ha : a < H.length) : bcnt c (hdA H a) ≤ bc c (H.drop a) := by
  unfold bc
  rw [drop_cons ha, List.map_cons, List.sum_cons]
  omega
theorem bc_drop {c : Int} {H : List Hd} : ∀ a, bc c (H.drop a) ≤ bc c H := by
  intro a
  have : bc c H = bc c (H.take a) + bc c (H.drop a) := by
    unfold bc
    rw [← List.sum_append, ← List.map_append, List.take_append_drop]
  omega
theorem bc_two {c : Int} {H : List Hd} {a b : Nat} (hab : a < b) (hb : b < H.length) : bcnt c (hdA H a) + bcnt c (hdA H b) ≤ bc c H := by
  have h1 : bc c (H.drop a) = bcnt c (hdA H a) + bc c (H.drop (a + 1)) := by
    unfold bc
    rw [drop_cons (by omega), List.map_cons, List.sum_cons]
  have h2 := bc_drop (c := c) (H := H) a
  have h3 := bc_drop (c := c) (H := H.drop (a + 1)) (b - (a + 1))
  rw [List.drop_drop, show a + 1 + (b - (a + 1)) = b by omega] at h3
  have h4 := bc_one (c := c) hb
  omega
theorem def_uniq {H : List Hd} (hH : prog H) {a b : Nat} (ha : a < H.length) (hb : b < H.length) (la : lt H a = 64) (lb : lt H b = 64) (e : nm H a = nm H b) : a = b := by
  have key : ∀ x y, x < y → y < H.length → lt H x = 64 → lt H y = 64 → nm H x = nm H y → False := by
    intro x y hxy hy lx ly e
    have h1 := bc_two (c := nm H x) hxy hy
    have h2 := hH.2.2.1 (nm H x)
    have h3 : 1 ≤ bcnt (nm H x) (hdA H x) := by
      unfold bcnt
      rw [if_pos (show (hdA H x).1 = 64 ∧ (hdA H x).2.1 = nm H x from ⟨lx, rfl⟩)]
      omega
    have h4 : 1 ≤ bcnt (nm H x) (hdA H y) := by
      unfold bcnt
      rw [if_pos (show (hdA H y).1 = 64 ∧ (hdA H y).2.1 = nm H x from ⟨ly, e.symm⟩)]
      omega
    omega
  rcases Nat.lt_trichotomy a b with h | h | h
  · exact (key a b h hb la lb e).elim
  · exact h
  · exact (key b a h ha lb la e.symm).elim
