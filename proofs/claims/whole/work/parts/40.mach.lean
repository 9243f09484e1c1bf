/-! The run, as a pure machine: its state is a memory in the class's layout (26 the machine, 27 begun, 28 most, 29 present, 30 expression, 31 scope, 32 stage, 33 left, 34 name, 35 value, 36 outer). -/
theorem sz27 : sz 27 = 60 := rfl
theorem sz28 : sz 28 = 3 := rfl
theorem sz29 : sz 29 = 3 := rfl
theorem sz30 : sz 30 = 100 := rfl
theorem sz31 : sz 31 = 100 := rfl
theorem sz32 : sz 32 = 100 := rfl
theorem sz33 : sz 33 = 100 := rfl
theorem sz34 : sz 34 = 300 := rfl
theorem sz35 : sz 35 = 300 := rfl
theorem sz36 : sz 36 = 300 := rfl
def opn (I : Mem) : Nat := (I 26 11).toNat
/-- an expression begins -/
def begF (I : Mem) (p : Nat) (s : Int) : Mem := if 300 ≤ I 26 2 ∨ 100 ≤ I 26 11 then upd2 I 26 0 1
  else upd2 (upd2 (upd2 (upd2 (upd2 (upd2 I 26 2 (I 26 2 + 1)) 27 p (I 27 p + 1)) 30 (opn I) (p : Int)) 31 (opn I) s) 32 (opn I) 0) 26 11 (I 26 11 + 1)
theorem R_begin {I : Mem} {p : Nat} {s : Int} {Q : Post} (hp : p < 60) (h2 : 0 ≤ I 26 2) (h11 : 0 ≤ I 26 11) (h27 : 0 ≤ I 27 p ∧ I 27 p ≤ 300) (h : Q none (begF I p s)) : R 26 0 [(0, .inr (some 26)), (1, .inl (p : Int)), (2, .inl s)] [] I Q := by
  unfold begF at h
  refine t26_0 I _ _ ⟨fun q => ?_, fun q => ⟨fun q2 => ?_, fun q2 => ?_⟩⟩
  · rw [if_pos (Or.inl q)] at h
    exact ⟨Or.inr rfl, h⟩
  · rw [if_neg (by omega)] at h
    have ho : I 26 11 = (opn I : Int) := by unfold opn; omega
    have hoL : opn I < 100 := by omega
    dsimp only
    have r27 : ∀ v, rd (upd2 I 26 2 v) 27 (p : Int) = I 27 p := fun v => by rw [rd_upd (by decide), rd_nat (by rw [sz27]; exact hp)]
    have w27 : ∀ (J : Mem) v, wr J 27 (p : Int) v = upd2 J 27 p v := fun J v => wr_nat (by rw [sz27]; exact hp)
    have w30 : ∀ (J : Mem) v, wr J 30 (opn I : Int) v = upd2 J 30 (opn I) v := fun J v => wr_nat (by rw [sz30]; exact hoL)
    have w31 : ∀ (J : Mem) v, wr J 31 (opn I : Int) v = upd2 J 31 (opn I) v := fun J v => wr_nat (by rw [sz31]; exact hoL)
    have w32 : ∀ (J : Mem) v, wr J 32 (opn I : Int) v = upd2 J 32 (opn I) v := fun J v => wr_nat (by rw [sz32]; exact hoL)
    have o1 : ∀ v w, upd2 (upd2 I 26 2 v) 27 p w 26 11 = (opn I : Int) := fun v w => by rw [← ho]; simp [upd2]
    have o2 : ∀ v w x, upd2 (upd2 (upd2 I 26 2 v) 27 p w) 30 (opn I) x 26 11 = (opn I : Int) := fun v w x => by rw [← ho]; simp [upd2]
    have o3 : ∀ v w x y, upd2 (upd2 (upd2 (upd2 I 26 2 v) 27 p w) 30 (opn I) x) 31 (opn I) y 26 11 = (opn I : Int) := fun v w x y => by rw [← ho]; simp [upd2]
    have o4 : ∀ v w x y z, upd2 (upd2 (upd2 (upd2 (upd2 I 26 2 v) 27 p w) 30 (opn I) x) 31 (opn I) y) 32 (opn I) z 26 11 = (opn I : Int) := fun v w x y z => by rw [← ho]; simp [upd2]
    rw [wrap_of (x := I 26 2 + 1) (by omega) (by omega), r27, w27, o1, w30, o2, w31, o3, w32, o4, wrap_of (x := I 27 p + 1) (by omega) (by omega), wrap_of (x := (opn I : Int) + 1) (by omega) (by omega)]
    rw [ho] at h
    exact h
  · rw [if_pos (by omega)] at h
    exact ⟨Or.inr rfl, h⟩
/-- the link with a name, from a link on -/
def fndF (I : Mem) (n : Int) : Nat → Int → Int
  | 0, s => s
  | k + 1, s => if s < 0 ∨ rd I 34 s = n then s else fndF I n k (rd I 36 s)
theorem find_loop {I : Mem} {n : Int} {Q : Post} : ∀ (d k : Nat) (s : Int), k + d = 300 → Q (some (.inl (fndF I n d s))) I → R 36 5 [(0, .inr (some 26)), (2, .inl n), (3, .inl s), (4, .inl (k : Int))] [] I Q := by
  intro d
  induction d with
  | zero =>
    intro k s hk h
    exact t36_5 I _ _ _ ⟨fun _ => h, fun q => absurd (by omega) q⟩
  | succ d ih =>
    intro k s hk h
    unfold fndF at h
    refine t36_5 I _ _ _ ⟨fun q => absurd q (by omega), fun _ => ⟨fun q => ?_, fun q => ⟨fun q2 => ?_, fun q2 => ?_⟩⟩⟩
    · rw [if_pos (Or.inl q)] at h
      exact h
    · rw [if_pos (Or.inr q2)] at h
      exact h
    · rw [if_neg (fun z => z.elim q q2)] at h
      rw [wrap_succ (by omega)]
      exact ih (k + 1) _ (by omega) h
theorem R_find {I : Mem} {n s : Int} {Q : Post} (h : Q (some (.inl (fndF I n 300 s))) I) : R 36 0 [(0, .inr (some 26)), (1, .inl s), (2, .inl n)] [] I Q := t36_0 I _ _ (find_loop 300 0 s (by omega) h)
/-- frames of the ways below w change by c -/
def cntF (I : Mem) (c : Int) : Nat → Mem
  | 0 => I
  | w + 1 => upd2 (upd2 (cntF I c w) 29 w (cntF I c w 29 w + c)) 28 w (max (cntF I c w 29 w + c) (cntF I c w 28 w))
theorem cntF_id {I : Mem} {c : Int} {id : Nat} (h1 : id ≠ 28) (h2 : id ≠ 29) : ∀ w, cntF I c w id = I id := by
  intro w
  induction w with
  | zero => rfl
  | succ w ih => unfold cntF; rw [upd2_id h1, upd2_id h2]; exact ih
theorem cntF_ge {I : Mem} {c : Int} : ∀ w r, w ≤ r → cntF I c w 29 r = I 29 r := by
  intro w
  induction w with
  | zero => intro r _; rfl
  | succ w ih =>
    intro r hr
    unfold cntF
    rw [upd2_id (by decide), upd2_at, if_neg (by omega)]
    exact ih r (by omega)
theorem count_loop {I : Mem} {c : Int} {w : Nat} (hw : w ≤ 3) (hc : -1 ≤ c ∧ c ≤ 1) (hb : ∀ r, r < 3 → -1000 ≤ I 29 r ∧ I 29 r ≤ 1000) {Q : Post} (h : Q none (cntF I c w)) : ∀ (d k : Nat), k + d = w → R 34 2 [(0, .inr (some 26)), (1, .inl (w : Int)), (2, .inl c), (3, .inl (k : Int))] [] (cntF I c k) Q := by
  intro d
  induction d with
  | zero =>
    intro k hk
    have : k = w := by omega
    subst this
    exact t34_2 _ _ _ _ ⟨fun _ => h, fun q => absurd (Int.le_refl _) q⟩
  | succ d ih =>
    intro k hk
    refine t34_2 _ _ _ _ ⟨fun q => absurd q (by omega), fun _ => ?_⟩
    dsimp only
    have e := cntF_ge (I := I) (c := c) k k (Nat.le_refl _)
    have hbk := hb k (by omega)
    have r29 : rd (cntF I c k) 29 (k : Int) = cntF I c k 29 k := rd_nat (by rw [sz29]; omega)
    have w29 : ∀ v, wr (cntF I c k) 29 (k : Int) v = upd2 (cntF I c k) 29 k v := fun v => wr_nat (by rw [sz29]; omega)
    have r28 : ∀ v, rd (upd2 (cntF I c k) 29 k v) 28 (k : Int) = cntF I c k 28 k := fun v => by rw [rd_upd (by decide), rd_nat (by rw [sz28]; omega)]
    have w28 : ∀ (J : Mem) v, wr J 28 (k : Int) v = upd2 J 28 k v := fun J v => wr_nat (by rw [sz28]; omega)
    rw [r29, wrap_of (x := cntF I c k 29 k + c) (by omega) (by omega), w29, r28, w28, wrap_succ (by omega)]
    exact ih (k + 1) (by omega)
theorem R_count {I : Mem} {c : Int} {w : Nat} (hw : w ≤ 3) (hc : -1 ≤ c ∧ c ≤ 1) (hb : ∀ r, r < 3 → -1000 ≤ I 29 r ∧ I 29 r ≤ 1000) {Q : Post} (h : Q none (cntF I c w)) : R 34 0 [(0, .inr (some 26)), (1, .inl (w : Int)), (2, .inl c)] [] I Q :=
  t34_0 I _ _ (count_loop hw hc hb h w 0 (by omega))
