/-! Sets of names as bits. -/
def ix (c : Int) : Nat := if isVal c = true then (c - 97).toNat else (8 + (c - 65)).toNat
def nam (c : Int) : Bool := isVal c || isFun c
def tbt (x : Int32) (i : Nat) : Bool := x.toBitVec.getLsbD i
def bt (c : Int) : Int32 := Int32.ofInt (bitc c)
theorem tbt_and (x y : Int32) (i : Nat) : tbt (x &&& y) i = (tbt x i && tbt y i) := by
  unfold tbt
  rw [show (x &&& y).toBitVec = x.toBitVec &&& y.toBitVec from rfl, BitVec.getLsbD_and]
theorem tbt_or (x y : Int32) (i : Nat) : tbt (x ||| y) i = (tbt x i || tbt y i) := by
  unfold tbt
  rw [show (x ||| y).toBitVec = x.toBitVec ||| y.toBitVec from rfl, BitVec.getLsbD_or]
theorem tbt_xor (x y : Int32) (i : Nat) : tbt (x ^^^ y) i = (tbt x i ^^ tbt y i) := by
  unfold tbt
  rw [show (x ^^^ y).toBitVec = x.toBitVec ^^^ y.toBitVec from rfl, BitVec.getLsbD_xor]
theorem tbt_ext {x y : Int32} (h : ∀ i, i < 32 → tbt x i = tbt y i) : x = y := Int32.toBitVec.inj (BitVec.eq_of_getLsbD_eq (fun i hi => h i hi))
def m1 : Int32 := Int32.ofInt (-1)
theorem tbt_m1 : ∀ i, i < 32 → tbt m1 i = true := by
  have : ∀ i : Fin 32, tbt m1 i.val = true := by decide
  exact fun i hi => this ⟨i, hi⟩
theorem tbt_0 : ∀ i, i < 32 → tbt 0 i = false := by
  have : ∀ i : Fin 32, tbt 0 i.val = false := by decide
  exact fun i hi => this ⟨i, hi⟩
theorem nam_cases {c : Int} (h : nam c = true) : c = 97 ∨ c = 98 ∨ c = 99 ∨ c = 100 ∨ c = 101 ∨ c = 102 ∨ c = 103 ∨ c = 104 ∨ c = 65 ∨ c = 66 ∨ c = 67 ∨ c = 68 ∨ c = 69 ∨ c = 70 := by
  unfold nam isVal isFun at h
  simp at h
  omega
theorem bt_spec {c : Int} (h : nam c = true) : ix c < 14 ∧ ∀ i, i < 32 → tbt (bt c) i = decide (i = ix c) := by
  have key : ∀ c : Int, (c = 97 ∨ c = 98 ∨ c = 99 ∨ c = 100 ∨ c = 101 ∨ c = 102 ∨ c = 103 ∨ c = 104 ∨ c = 65 ∨ c = 66 ∨ c = 67 ∨ c = 68 ∨ c = 69 ∨ c = 70) → ix c < 14 ∧ ∀ i : Fin 32, tbt (bt c) i.val = decide (i.val = ix c) := by
    intro c hc
    rcases hc with rfl | rfl | rfl | rfl | rfl | rfl | rfl | rfl | rfl | rfl | rfl | rfl | rfl | rfl <;> decide
  obtain ⟨h1, h2⟩ := key c (nam_cases h)
  exact ⟨h1, fun i hi => h2 ⟨i, hi⟩⟩
theorem ix_inj {c d : Int} (hc : nam c = true) (hd : nam d = true) (h : ix c = ix d) : c = d := by
  have hc := nam_cases hc
  have hd := nam_cases hd
  have e : ∀ c : Int, (c = 97 ∨ c = 98 ∨ c = 99 ∨ c = 100 ∨ c = 101 ∨ c = 102 ∨ c = 103 ∨ c = 104 ∨ c = 65 ∨ c = 66 ∨ c = 67 ∨ c = 68 ∨ c = 69 ∨ c = 70) → (ix c : Int) = if 97 ≤ c then c - 97 else c - 57 := by
    intro c hc
    rcases hc with rfl | rfl | rfl | rfl | rfl | rfl | rfl | rfl | rfl | rfl | rfl | rfl | rfl | rfl <;> rfl
  have e1 := e c hc
  have e2 := e d hd
  rw [h] at e1
  split at e1 <;> split at e2 <;> omega
/-- the names in a set of bits -/
def kb (x : Int32) : KS := fun c => nam c && tbt x (ix c)
theorem kb_0 : kb 0 = kE := by
  funext c
  unfold kb kE
  cases h : nam c with
  | false => rfl
  | true => rw [tbt_0 _ (by have := (bt_spec h).1; omega)]; rfl
theorem kb_or {x : Int32} {c : Int} (hc : nam c = true) : kb (x ||| bt c) = ins (kb x) c := by
  funext d
  unfold kb ins
  cases hd : nam d with
  | false =>
    have : d ≠ c := by intro e; rw [e, hc] at hd; cases hd
    simp [this, hd]
  | true =>
    rw [tbt_or, (bt_spec hc).2 _ (by have := (bt_spec hd).1; omega)]
    by_cases e : d = c
    · subst e; simp
    · have : ¬ ix d = ix c := fun q => e (ix_inj hd hc q)
      simp [e, this, hd]
theorem toInt_and (x y : Int32) : iand x.toInt y.toInt = (x &&& y).toInt := by unfold iand; rw [Int32.ofInt_toInt, Int32.ofInt_toInt]
theorem toInt_or (x y : Int32) : ior x.toInt y.toInt = (x ||| y).toInt := by unfold ior; rw [Int32.ofInt_toInt, Int32.ofInt_toInt]
theorem toInt_xor1 (x : Int32) : ixor x.toInt (-1) = (x ^^^ m1).toInt := by unfold ixor; rw [Int32.ofInt_toInt]; rfl
theorem bitc_bt {c : Int} (h : nam c = true) : bitc c = (bt c).toInt := by
  have : ∀ c : Int, (c = 97 ∨ c = 98 ∨ c = 99 ∨ c = 100 ∨ c = 101 ∨ c = 102 ∨ c = 103 ∨ c = 104 ∨ c = 65 ∨ c = 66 ∨ c = 67 ∨ c = 68 ∨ c = 69 ∨ c = 70) → bitc c = (bt c).toInt := by
    intro c hc
    rcases hc with rfl | rfl | rfl | rfl | rfl | rfl | rfl | rfl | rfl | rfl | rfl | rfl | rfl | rfl <;> decide
  exact this c (nam_cases h)
/-- a look at a bit -/
theorem and_bit {x : Int32} {c : Int} (h : nam c = true) : iand x.toInt (bitc c) = 0 ↔ kb x c = false := by
  rw [bitc_bt h, toInt_and]
  obtain ⟨h1, h2⟩ := bt_spec h
  have hk : kb x c = tbt x (ix c) := by unfold kb; rw [h]; rfl
  rw [hk]
  constructor
  · intro e
    have e : x &&& bt c = 0 := by
      have := congrArg Int32.ofInt e
      rw [Int32.ofInt_toInt] at this
      exact this
    have z := congrArg (fun y => tbt y (ix c)) e
    rw [tbt_and, h2 _ (by omega), tbt_0 _ (by omega)] at z
    simpa using z
  · intro e
    have : x &&& bt c = 0 := by
      refine tbt_ext (fun i hi => ?_)
      rw [tbt_and, h2 i hi, tbt_0 i hi]
      by_cases hic : i = ix c
      · rw [hic, e]; rfl
      · simp [hic]
    rw [this]
    rfl
/-- taken out what was put in -/
theorem or_out {x b : Int32} (h : ∀ i, i < 32 → (tbt x i && tbt b i) = false) : (x ||| b) &&& (b ^^^ m1) = x := by
  refine tbt_ext (fun i hi => ?_)
  rw [tbt_and, tbt_or, tbt_xor, tbt_m1 i hi]
  have := h i hi
  cases h1 : tbt x i <;> cases h2 : tbt b i <;> simp_all
theorem bit_free {x : Int32} {c : Int} (hc : nam c = true) (h : kb x c = false) : ∀ i, i < 32 → (tbt x i && tbt (bt c) i) = false := by
  intro i hi
  rw [(bt_spec hc).2 i hi]
  by_cases e : i = ix c
  · subst e
    have hk : kb x c = tbt x (ix c) := by unfold kb; rw [hc]; rfl
    rw [← hk, h]; rfl
  · simp [e]
theorem out_0 (x : Int32) : x &&& (0 ^^^ m1) ||| 0 = x := by
  refine tbt_ext (fun i hi => ?_)
  rw [tbt_or, tbt_and, tbt_xor, tbt_m1 i hi, tbt_0 i hi]
  cases tbt x i <;> rfl
theorem out_00 (x : Int32) : x &&& (0 ^^^ m1) = x := by
  refine tbt_ext (fun i hi => ?_)
  rw [tbt_and, tbt_xor, tbt_m1 i hi, tbt_0 i hi]
  cases tbt x i <;> rfl
theorem or_0 (x : Int32) : x ||| 0 = x := by
  refine tbt_ext (fun i hi => ?_)
  rw [tbt_or, tbt_0 i hi]
  cases tbt x i <;> rfl
/-- the set of a body becomes that behind it -/
theorem or_def {x f v : Int32} (h1 : ∀ i, i < 32 → (tbt x i && tbt f i) = false) (h2 : ∀ i, i < 32 → (tbt x i && tbt v i) = false) : (x ||| (f ||| v)) &&& ((f ||| v) ^^^ m1) ||| f = x ||| f := by
  refine tbt_ext (fun i hi => ?_)
  rw [tbt_or, tbt_and, tbt_or, tbt_or, tbt_xor, tbt_or, tbt_m1 i hi, tbt_or]
  have a := h1 i hi
  have b := h2 i hi
  cases h3 : tbt x i <;> cases h4 : tbt f i <;> cases h5 : tbt v i <;> simp_all
theorem or_assoc' (x f v : Int32) : x ||| (f ||| v) = (x ||| f) ||| v := by
  refine tbt_ext (fun i hi => ?_)
  rw [tbt_or, tbt_or, tbt_or, tbt_or]
  cases tbt x i <;> cases tbt f i <;> cases tbt v i <;> rfl
