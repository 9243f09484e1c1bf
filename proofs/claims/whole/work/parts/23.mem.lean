/-! Rows read and written at natural places; the text of a list of heads. -/
theorem inb_nat {i n : Nat} (h : i < n) : inb (i : Int) n := ⟨by omega, by omega⟩
theorem rd_nat {I : Mem} {id i : Nat} (h : i < sz id) : rd I id (i : Int) = I id i := by
  unfold rd
  rw [if_pos ⟨by omega, by omega⟩]
  rfl
theorem rd_out {I : Mem} {id : Nat} {i : Int} (h : i < 0 ∨ (sz id : Int) ≤ i) : rd I id i = 0 := by
  unfold rd
  rw [if_neg (by omega)]
theorem wr_nat {I : Mem} {id i : Nat} {v : Int} (h : i < sz id) : wr I id (i : Int) v = upd2 I id i v := by
  unfold wr
  rw [if_pos ⟨by omega, by omega⟩]
  rfl
theorem wr_out {I : Mem} {id : Nat} {i v : Int} (h : i < 0 ∨ (sz id : Int) ≤ i) : wr I id i v = I := by
  unfold wr
  rw [if_neg (by omega)]
theorem wrap_of {x : Int} (h1 : -2147483648 ≤ x) (h2 : x < 2147483648) : wrap x = x := wrap_eq ⟨h1, h2⟩
theorem wrap_nat {n : Nat} (h : n < 2147483648) : wrap (n : Int) = n := wrap_of (by omega) (by omega)
theorem wrap_succ {n : Nat} (h : n < 2147483647) : wrap ((n : Int) + 1) = ((n + 1 : Nat) : Int) := by rw [wrap_of (by omega) (by omega)]; omega
theorem upd2_at {I : Mem} {a b c d : Nat} {v : Int} : upd2 I a b v c d = if c = a ∧ d = b then v else I c d := rfl
theorem upd2_id {I : Mem} {a b c : Nat} {v : Int} (h : c ≠ a) : upd2 I a b v c = I c := upd2_ne h
theorem rd_upd {I : Mem} {a b c : Nat} {v i : Int} (h : c ≠ a) : rd (upd2 I a b v) c i = rd I c i := by
  unfold rd
  rw [upd2_ne h]
theorem szT {t i : Nat} (ht : t = 9 ∨ t = 40) (h1 : 1 ≤ i) (h2 : i ≤ 10) : sz (t + i) = 60 := by
  rcases ht with rfl | rfl
  · rcases (by omega : i = 1 ∨ i = 2 ∨ i = 3 ∨ i = 4 ∨ i = 5 ∨ i = 6 ∨ i = 7 ∨ i = 8 ∨ i = 9 ∨ i = 10) with rfl | rfl | rfl | rfl | rfl | rfl | rfl | rfl | rfl | rfl <;> rfl
  · rcases (by omega : i = 1 ∨ i = 2 ∨ i = 3 ∨ i = 4 ∨ i = 5 ∨ i = 6 ∨ i = 7 ∨ i = 8 ∨ i = 9 ∨ i = 10) with rfl | rfl | rfl | rfl | rfl | rfl | rfl | rfl | rfl | rfl <;> rfl
theorem hds_cases (c : Int) : hds c = 1 ∨ hds c = 2 ∨ hds c = 3 := by
  unfold hds
  split
  · right; right; rfl
  · split
    · right; left; rfl
    · left; rfl
theorem pts_le (c : Int) : pts c ≤ 3 := by
  unfold pts
  repeat' split
  all_goals omega
/-! text -/
def toks (h : Hd) : List Int := if hds h.1 = 1 then [h.1] else if hds h.1 = 2 then [h.1, h.2.1] else [h.1, h.2.1, h.2.2]
def tk (H : List Hd) : List Int := H.flatMap toks
def pos (H : List Hd) (p : Nat) : Nat := (tk (H.take p)).length
def norm (H : List Hd) : Prop := ∀ h ∈ H, (hds h.1 < 2 → h.2.1 = 0) ∧ (hds h.1 < 3 → h.2.2 = 0)
theorem toks_len (h : Hd) : (toks h).length = hds h.1 := by
  unfold toks
  rcases hds_cases h.1 with e | e | e <;> simp [e]
theorem tk_app (A B : List Hd) : tk (A ++ B) = tk A ++ tk B := by simp [tk]
theorem tk_cons (h : Hd) (A : List Hd) : tk (h :: A) = toks h ++ tk A := by simp [tk]
theorem len_tk (H : List Hd) : H.length ≤ (tk H).length := by
  induction H with
  | nil => simp [tk]
  | cons h t ih =>
    rw [tk_cons, List.length_append, toks_len, List.length_cons]
    rcases hds_cases h.1 with e | e | e <;> omega
theorem take_succ_hd {H : List Hd} {p : Nat} (hp : p < H.length) : H.take (p + 1) = H.take p ++ [hdA H p] := by
  rw [List.take_succ, List.getElem?_eq_getElem hp]
  unfold hdA
  rw [List.getD_eq_getElem?_getD, List.getElem?_eq_getElem hp]
  rfl
theorem pos_zero (H : List Hd) : pos H 0 = 0 := by simp [pos, tk]
theorem pos_succ {H : List Hd} {p : Nat} (hp : p < H.length) : pos H (p + 1) = pos H p + hds (lt H p) := by
  unfold pos
  rw [take_succ_hd hp, tk_app, List.length_append, tk_cons, List.length_append, toks_len]
  simp [tk, lt]
theorem pos_len (H : List Hd) : pos H H.length = (tk H).length := by unfold pos; rw [List.take_length]
theorem pos_mono {H : List Hd} {p q : Nat} (h : p ≤ q) : pos H p ≤ pos H q := by
  unfold pos
  rw [show H.take p = (H.take q).take p by rw [List.take_take]; congr 1; omega]
  have e : tk (H.take q) = tk ((H.take q).take p) ++ tk ((H.take q).drop p) := by rw [← tk_app, List.take_append_drop]
  rw [e, List.length_append]
  omega
theorem pos_le (H : List Hd) (p : Nat) : pos H p ≤ (tk H).length := by
  have e : tk H = tk (H.take p) ++ tk (H.drop p) := by rw [← tk_app, List.take_append_drop]
  unfold pos
  rw [e, List.length_append]
  omega
theorem pos_add_lt {H : List Hd} {p : Nat} (hp : p < H.length) : pos H p + hds (lt H p) ≤ (tk H).length := by
  rw [← pos_succ hp]
  exact pos_le H _
theorem hds_pos (c : Int) : 1 ≤ hds c := by rcases hds_cases c with e | e | e <;> omega
/-- the tokens at an expression's place -/
theorem tk_at {H : List Hd} {p k : Nat} (hp : p < H.length) (hk : k < hds (lt H p)) : (tk H).getD (pos H p + k) 0 = (toks (hdA H p)).getD k 0 := by
  have e : tk H = tk (H.take p) ++ (toks (hdA H p) ++ tk (H.drop (p + 1))) := by
    rw [← tk_cons, ← drop_cons hp, ← tk_app, List.take_append_drop]
  have hl : k < (toks (hdA H p)).length := by rw [toks_len]; exact hk
  rw [e, List.getD_eq_getElem?_getD, List.getElem?_append_right (by unfold pos; omega)]
  rw [show pos H p + k - (tk (H.take p)).length = k by unfold pos; omega, List.getElem?_append_left hl, List.getD_eq_getElem?_getD]
theorem tk_at0 {H : List Hd} {p : Nat} (hp : p < H.length) : (tk H).getD (pos H p) 0 = lt H p := by
  have := tk_at hp (k := 0) (hds_pos _)
  rw [Nat.add_zero] at this
  rw [this]
  unfold toks lt
  repeat' split
  all_goals rfl
theorem tk_at1 {H : List Hd} {p : Nat} (hp : p < H.length) (h2 : 1 < hds (lt H p)) : (tk H).getD (pos H p + 1) 0 = nm H p := by
  rw [tk_at hp h2]
  unfold toks nm
  unfold lt at h2
  rw [if_neg (by omega)]
  split <;> rfl
theorem tk_at2 {H : List Hd} {p : Nat} (hp : p < H.length) (h2 : 2 < hds (lt H p)) : (tk H).getD (pos H p + 2) 0 = pm H p := by
  rw [tk_at hp h2]
  unfold toks pm
  unfold lt at h2
  rw [if_neg (by omega), if_neg (by omega)]
  rfl
theorem norm_at {H : List Hd} (hn : norm H) {p : Nat} (hp : p < H.length) : (hds (lt H p) < 2 → nm H p = 0) ∧ (hds (lt H p) < 3 → pm H p = 0) := by
  have hm : hdA H p ∈ H := by
    unfold hdA
    rw [List.getD_eq_getElem?_getD, List.getElem?_eq_getElem hp]
    exact List.getElem_mem hp
  exact hn _ hm
/-- a text in a row -/
def Txt (I : Mem) (sg : Nat) (w : List Int) : Prop := ∀ j, j < w.length → I sg j = w.getD j 0
