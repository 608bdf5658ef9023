/-! entries (kind, stamp, value), their order, and the reference's view of them -/
abbrev qe_E : Type := Int32 × Int32 × Int32
abbrev qe_nw (a b : qe_E) : Prop := ¬ a.1 = 0 ∧ (b.1 = 0 ∨ b.2.1 < a.2.1 ∨ (a.2.1 = b.2.1 ∧ (b.1 < a.1 ∨ (a.1 = b.1 ∧ b.2.2 < a.2.2))))
abbrev qe_z : qe_E := (0, 0, 0)
theorem qe_0I : (0 : Int32).toInt = 0 := by decide
theorem qe_n10 : ¬ (1 : Int32) = 0 := by decide
theorem qe_n20 : ¬ (2 : Int32) = 0 := by decide
theorem qe_n30 : ¬ (3 : Int32) = 0 := by decide
theorem qe_n01 : ¬ (0 : Int32) = 1 := by decide
theorem qe_n21 : ¬ (2 : Int32) = 1 := by decide
theorem qe_n31 : ¬ (3 : Int32) = 1 := by decide
theorem qe_nwI (a b : qe_E) : qe_nw a b ↔ (¬ a.1.toInt = 0 ∧ (b.1.toInt = 0 ∨ b.2.1.toInt < a.2.1.toInt ∨ (a.2.1.toInt = b.2.1.toInt ∧ (b.1.toInt < a.1.toInt ∨ (a.1.toInt = b.1.toInt ∧ b.2.2.toInt < a.2.2.toInt))))) := by
  have e1 : ∀ x y : Int32, x = y ↔ x.toInt = y.toInt := fun x y => Int32.toInt_inj.symm
  unfold qe_nw
  rw [e1 a.1 0, e1 b.1 0, e1 a.2.1, e1 a.1 b.1, Int32.lt_iff_toInt_lt, Int32.lt_iff_toInt_lt, Int32.lt_iff_toInt_lt, qe_0I]
theorem qe_irr (a : qe_E) : ¬ qe_nw a a := by rw [qe_nwI]; omega
theorem qe_asy {a b : qe_E} (h : qe_nw a b) : ¬ qe_nw b a := by rw [qe_nwI] at h ⊢; omega
theorem qe_tr {a b c : qe_E} (h : qe_nw a b) (k : qe_nw b c) : qe_nw a c := by rw [qe_nwI] at h k ⊢; omega
theorem qe_ntr {a b c : qe_E} (h : ¬ qe_nw a b) (k : ¬ qe_nw b c) : ¬ qe_nw a c := by rw [qe_nwI] at h k ⊢; omega
def qe_gd (p : Prop) (x : qe_E) : Prop := x = qe_z ∨ (p ∧ x.1 = 1) ∨ (p ∧ x.1 = 2 ∧ x.2.2 = 0) ∨ (¬ p ∧ x.1 = 3 ∧ x.2.2 = 0)
theorem qe_gz {p : Prop} {x : qe_E} (h : qe_gd p x) (h0 : x.1 = 0) : x = qe_z := by
  rcases h with h | h | h | h
  · exact h
  · exact absurd (h0.symm.trans h.2) (by decide)
  · exact absurd (h0.symm.trans h.2.1) (by decide)
  · exact absurd (h0.symm.trans h.2.1) (by decide)
theorem qe_nz (a : qe_E) : ¬ qe_nw qe_z a := fun h => h.1 rfl
/-- two entries neither of which is newer, the empty one being zero, are equal -/
theorem qe_eq {a b : qe_E} (ha : a.1 = 0 → a = qe_z) (hb : b.1 = 0 → b = qe_z) (h : ¬ qe_nw a b) (k : ¬ qe_nw b a) : a = b := by
  by_cases a0 : a.1 = 0
  · by_cases b0 : b.1 = 0
    · rw [ha a0, hb b0]
    · exact absurd ⟨b0, Or.inl a0⟩ k
  · by_cases b0 : b.1 = 0
    · exact absurd ⟨a0, Or.inl b0⟩ h
    · rw [qe_nwI] at h k
      have a1 : ¬ a.1.toInt = 0 := fun z => a0 (Int32.toInt_inj.mp (z.trans qe_0I.symm))
      have b1 : ¬ b.1.toInt = 0 := fun z => b0 (Int32.toInt_inj.mp (z.trans qe_0I.symm))
      have e1 : a.1 = b.1 := Int32.toInt_inj.mp (by omega)
      have e2 : a.2.1 = b.2.1 := Int32.toInt_inj.mp (by omega)
      have e3 : a.2.2 = b.2.2 := Int32.toInt_inj.mp (by omega)
      exact Prod.ext e1 (Prod.ext e2 e3)
theorem qe_geq {p : Prop} {a b : qe_E} (ha : qe_gd p a) (hb : qe_gd p b) (h : ¬ qe_nw a b) (k : ¬ qe_nw b a) : a = b := qe_eq (qe_gz ha) (qe_gz hb) h k
def qe_jn (b a : qe_E) : qe_E := if qe_nw a b then a else b
theorem qe_jg {p : Prop} {a b : qe_E} (ha : qe_gd p a) (hb : qe_gd p b) : qe_gd p (qe_jn b a) := by
  unfold qe_jn; split <;> assumption
theorem qe_jt {a b : qe_E} (h : qe_nw a b) : qe_jn b a = a := if_pos h
theorem qe_jf {a b : qe_E} (h : ¬ qe_nw a b) : qe_jn b a = b := if_neg h
/-- what is at most M takes M in -/
theorem qe_jm {p : Prop} {a M : qe_E} (ha : qe_gd p a) (hM : qe_gd p M) (h : ¬ qe_nw a M) : qe_jn a M = M := by
  by_cases k : qe_nw M a
  · exact qe_jt k
  · rw [qe_jf k]; exact qe_geq ha hM h k
/-- the update of one slot -/
def qe_up (s : Nat → qe_E) (i : Nat) (e : qe_E) : Nat → qe_E := fun j => if j = i then e else s j
theorem qe_us {s : Nat → qe_E} {i : Nat} {e : qe_E} : qe_up s i e i = e := if_pos rfl
theorem qe_un {s : Nat → qe_E} {i j : Nat} {e : qe_E} (h : j ≠ i) : qe_up s i e j = s j := if_neg h
theorem qe_uself {s : Nat → qe_E} {i : Nat} : qe_up s i (s i) = s := by
  funext j; unfold qe_up; split
  · next h => rw [h]
  · rfl
theorem qe_u1 (s : Nat → qe_E) (i : Nat) (k t v : Int32) : upd (fun j => (s j).1) i k = fun j => (qe_up s i (k, t, v) j).1 := by
  funext j; by_cases h : j = i <;> simp [upd, qe_up, h]
theorem qe_u2 (s : Nat → qe_E) (i : Nat) (k t v : Int32) : upd (fun j => (s j).2.1) i t = fun j => (qe_up s i (k, t, v) j).2.1 := by
  funext j; by_cases h : j = i <;> simp [upd, qe_up, h]
theorem qe_u3 (s : Nat → qe_E) (i : Nat) (k t v : Int32) : upd (fun j => (s j).2.2) i v = fun j => (qe_up s i (k, t, v) j).2.2 := by
  funext j; by_cases h : j = i <;> simp [upd, qe_up, h]
/-- the reference's kind, stamp and value of an entry; p: the slot is a place's -/
def qe_er (p : Prop) (x : qe_E) (k s v : Int32) : Prop :=
  (x = qe_z ∧ k = 0) ∨ (p ∧ x = (1, s, v) ∧ k = 1) ∨ (p ∧ x = (2, s, 0) ∧ k = 2 ∧ v = 0) ∨ (¬ p ∧ x = (3, s, 0) ∧ k = 2 ∧ v = 0)
theorem qe_erg {p : Prop} {x : qe_E} {k s v : Int32} (h : qe_er p x k s v) : qe_gd p x := by
  rcases h with ⟨rfl, _⟩ | ⟨hp, rfl, _⟩ | ⟨hp, rfl, _⟩ | ⟨hp, rfl, _⟩
  · exact Or.inl rfl
  · exact Or.inr (Or.inl ⟨hp, rfl⟩)
  · exact Or.inr (Or.inr (Or.inl ⟨hp, rfl, rfl⟩))
  · exact Or.inr (Or.inr (Or.inr ⟨hp, rfl, rfl⟩))
theorem qe_er0 {p : Prop} {x : qe_E} {k s v : Int32} (h : qe_er p x k s v) : k = 0 ↔ x.1 = 0 := by
  rcases h with ⟨rfl, rfl⟩ | ⟨hp, rfl, rfl⟩ | ⟨hp, rfl, rfl, _⟩ | ⟨hp, rfl, rfl, _⟩
  · exact ⟨fun _ => rfl, fun _ => rfl⟩
  · exact ⟨fun z => absurd z qe_n10, fun z => absurd z qe_n10⟩
  · exact ⟨fun z => absurd z qe_n20, fun z => absurd z qe_n20⟩
  · exact ⟨fun z => absurd z qe_n20, fun z => absurd z qe_n30⟩
theorem qe_erst {p : Prop} {x : qe_E} {k s v : Int32} (h : qe_er p x k s v) (h0 : ¬ k = 0) : s = x.2.1 ∧ v = x.2.2 := by
  rcases h with ⟨rfl, rfl⟩ | ⟨hp, rfl, rfl⟩ | ⟨hp, rfl, rfl, rfl⟩ | ⟨hp, rfl, rfl, rfl⟩
  · exact absurd rfl h0
  · exact ⟨rfl, rfl⟩
  · exact ⟨rfl, rfl⟩
  · exact ⟨rfl, rfl⟩
theorem qe_er1 {p : Prop} {x : qe_E} {k s v : Int32} (h : qe_er p x k s v) : k = 1 ↔ x.1 = 1 := by
  rcases h with ⟨rfl, rfl⟩ | ⟨hp, rfl, rfl⟩ | ⟨hp, rfl, rfl, _⟩ | ⟨hp, rfl, rfl, _⟩
  · exact ⟨fun z => absurd z qe_n01, fun z => absurd z qe_n01⟩
  · exact ⟨fun _ => rfl, fun _ => rfl⟩
  · exact ⟨fun z => absurd z qe_n21, fun z => absurd z qe_n21⟩
  · exact ⟨fun z => absurd z qe_n21, fun z => absurd z qe_n31⟩
theorem qe_erz {p : Prop} {s v : Int32} : qe_er p qe_z 0 s v := Or.inl ⟨rfl, rfl⟩
/-- the reference's test of newness -/
theorem qe_nwY {p : Prop} {x e : qe_E} {k s v k' s' v' : Int32} (hx : qe_er p x k s v) (he : qe_er p e k' s' v') (h0 : ¬ k' = 0) : qe_nw e x ↔ (k = 0 ∨ s < s' ∨ (s' = s ∧ k = 1 ∧ (k' = 2 ∨ v < v'))) := by
  rcases he with ⟨rfl, rfl⟩ | ⟨hp, rfl, rfl⟩ | ⟨hp, rfl, rfl, rfl⟩ | ⟨hp, rfl, rfl, rfl⟩
  · exact absurd rfl h0
  · rcases hx with ⟨rfl, rfl⟩ | ⟨hq, rfl, rfl⟩ | ⟨hq, rfl, rfl, rfl⟩ | ⟨hq, rfl, rfl, rfl⟩
    · exact ⟨fun _ => Or.inl rfl, fun _ => ⟨qe_n10, Or.inl rfl⟩⟩
    · simp [qe_nw]
    · simp [qe_nw]
    · exact absurd hp hq
  · rcases hx with ⟨rfl, rfl⟩ | ⟨hq, rfl, rfl⟩ | ⟨hq, rfl, rfl, rfl⟩ | ⟨hq, rfl, rfl, rfl⟩
    · exact ⟨fun _ => Or.inl rfl, fun _ => ⟨qe_n20, Or.inl rfl⟩⟩
    · simp [qe_nw]
    · simp [qe_nw]
    · exact absurd hp hq
  · rcases hx with ⟨rfl, rfl⟩ | ⟨hq, rfl, rfl⟩ | ⟨hq, rfl, rfl, rfl⟩ | ⟨hq, rfl, rfl, rfl⟩
    · exact ⟨fun _ => Or.inl rfl, fun _ => ⟨qe_n30, Or.inl rfl⟩⟩
    · exact absurd hq hp
    · exact absurd hq hp
    · simp [qe_nw]
/-! numbers -/
theorem qa_ix (a s : Nat) : nI a * 72 + nI s = nI (a * 72 + s) := by
  rw [show (72 : Int32) = nI 72 from rfl, pk_mul, nI_add]
theorem qa_4 {a : Nat} (h : a < 1000) : nI a - nI a / 4 * 4 = nI (a % 4) := pk_rem (d := 4) (by omega) (by omega) (by omega)
theorem qa_8 {a : Nat} (h : a < 1000) : nI a / 8 = nI (a / 8) := pk_div (d := 8) (by omega) (by omega) (by omega)
theorem qa_rep {p r : Nat} (hp : p < 100) (hr : r < 100) : (nI p + nI r) - (nI p + nI r) / 4 * 4 = nI ((p + r) % 4) := by
  rw [nI_add]; exact qa_4 (by omega)
theorem qa_n4 : ¬ (4 : Int32) = 0 := by decide
theorem qa_n8 : ¬ (8 : Int32) = 0 := by decide
theorem qa_nI {a b : Nat} (h : nI a = nI b) (ha : a < 2 ^ 31) (hb : b < 2 ^ 31) : a = b := (nI_eq ha hb).mp h
