section
/-! rows pasted from kit/rows/PURE-ROWS -/
theorem pk_us {f : Nat → Int32} {k : Nat} {x : Int32} : upd f k x k = x := if_pos rfl
theorem pk_un {f : Nat → Int32} {k j : Nat} {x : Int32} (h : j ≠ k) : upd f k x j = f j := if_neg h
theorem pk_sub {a b : Nat} (h : b ≤ a) : nI a - nI b = nI (a - b) := by
  obtain ⟨c, rfl⟩ : ∃ c, a = c + b := ⟨a - b, by omega⟩
  rw [← nI_add, Int32.add_sub_cancel, Nat.add_sub_cancel]
theorem pk_m1 (n : Nat) : nI (n + 1) + (-1) = nI n := by
  rw [← nI_1, Int32.add_assoc, show (1 : Int32) + (-1) = 0 from rfl, Int32.add_zero]
theorem pk_mul (a b : Nat) : nI a * nI b = nI (a * b) := (Int32.ofNat_mul a b).symm
theorem pk_div {a d : Nat} (ha : a < 2 ^ 31) (h0 : 0 < d) (hd : d < 2 ^ 31) : nI a / nI d = nI (a / d) := by
  apply Int32.toInt_inj.mp
  rw [lg_idiv_nonneg (by rw [nI_toInt ha]; omega) (by rw [nI_toInt hd]; omega), nI_toInt ha, nI_toInt hd, nI_toInt (Nat.lt_of_le_of_lt (Nat.div_le_self a d) ha)]
  first | rfl | exact (Int.natCast_ediv _ _).symm
theorem pk_rem {a d : Nat} (ha : a < 2 ^ 31) (h0 : 0 < d) (hd : d < 2 ^ 31) : nI a - nI a / nI d * nI d = nI (a % d) := by
  rw [pk_div ha h0 hd, pk_mul, pk_sub (Nat.div_mul_le_self a d)]
  exact congrArg nI (by have := Nat.div_add_mod' a d; omega)
theorem pk_ix (x : Int32) {n : Nat} (hn : n < 2 ^ 31) : x < 0 ∨ nI n ≤ x ∨ ∃ j : Nat, j < n ∧ x = nI j := by
  by_cases h : x < 0
  · exact Or.inl h
  · obtain ⟨j, hj, rfl⟩ := nI_of h
    by_cases h2 : j < n
    · exact Or.inr (Or.inr ⟨j, h2, rfl⟩)
    · exact Or.inr (Or.inl (nI_le (by omega) hj))
theorem pk_le {x y : Int32} {A B : Prop} (a b : Nat) (f : a ≤ b → A) (g : b < a → B) (hx : x = nI a := by rfl) (hy : y = nI b := by rfl) (ha : a < 2 ^ 31 := by omega) (hb : b < 2 ^ 31 := by omega) : (x ≤ y → A) ∧ (¬ x ≤ y → B) := by
  subst hx hy
  rw [nI_leI ha hb]
  exact ⟨f, fun z => g (by omega)⟩
theorem pk_lt {x y : Int32} {A B : Prop} (a b : Nat) (f : a < b → A) (g : b ≤ a → B) (hx : x = nI a := by rfl) (hy : y = nI b := by rfl) (ha : a < 2 ^ 31 := by omega) (hb : b < 2 ^ 31 := by omega) : (x < y → A) ∧ (¬ x < y → B) := by
  subst hx hy
  rw [nI_ltI ha hb]
  exact ⟨f, fun z => g (by omega)⟩
theorem pk_eq {x y : Int32} {A B : Prop} (a b : Nat) (f : a = b → A) (g : a ≠ b → B) (hx : x = nI a := by rfl) (hy : y = nI b := by rfl) (ha : a < 2 ^ 31 := by omega) (hb : b < 2 ^ 31 := by omega) : (x = y → A) ∧ (¬ x = y → B) := by
  subst hx hy
  rw [nI_eq ha hb]
  exact ⟨f, g⟩
theorem pk_in {x : Int32} (n N : Nat) (h : n < N) (hx : x = nI n := by rfl) (hN : N < 2 ^ 31 := by omega) : vp_in x N := by
  subst hx
  exact vp_in_nI h hN
theorem pk_cl {x : Int32} (n : Nat) (hx : x = nI n := by rfl) (h : n < 2 ^ 31 := by omega) : x.toNatClampNeg = n := by
  subst hx
  exact nI_clamp h
theorem pk_loop {σ : Type} (W : Nat → Nat → σ → Prop) (I : Nat → σ → Prop) (e i0 : Nat) (s : σ) (hi : i0 ≤ e) (h0 : I i0 s) (hx : ∀ n s, I e s → W (n + 1) e s)
    (hs : ∀ n i s, i < e → I i s → (∀ s', I (i + 1) s' → W n (i + 1) s') → W (n + 1) i s) : ∃ n, W n i0 s :=
  ⟨e + 1, loop_i W I e hx hs (e + 1) i0 s hi (by omega) h0⟩
end
section
/-! entries (kind, stamp, value), their order, and the reference's view of them -/
abbrev qe_E : Type := Int32 × Int32 × Int32
abbrev qe_nw (a b : qe_E) : Prop := ¬ a.1 = 0 ∧ (b.1 = 0 ∨ b.2.1 < a.2.1 ∨ (a.2.1 = b.2.1 ∧ (b.1 < a.1 ∨ (a.1 = b.1 ∧ b.2.2 < a.2.2))))
abbrev qe_z : qe_E := (0, 0, 0)
theorem qe_0I : (0 : Int32).toInt = 0 := by decide
theorem qe_n10 : ¬ (1 : Int32) = 0 := by decide
theorem qe_n20 : ¬ (2 : Int32) = 0 := by decide
theorem qe_n30 : ¬ (3 : Int32) = 0 := by decide
theorem qe_n01 : ¬ (0 : Int32) = 1 := by decide
theorem qe_n21 : ¬ (2 : Int32) = 1 := by decide
theorem qe_n31 : ¬ (3 : Int32) = 1 := by decide
theorem qe_nwI (a b : qe_E) : qe_nw a b ↔ (¬ a.1.toInt = 0 ∧ (b.1.toInt = 0 ∨ b.2.1.toInt < a.2.1.toInt ∨ (a.2.1.toInt = b.2.1.toInt ∧ (b.1.toInt < a.1.toInt ∨ (a.1.toInt = b.1.toInt ∧ b.2.2.toInt < a.2.2.toInt))))) := by
  have e1 : ∀ x y : Int32, x = y ↔ x.toInt = y.toInt := fun x y => Int32.toInt_inj.symm
  unfold qe_nw
  rw [e1 a.1 0, e1 b.1 0, e1 a.2.1, e1 a.1 b.1, Int32.lt_iff_toInt_lt, Int32.lt_iff_toInt_lt, Int32.lt_iff_toInt_lt, qe_0I]
theorem qe_irr (a : qe_E) : ¬ qe_nw a a := by rw [qe_nwI]; omega
theorem qe_asy {a b : qe_E} (h : qe_nw a b) : ¬ qe_nw b a := by rw [qe_nwI] at h ⊢; omega
theorem qe_tr {a b c : qe_E} (h : qe_nw a b) (k : qe_nw b c) : qe_nw a c := by rw [qe_nwI] at h k ⊢; omega
theorem qe_ntr {a b c : qe_E} (h : ¬ qe_nw a b) (k : ¬ qe_nw b c) : ¬ qe_nw a c := by rw [qe_nwI] at h k ⊢; omega
def qe_gd (p : Prop) (x : qe_E) : Prop := x = qe_z ∨ (p ∧ x.1 = 1) ∨ (p ∧ x.1 = 2 ∧ x.2.2 = 0) ∨ (¬ p ∧ x.1 = 3 ∧ x.2.2 = 0)
theorem qe_gz {p : Prop} {x : qe_E} (h : qe_gd p x) (h0 : x.1 = 0) : x = qe_z := by
  rcases h with h | h | h | h
  · exact h
  · exact absurd (h0.symm.trans h.2) (by decide)
  · exact absurd (h0.symm.trans h.2.1) (by decide)
  · exact absurd (h0.symm.trans h.2.1) (by decide)
theorem qe_nz (a : qe_E) : ¬ qe_nw qe_z a := fun h => h.1 rfl
/-- two entries neither of which is newer, the empty one being zero, are equal -/
theorem qe_eq {a b : qe_E} (ha : a.1 = 0 → a = qe_z) (hb : b.1 = 0 → b = qe_z) (h : ¬ qe_nw a b) (k : ¬ qe_nw b a) : a = b := by
  by_cases a0 : a.1 = 0
  · by_cases b0 : b.1 = 0
    · rw [ha a0, hb b0]
    · exact absurd ⟨b0, Or.inl a0⟩ k
  · by_cases b0 : b.1 = 0
    · exact absurd ⟨a0, Or.inl b0⟩ h
    · rw [qe_nwI] at h k
      have a1 : ¬ a.1.toInt = 0 := fun z => a0 (Int32.toInt_inj.mp (z.trans qe_0I.symm))
      have b1 : ¬ b.1.toInt = 0 := fun z => b0 (Int32.toInt_inj.mp (z.trans qe_0I.symm))
      have e1 : a.1 = b.1 := Int32.toInt_inj.mp (by omega)
      have e2 : a.2.1 = b.2.1 := Int32.toInt_inj.mp (by omega)
      have e3 : a.2.2 = b.2.2 := Int32.toInt_inj.mp (by omega)
      exact Prod.ext e1 (Prod.ext e2 e3)
theorem qe_geq {p : Prop} {a b : qe_E} (ha : qe_gd p a) (hb : qe_gd p b) (h : ¬ qe_nw a b) (k : ¬ qe_nw b a) : a = b := qe_eq (qe_gz ha) (qe_gz hb) h k
def qe_jn (b a : qe_E) : qe_E := if qe_nw a b then a else b
theorem qe_jg {p : Prop} {a b : qe_E} (ha : qe_gd p a) (hb : qe_gd p b) : qe_gd p (qe_jn b a) := by
  unfold qe_jn; split <;> assumption
theorem qe_jt {a b : qe_E} (h : qe_nw a b) : qe_jn b a = a := if_pos h
theorem qe_jf {a b : qe_E} (h : ¬ qe_nw a b) : qe_jn b a = b := if_neg h
/-- what is at most M takes M in -/
theorem qe_jm {p : Prop} {a M : qe_E} (ha : qe_gd p a) (hM : qe_gd p M) (h : ¬ qe_nw a M) : qe_jn a M = M := by
  by_cases k : qe_nw M a
  · exact qe_jt k
  · rw [qe_jf k]; exact qe_geq ha hM h k
/-- the update of one slot -/
def qe_up (s : Nat → qe_E) (i : Nat) (e : qe_E) : Nat → qe_E := fun j => if j = i then e else s j
theorem qe_us {s : Nat → qe_E} {i : Nat} {e : qe_E} : qe_up s i e i = e := if_pos rfl
theorem qe_un {s : Nat → qe_E} {i j : Nat} {e : qe_E} (h : j ≠ i) : qe_up s i e j = s j := if_neg h
theorem qe_uself {s : Nat → qe_E} {i : Nat} : qe_up s i (s i) = s := by
  funext j; unfold qe_up; split
  · next h => rw [h]
  · rfl
theorem qe_u1 (s : Nat → qe_E) (i : Nat) (k t v : Int32) : upd (fun j => (s j).1) i k = fun j => (qe_up s i (k, t, v) j).1 := by
  funext j; by_cases h : j = i <;> simp [upd, qe_up, h]
theorem qe_u2 (s : Nat → qe_E) (i : Nat) (k t v : Int32) : upd (fun j => (s j).2.1) i t = fun j => (qe_up s i (k, t, v) j).2.1 := by
  funext j; by_cases h : j = i <;> simp [upd, qe_up, h]
theorem qe_u3 (s : Nat → qe_E) (i : Nat) (k t v : Int32) : upd (fun j => (s j).2.2) i v = fun j => (qe_up s i (k, t, v) j).2.2 := by
  funext j; by_cases h : j = i <;> simp [upd, qe_up, h]
/-- the reference's kind, stamp and value of an entry; p: the slot is a place's -/
def qe_er (p : Prop) (x : qe_E) (k s v : Int32) : Prop :=
  (x = qe_z ∧ k = 0) ∨ (p ∧ x = (1, s, v) ∧ k = 1) ∨ (p ∧ x = (2, s, 0) ∧ k = 2 ∧ v = 0) ∨ (¬ p ∧ x = (3, s, 0) ∧ k = 2 ∧ v = 0)
theorem qe_erg {p : Prop} {x : qe_E} {k s v : Int32} (h : qe_er p x k s v) : qe_gd p x := by
  rcases h with ⟨rfl, _⟩ | ⟨hp, rfl, _⟩ | ⟨hp, rfl, _⟩ | ⟨hp, rfl, _⟩
  · exact Or.inl rfl
  · exact Or.inr (Or.inl ⟨hp, rfl⟩)
  · exact Or.inr (Or.inr (Or.inl ⟨hp, rfl, rfl⟩))
  · exact Or.inr (Or.inr (Or.inr ⟨hp, rfl, rfl⟩))
theorem qe_er0 {p : Prop} {x : qe_E} {k s v : Int32} (h : qe_er p x k s v) : k = 0 ↔ x.1 = 0 := by
  rcases h with ⟨rfl, rfl⟩ | ⟨hp, rfl, rfl⟩ | ⟨hp, rfl, rfl, _⟩ | ⟨hp, rfl, rfl, _⟩
  · exact ⟨fun _ => rfl, fun _ => rfl⟩
  · exact ⟨fun z => absurd z qe_n10, fun z => absurd z qe_n10⟩
  · exact ⟨fun z => absurd z qe_n20, fun z => absurd z qe_n20⟩
  · exact ⟨fun z => absurd z qe_n20, fun z => absurd z qe_n30⟩
theorem qe_erst {p : Prop} {x : qe_E} {k s v : Int32} (h : qe_er p x k s v) (h0 : ¬ k = 0) : s = x.2.1 ∧ v = x.2.2 := by
  rcases h with ⟨rfl, rfl⟩ | ⟨hp, rfl, rfl⟩ | ⟨hp, rfl, rfl, rfl⟩ | ⟨hp, rfl, rfl, rfl⟩
  · exact absurd rfl h0
  · exact ⟨rfl, rfl⟩
  · exact ⟨rfl, rfl⟩
  · exact ⟨rfl, rfl⟩
theorem qe_er1 {p : Prop} {x : qe_E} {k s v : Int32} (h : qe_er p x k s v) : k = 1 ↔ x.1 = 1 := by
  rcases h with ⟨rfl, rfl⟩ | ⟨hp, rfl, rfl⟩ | ⟨hp, rfl, rfl, _⟩ | ⟨hp, rfl, rfl, _⟩
  · exact ⟨fun z => absurd z qe_n01, fun z => absurd z qe_n01⟩
  · exact ⟨fun _ => rfl, fun _ => rfl⟩
  · exact ⟨fun z => absurd z qe_n21, fun z => absurd z qe_n21⟩
  · exact ⟨fun z => absurd z qe_n21, fun z => absurd z qe_n31⟩
theorem qe_erz {p : Prop} {s v : Int32} : qe_er p qe_z 0 s v := Or.inl ⟨rfl, rfl⟩
/-- the reference's test of newness -/
theorem qe_nwY {p : Prop} {x e : qe_E} {k s v k' s' v' : Int32} (hx : qe_er p x k s v) (he : qe_er p e k' s' v') (h0 : ¬ k' = 0) : qe_nw e x ↔ (k = 0 ∨ s < s' ∨ (s' = s ∧ k = 1 ∧ (k' = 2 ∨ v < v'))) := by
  rcases he with ⟨rfl, rfl⟩ | ⟨hp, rfl, rfl⟩ | ⟨hp, rfl, rfl, rfl⟩ | ⟨hp, rfl, rfl, rfl⟩
  · exact absurd rfl h0
  · rcases hx with ⟨rfl, rfl⟩ | ⟨hq, rfl, rfl⟩ | ⟨hq, rfl, rfl, rfl⟩ | ⟨hq, rfl, rfl, rfl⟩
    · exact ⟨fun _ => Or.inl rfl, fun _ => ⟨qe_n10, Or.inl rfl⟩⟩
    · simp [qe_nw]
    · simp [qe_nw]
    · exact absurd hp hq
  · rcases hx with ⟨rfl, rfl⟩ | ⟨hq, rfl, rfl⟩ | ⟨hq, rfl, rfl, rfl⟩ | ⟨hq, rfl, rfl, rfl⟩
    · exact ⟨fun _ => Or.inl rfl, fun _ => ⟨qe_n20, Or.inl rfl⟩⟩
    · simp [qe_nw]
    · simp [qe_nw]
    · exact absurd hp hq
  · rcases hx with ⟨rfl, rfl⟩ | ⟨hq, rfl, rfl⟩ | ⟨hq, rfl, rfl, rfl⟩ | ⟨hq, rfl, rfl, rfl⟩
    · exact ⟨fun _ => Or.inl rfl, fun _ => ⟨qe_n30, Or.inl rfl⟩⟩
    · exact absurd hq hp
    · exact absurd hq hp
    · simp [qe_nw]
/-! numbers -/
theorem qa_ix (a s : Nat) : nI a * 72 + nI s = nI (a * 72 + s) := by
  rw [show (72 : Int32) = nI 72 from rfl, pk_mul, nI_add]
theorem qa_4 {a : Nat} (h : a < 1000) : nI a - nI a / 4 * 4 = nI (a % 4) := pk_rem (d := 4) (by omega) (by omega) (by omega)
theorem qa_8 {a : Nat} (h : a < 1000) : nI a / 8 = nI (a / 8) := pk_div (d := 8) (by omega) (by omega) (by omega)
theorem qa_rep {p r : Nat} (hp : p < 100) (hr : r < 100) : (nI p + nI r) - (nI p + nI r) / 4 * 4 = nI ((p + r) % 4) := by
  rw [nI_add]; exact qa_4 (by omega)
theorem qa_n4 : ¬ (4 : Int32) = 0 := by decide
theorem qa_n8 : ¬ (8 : Int32) = 0 := by decide
theorem qa_nI {a b : Nat} (h : nI a = nI b) (ha : a < 2 ^ 31) (hb : b < 2 ^ 31) : a = b := (nI_eq ha hb).mp h
end
section
/-! who is asked in a read, the newest of the asked, and the sharing of it: pure -/
abbrev qr_nd (p r : Nat) : Nat := (p + r) % 4
abbrev qr_ix (p sl r : Nat) : Nat := (p + r) % 4 * 72 + sl
theorem qr_ixne {p sl r q : Nat} (hr : r < 3) (hq : q < 3) (h : r ≠ q) : qr_ix p sl r ≠ qr_ix p sl q := by
  unfold qr_ix; omega
theorem qr_ixlt {p sl r : Nat} (h : sl < 72) : qr_ix p sl r < 288 := by
  unfold qr_ix; omega
theorem qr_ixp {p sl r : Nat} (h : sl < 72) : qr_ix p sl r % 72 = sl := by
  unfold qr_ix; omega
/-- how many replicas are up below rank r -/
def qr_ct (dn : Nat → Int32) (p : Nat) : Nat → Nat
  | 0 => 0
  | r + 1 => if dn (qr_nd p r) = 0 then qr_ct dn p r + 1 else qr_ct dn p r
/-- how many are asked below rank r -/
def qr_ac (dn : Nat → Int32) (p L : Nat) : Nat → Nat
  | 0 => 0
  | r + 1 => if dn (qr_nd p r) = 0 ∧ qr_ac dn p L r < L then qr_ac dn p L r + 1 else qr_ac dn p L r
abbrev qr_A (dn : Nat → Int32) (p L r : Nat) : Prop := dn (qr_nd p r) = 0 ∧ qr_ac dn p L r < L
def qr_la (dn : Nat → Int32) (p L : Nat) : Nat → Nat
  | 0 => 0
  | r + 1 => if qr_A dn p L r then r else qr_la dn p L r
theorem qr_ctle (dn : Nat → Int32) (p r : Nat) : qr_ct dn p r ≤ r := by
  induction r with
  | zero => exact Nat.le_refl 0
  | succ r ih => unfold qr_ct; split <;> omega
theorem qr_acle (dn : Nat → Int32) (p L r : Nat) : qr_ac dn p L r ≤ r := by
  induction r with
  | zero => exact Nat.le_refl 0
  | succ r ih => unfold qr_ac; split <;> omega
theorem qr_lale (dn : Nat → Int32) (p L r : Nat) : qr_la dn p L r ≤ r := by
  induction r with
  | zero => exact Nat.le_refl 0
  | succ r ih => unfold qr_la; split <;> omega
/-- the asked are those that are up, up to the last asked -/
theorem qr_last {dn : Nat → Int32} {p L : Nat} (h1 : 1 ≤ L) (hL : L ≤ qr_ct dn p 3) :
    qr_la dn p L 3 < 3 ∧ qr_A dn p L (qr_la dn p L 3) ∧ ∀ r, r < 3 → (qr_A dn p L r ↔ (dn (qr_nd p r) = 0 ∧ r ≤ qr_la dn p L 3)) := by
  have hc := qr_ctle dn p 3
  have hL3 : L = 1 ∨ L = 2 ∨ L = 3 := by omega
  by_cases k0 : dn (qr_nd p 0) = 0 <;> by_cases k1 : dn (qr_nd p 1) = 0 <;> by_cases k2 : dn (qr_nd p 2) = 0 <;>
    rcases hL3 with rfl | rfl | rfl <;>
    first
    | (exfalso; simp [qr_ct, k0, k1, k2] at hL; done)
    | (refine ⟨by simp [qr_la, qr_A, qr_ac, k0, k1, k2], by simp [qr_la, qr_A, qr_ac, k0, k1, k2], fun r hr => ?_⟩
       rcases (by omega : r = 0 ∨ r = 1 ∨ r = 2) with rfl | rfl | rfl <;> simp [qr_la, qr_A, qr_ac, k0, k1, k2])
/-- M is the newest of the asked below rank k (nothing, if they hold nothing) -/
def qr_IM (dn : Nat → Int32) (p L : Nat) (e : Nat → qe_E) (k : Nat) (M : qe_E) : Prop :=
  (∀ r, r < k → qr_A dn p L r → ¬ qe_nw (e r) M) ∧ (M = qe_z ∨ ∃ r, r < k ∧ qr_A dn p L r ∧ e r = M)
def qr_mx (dn : Nat → Int32) (p L : Nat) (e : Nat → qe_E) : Nat → qe_E
  | 0 => qe_z
  | r + 1 => if qr_A dn p L r then qe_jn (qr_mx dn p L e r) (e r) else qr_mx dn p L e r
theorem qr_IM0 {dn : Nat → Int32} {p L : Nat} {e : Nat → qe_E} : qr_IM dn p L e 0 qe_z := ⟨fun r h => absurd h (Nat.not_lt_zero r), Or.inl rfl⟩
theorem qr_IMn {dn : Nat → Int32} {p L : Nat} {e : Nat → qe_E} {k : Nat} {M : qe_E} (h : qr_IM dn p L e k M) (hA : ¬ qr_A dn p L k) : qr_IM dn p L e (k + 1) M := by
  refine ⟨fun r hr hB => ?_, ?_⟩
  · rcases Nat.lt_or_ge r k with c | c
    · exact h.1 r c hB
    · obtain rfl : r = k := by omega
      exact absurd hB hA
  · rcases h.2 with z | ⟨r, hr, hB, e1⟩
    · exact Or.inl z
    · exact Or.inr ⟨r, by omega, hB, e1⟩
/-- one more is asked: the join of it and of what was the newest, either way round -/
theorem qr_IMs {dn : Nat → Int32} {p L : Nat} {e : Nat → qe_E} {k : Nat} {M N : qe_E} (h : qr_IM dn p L e k M) (hA : qr_A dn p L k)
    (hN : (N = M ∧ ¬ qe_nw (e k) M) ∨ (N = e k ∧ ¬ qe_nw M (e k))) : qr_IM dn p L e (k + 1) N := by
  rcases hN with ⟨rfl, hn⟩ | ⟨rfl, hn⟩
  · refine ⟨fun r hr hB => ?_, ?_⟩
    · rcases Nat.lt_or_ge r k with c | c
      · exact h.1 r c hB
      · obtain rfl : r = k := by omega
        exact hn
    · rcases h.2 with z | ⟨r, hr, hB, e1⟩
      · exact Or.inl z
      · exact Or.inr ⟨r, by omega, hB, e1⟩
  · refine ⟨fun r hr hB => ?_, Or.inr ⟨k, by omega, hA, rfl⟩⟩
    rcases Nat.lt_or_ge r k with c | c
    · exact qe_ntr (h.1 r c hB) hn
    · obtain rfl : r = k := by omega
      exact qe_irr _
theorem qr_mxI (dn : Nat → Int32) (p L : Nat) (e : Nat → qe_E) (k : Nat) : qr_IM dn p L e k (qr_mx dn p L e k) := by
  induction k with
  | zero => exact qr_IM0
  | succ k ih =>
    unfold qr_mx
    split
    · next hA =>
      refine qr_IMs ih hA ?_
      by_cases h : qe_nw (e k) (qr_mx dn p L e k)
      · exact Or.inr ⟨qe_jt h, qe_asy h⟩
      · exact Or.inl ⟨qe_jf h, h⟩
    · next hA => exact qr_IMn ih hA
theorem qr_IMg {dn : Nat → Int32} {p L : Nat} {e : Nat → qe_E} {k : Nat} {M : qe_E} {P : Prop} (g : ∀ r, r < k → qe_gd P (e r)) (h : qr_IM dn p L e k M) : qe_gd P M := by
  rcases h.2 with rfl | ⟨r, hr, _, rfl⟩
  · exact Or.inl rfl
  · exact g r hr
theorem qr_IMu {dn : Nat → Int32} {p L : Nat} {e : Nat → qe_E} {k : Nat} {M N : qe_E} {P : Prop} (g : ∀ r, r < k → qe_gd P (e r)) (h : qr_IM dn p L e k M) (h' : qr_IM dn p L e k N) : M = N := by
  refine qe_geq (qr_IMg g h) (qr_IMg g h') ?_ ?_
  · rcases h.2 with rfl | ⟨r, hr, hA, rfl⟩
    · exact qe_nz _
    · exact h'.1 r hr hA
  · rcases h'.2 with rfl | ⟨r, hr, hA, rfl⟩
    · exact qe_nz _
    · exact h.1 r hr hA
/-- the asked below rank k hold M -/
def qr_sh (dn : Nat → Int32) (p L sl : Nat) (M : qe_E) (s : Nat → qe_E) : Nat → (Nat → qe_E)
  | 0 => s
  | r + 1 => if qr_A dn p L r then qe_up (qr_sh dn p L sl M s r) (qr_ix p sl r) M else qr_sh dn p L sl M s r
theorem qr_sht {dn : Nat → Int32} {p L sl : Nat} {M : qe_E} {s : Nat → qe_E} {r : Nat} (h : qr_A dn p L r) : qr_sh dn p L sl M s (r + 1) = qe_up (qr_sh dn p L sl M s r) (qr_ix p sl r) M := if_pos h
theorem qr_shf {dn : Nat → Int32} {p L sl : Nat} {M : qe_E} {s : Nat → qe_E} {r : Nat} (h : ¬ qr_A dn p L r) : qr_sh dn p L sl M s (r + 1) = qr_sh dn p L sl M s r := if_neg h
/-- a slot that is none of those of the asked below rank k stays -/
theorem qr_sho {dn : Nat → Int32} {p L sl : Nat} {M : qe_E} {s : Nat → qe_E} {j : Nat} : ∀ k, (∀ r, r < k → qr_A dn p L r → j ≠ qr_ix p sl r) → qr_sh dn p L sl M s k j = s j := by
  intro k
  induction k with
  | zero => intro _; rfl
  | succ k ih =>
    intro h
    by_cases hA : qr_A dn p L k
    · rw [qr_sht hA, qe_un (h k (by omega) hA)]
      exact ih (fun r hr => h r (by omega))
    · rw [qr_shf hA]
      exact ih (fun r hr => h r (by omega))
theorem qr_shi {dn : Nat → Int32} {p L sl : Nat} {M : qe_E} {s : Nat → qe_E} {q : Nat} : ∀ k, k ≤ 3 → q < k → qr_A dn p L q → qr_sh dn p L sl M s k (qr_ix p sl q) = M := by
  intro k
  induction k with
  | zero => intro _ h; exact absurd h (Nat.not_lt_zero q)
  | succ k ih =>
    intro hk hq hA
    by_cases e : q = k
    · subst e
      rw [qr_sht hA, qe_us]
    · have i := ih (by omega) (by omega) hA
      by_cases hB : qr_A dn p L k
      · rw [qr_sht hB, qe_un (qr_ixne (by omega) (by omega) e)]
        exact i
      · rw [qr_shf hB]
        exact i
/-- later ranks' slots are as they were -/
theorem qr_shl {dn : Nat → Int32} {p L sl : Nat} {M : qe_E} {s : Nat → qe_E} {k q : Nat} (hk : k ≤ q) (hq : q < 3) : qr_sh dn p L sl M s k (qr_ix p sl q) = s (qr_ix p sl q) :=
  qr_sho k (fun r hr _ => qr_ixne hq (by omega) (by omega))
/-- one round of a read over slot sl -/
def qr_one (dn : Nat → Int32) (p L sl : Nat) (s : Nat → qe_E) : Nat → qe_E := qr_sh dn p L sl (qr_mx dn p L (fun r => s (qr_ix p sl r)) 3) s 3
abbrev qr_M (dn : Nat → Int32) (p L sl : Nat) (s : Nat → qe_E) : qe_E := qr_mx dn p L (fun r => s (qr_ix p sl r)) 3
theorem qr_onei {dn : Nat → Int32} {p L sl : Nat} {s : Nat → qe_E} {q : Nat} (hq : q < 3) (hA : qr_A dn p L q) : qr_one dn p L sl s (qr_ix p sl q) = qr_M dn p L sl s := qr_shi 3 (by omega) hq hA
theorem qr_oneo {dn : Nat → Int32} {p L sl : Nat} {s : Nat → qe_E} {j : Nat} (h : j % 72 ≠ sl) (hs : sl < 72) : qr_one dn p L sl s j = s j :=
  qr_sho 3 (fun r _ _ e => h (by rw [e]; exact qr_ixp hs))
/-- entries are good: kinds 0 to 2 in places, 0 and 3 in wipes -/
def qe_G (s : Nat → qe_E) : Prop := ∀ j, j < 288 → qe_gd (j % 72 < 64) (s j)
theorem qe_Gup {s : Nat → qe_E} {i : Nat} {e : qe_E} (h : qe_G s) (he : qe_gd (i % 72 < 64) e) : qe_G (qe_up s i e) := by
  intro j hj
  unfold qe_up
  split
  · next z => rw [z]; exact he
  · exact h j hj
theorem qr_Gm {dn : Nat → Int32} {p L sl : Nat} {s : Nat → qe_E} (h : qe_G s) (hs : sl < 72) : qe_gd (sl < 64) (qr_M dn p L sl s) := by
  refine qr_IMg (fun r hr => ?_) (qr_mxI dn p L (fun r => s (qr_ix p sl r)) 3)
  have := h (qr_ix p sl r) (qr_ixlt hs)
  rw [qr_ixp hs] at this
  exact this
theorem qr_G1 {dn : Nat → Int32} {p L sl : Nat} {s : Nat → qe_E} (h : qe_G s) (hs : sl < 72) : qe_G (qr_one dn p L sl s) := by
  have hm := qr_Gm (dn := dn) (p := p) (L := L) h hs
  have : ∀ k, qe_G (qr_sh dn p L sl (qr_M dn p L sl s) s k) := by
    intro k
    induction k with
    | zero => exact h
    | succ k ih =>
      by_cases hA : qr_A dn p L k
      · rw [qr_sht hA]; exact qe_Gup ih (by rw [qr_ixp hs]; exact hm)
      · rw [qr_shf hA]; exact ih
  exact this 3
/-- the answer of a read: from the newest entry and the newest wipe -/
def qr_lv (e w : qe_E) : Int64 := if e.1 = 1 ∧ ¬ (w.1 = 3 ∧ e.2.1 ≤ w.2.1) then e.2.2.toInt64 else 1000000000000
def qr_rd (dn : Nat → Int32) (L : Nat) (pl : Nat) (s : Nat → qe_E) : Nat → qe_E := qr_one dn (pl / 8) L (64 + pl / 8) (qr_one dn (pl / 8) L pl s)
def qr_av (dn : Nat → Int32) (L : Nat) (pl : Nat) (s : Nat → qe_E) : Int64 := qr_lv (qr_M dn (pl / 8) L pl s) (qr_M dn (pl / 8) L (64 + pl / 8) (qr_one dn (pl / 8) L pl s))
theorem qr_Gr {dn : Nat → Int32} {L pl : Nat} {s : Nat → qe_E} (h : qe_G s) (hp : pl < 64) : qe_G (qr_rd dn L pl s) := qr_G1 (qr_G1 h (by omega)) (by omega)
end
section
/-! the list of hints: pure -/
abbrev qh_H : Type := Nat × Nat × qe_E
/-- the rows from o on stand for the list -/
def qh_at (P : Nat → qh_H → Prop) : Nat → List qh_H → Prop
  | _, [] => True
  | o, x :: L => P o x ∧ qh_at P (o + 1) L
theorem qh_app {P : Nat → qh_H → Prop} : ∀ (A B : List qh_H) (o : Nat), qh_at P o (A ++ B) ↔ (qh_at P o A ∧ qh_at P (o + A.length) B) := by
  intro A
  induction A with
  | nil => intro B o; exact ⟨fun h => ⟨trivial, h⟩, fun h => h.2⟩
  | cons x A ih =>
    intro B o
    have e : o + (x :: A).length = (o + 1) + A.length := by rw [List.length_cons]; omega
    rw [e, List.cons_append]
    constructor
    · intro h
      exact ⟨⟨h.1, ((ih B (o + 1)).mp h.2).1⟩, ((ih B (o + 1)).mp h.2).2⟩
    · intro h
      exact ⟨h.1.1, (ih B (o + 1)).mpr ⟨h.1.2, h.2⟩⟩
theorem qh_mov {P Q : Nat → qh_H → Prop} (d : Nat) : ∀ (L : List qh_H) (o : Nat), (∀ j, o ≤ j → j < o + L.length → ∀ x, P (j + d) x → Q j x) → qh_at P (o + d) L → qh_at Q o L := by
  intro L
  induction L with
  | nil => intro o _ _; trivial
  | cons x L ih =>
    intro o h k
    have hl : (x :: L).length = L.length + 1 := List.length_cons
    refine ⟨h o (Nat.le_refl o) (by omega) x k.1, ih (o + 1) (fun j h1 h2 => h j (by omega) (by omega)) ?_⟩
    have e : o + 1 + d = o + d + 1 := by omega
    rw [e]
    exact k.2
theorem qh_mono {P Q : Nat → qh_H → Prop} {L : List qh_H} {o : Nat} (h : ∀ j, o ≤ j → j < o + L.length → ∀ x, P j x → Q j x) (k : qh_at P o L) : qh_at Q o L := qh_mov 0 L o h k
theorem qh_imp {P Q : Nat → qh_H → Prop} (h : ∀ j x, P j x → Q j x) {L : List qh_H} {o : Nat} (k : qh_at P o L) : qh_at Q o L := qh_mono (fun j _ _ x => h j x) k
abbrev qh_p (Φ : Int32 → Int32 → Int32 → Int32 → Int32 → qh_H → Prop) (n1 n2 n3 n4 n5 : Nat → Int32) : Nat → qh_H → Prop := fun o x => Φ (n1 o) (n2 o) (n3 o) (n4 o) (n5 o) x
def qh_fx (a b c d e : Int32) (x : qh_H) : Prop := a = nI x.1 ∧ b = nI x.2.1 ∧ c = x.2.2.1 ∧ d = x.2.2.2.1 ∧ e = x.2.2.2.2
def qh_fy (a b c d e : Int32) (x : qh_H) : Prop := a = nI x.1 ∧ b = nI x.2.1 ∧ qe_er (x.2.1 < 64) x.2.2 c d e
theorem qh_snoc {Φ : Int32 → Int32 → Int32 → Int32 → Int32 → qh_H → Prop} {n1 n2 n3 n4 n5 : Nat → Int32} {a b c d e : Int32} {x : qh_H} {L : List qh_H} {m : Nat} (hm : m = L.length) (hx : Φ a b c d e x) (h : qh_at (qh_p Φ n1 n2 n3 n4 n5) 0 L) :
    qh_at (qh_p Φ (upd n1 m a) (upd n2 m b) (upd n3 m c) (upd n4 m d) (upd n5 m e)) 0 (L ++ [x]) := by
  rw [qh_app]
  refine ⟨qh_mono (fun j _ h2 y hy => ?_) h, ?_, trivial⟩
  · have : j ≠ m := by omega
    show Φ _ _ _ _ _ y
    rw [pk_un this, pk_un this, pk_un this, pk_un this, pk_un this]
    exact hy
  · show Φ _ _ _ _ _ x
    have e0 : 0 + L.length = m := by omega
    rw [e0, pk_us, pk_us, pk_us, pk_us, pk_us]
    exact hx
/-- the rows from h on, below k, moved down by one -/
def qh_sg (n : Nat → Int32) (h k : Nat) : Nat → Int32 := fun j => if h ≤ j ∧ j < k then n (j + 1) else n j
theorem qh_sg0 (n : Nat → Int32) (h : Nat) : qh_sg n h h = n := by
  funext j; exact if_neg (by omega)
theorem qh_sgi {n : Nat → Int32} {h k j : Nat} (a : h ≤ j) (b : j < k) : qh_sg n h k j = n (j + 1) := if_pos ⟨a, b⟩
theorem qh_sgo {n : Nat → Int32} {h k j : Nat} (a : ¬ (h ≤ j ∧ j < k)) : qh_sg n h k j = n j := if_neg a
theorem qh_sgs {n : Nat → Int32} {h k : Nat} (a : h ≤ k) : upd (qh_sg n h k) k (qh_sg n h k (k + 1)) = qh_sg n h (k + 1) := by
  funext j
  by_cases c : j = k
  · subst c
    rw [pk_us, qh_sgo (by omega), qh_sgi a (by omega)]
  · rw [pk_un c]
    by_cases d : h ≤ j ∧ j < k
    · rw [qh_sgi d.1 d.2, qh_sgi d.1 (by omega)]
    · rw [qh_sgo d, qh_sgo (by omega)]
/-- row P.length dropped -/
theorem qh_del {Φ : Int32 → Int32 → Int32 → Int32 → Int32 → qh_H → Prop} {n1 n2 n3 n4 n5 : Nat → Int32} {x : qh_H} {P R : List qh_H} {h k : Nat} (hh : h = P.length) (hk : k = P.length + R.length) (H : qh_at (qh_p Φ n1 n2 n3 n4 n5) 0 (P ++ x :: R)) :
    qh_at (qh_p Φ (qh_sg n1 h k) (qh_sg n2 h k) (qh_sg n3 h k) (qh_sg n4 h k) (qh_sg n5 h k)) 0 (P ++ R) := by
  rw [qh_app] at H ⊢
  obtain ⟨H1, _, H2⟩ := H
  refine ⟨qh_mono (fun j _ h2 y hy => ?_) H1, qh_mov 1 R (0 + P.length) (fun j h1 h2 y hy => ?_) H2⟩
  · have : ¬ (h ≤ j ∧ j < k) := by omega
    show Φ _ _ _ _ _ y
    rw [qh_sgo this, qh_sgo this, qh_sgo this, qh_sgo this, qh_sgo this]
    exact hy
  · have a : h ≤ j := by omega
    have b : j < k := by omega
    show Φ _ _ _ _ _ y
    rw [qh_sgi a b, qh_sgi a b, qh_sgi a b, qh_sgi a b, qh_sgi a b]
    exact hy
/-- hints are good -/
def qh_G (H : List qh_H) : Prop := ∀ x, x ∈ H → x.1 < 4 ∧ x.2.1 < 72 ∧ ¬ x.2.2.1 = 0
def qh_cut (H : List qh_H) : List qh_H := if 12 ≤ H.length then H.tail else H
def qh_add (kh : Int32) (H : List qh_H) (x : qh_H) : List qh_H := if kh = 0 then H else qh_cut H ++ [x]
theorem qh_cutl (H : List qh_H) (h : H.length ≤ 12) : (qh_cut H).length ≤ 11 := by
  unfold qh_cut; split
  · rw [List.length_tail]; omega
  · omega
theorem qh_addl {kh : Int32} {H : List qh_H} {x : qh_H} (h : H.length ≤ 12) : (qh_add kh H x).length ≤ 12 := by
  unfold qh_add; split
  · exact h
  · rw [List.length_append]
    have := qh_cutl H h
    show (qh_cut H).length + 1 ≤ 12
    omega
theorem qh_cutG {H : List qh_H} (h : qh_G H) : qh_G (qh_cut H) := by
  unfold qh_cut; split
  · exact fun x hx => h x (List.mem_of_mem_tail hx)
  · exact h
theorem qh_addG {kh : Int32} {H : List qh_H} {x : qh_H} (h : qh_G H) (hx : x.1 < 4 ∧ x.2.1 < 72 ∧ ¬ x.2.2.1 = 0) : qh_G (qh_add kh H x) := by
  unfold qh_add; split
  · exact h
  · intro y hy
    rcases List.mem_append.mp hy with c | c
    · exact qh_cutG h y c
    · rw [List.mem_singleton.mp c]; exact hx
abbrev qe_tk (s : Nat → qe_E) (i : Nat) (e : qe_E) : Nat → qe_E := qe_up s i (qe_jn (s i) e)
/-- node n takes in its hints -/
def qh_dl (n : Nat) : List qh_H → (Nat → qe_E) → (Nat → qe_E)
  | [], s => s
  | x :: R, s => if x.1 = n then qh_dl n R (qe_tk s (n * 72 + x.2.1) x.2.2) else qh_dl n R s
/-- the hints of the others -/
def qh_kp (n : Nat) : List qh_H → List qh_H
  | [] => []
  | x :: R => if x.1 = n then qh_kp n R else x :: qh_kp n R
theorem qh_kpl (n : Nat) (L : List qh_H) : (qh_kp n L).length ≤ L.length := by
  induction L with
  | nil => exact Nat.le_refl _
  | cons x L ih =>
    unfold qh_kp
    have hl : (x :: L).length = L.length + 1 := List.length_cons
    split
    · omega
    · rw [List.length_cons]; omega
theorem qh_kpG {n : Nat} {L : List qh_H} (h : qh_G L) : qh_G (qh_kp n L) := by
  induction L with
  | nil => exact h
  | cons x L ih =>
    have hL : qh_G L := fun y hy => h y (List.mem_cons_of_mem x hy)
    unfold qh_kp
    split
    · exact ih hL
    · intro y hy
      rcases List.mem_cons.mp hy with c | c
      · rw [c]; exact h x List.mem_cons_self
      · exact ih hL y c
/-- what is sent to rank r -/
def qs_st (dn : Nat → Int32) (kh : Int32) (p sl : Nat) (e : qe_E) (r : Nat) (S : (Nat → qe_E) × List qh_H) : (Nat → qe_E) × List qh_H :=
  if dn (qr_nd p r) = 0 then (qe_tk S.1 (qr_ix p sl r) e, S.2) else (S.1, qh_add kh S.2 (qr_nd p r, sl, e))
def qs_al (dn : Nat → Int32) (kh : Int32) (p sl : Nat) (e : qe_E) : Nat → (Nat → qe_E) × List qh_H → (Nat → qe_E) × List qh_H
  | 0, S => S
  | r + 1, S => qs_st dn kh p sl e r (qs_al dn kh p sl e r S)
end
section
/-! slots in a range: pure -/
def qk_mix (lo hi : Nat) (F G : Nat → qe_E) : Nat → qe_E := fun j => if lo ≤ j ∧ j < hi then F j else G j
theorem qk_i {lo hi j : Nat} {F G : Nat → qe_E} (h : lo ≤ j) (k : j < hi) : qk_mix lo hi F G j = F j := if_pos ⟨h, k⟩
theorem qk_o {lo hi j : Nat} {F G : Nat → qe_E} (h : ¬ (lo ≤ j ∧ j < hi)) : qk_mix lo hi F G j = G j := if_neg h
theorem qk_0 {lo : Nat} {F G : Nat → qe_E} : qk_mix lo lo F G = G := by
  funext j; exact qk_o (by omega)
theorem qk_s {lo k : Nat} {F G : Nat → qe_E} (h : lo ≤ k) {e : qe_E} (he : e = F k) : qe_up (qk_mix lo k F G) k e = qk_mix lo (k + 1) F G := by
  subst he
  funext j
  by_cases c : j = k
  · subst c; rw [qe_us, qk_i h (by omega)]
  · rw [qe_un c]
    by_cases d : lo ≤ j ∧ j < k
    · rw [qk_i d.1 d.2, qk_i d.1 (by omega)]
    · rw [qk_o d, qk_o (by omega)]
theorem qk_st {lo k : Nat} {F G : Nat → qe_E} (h : lo ≤ k) (he : G k = F k) : qk_mix lo k F G = qk_mix lo (k + 1) F G := by
  rw [← qk_s h rfl, ← he]
  have : qk_mix lo k F G k = G k := qk_o (by omega)
  rw [← this]
  exact qe_uself.symm
theorem qk_F {lo hi : Nat} {F G : Nat → qe_E} (h : ∀ j, ¬ (lo ≤ j ∧ j < hi) → F j = G j) : qk_mix lo hi F G = F := by
  funext j
  by_cases d : lo ≤ j ∧ j < hi
  · exact qk_i d.1 d.2
  · rw [qk_o d, h j d]
theorem qk_G {lo hi : Nat} {F G : Nat → qe_E} (hF : qe_G F) (hG : qe_G G) : qe_G (qk_mix lo hi F G) := by
  intro j hj
  unfold qk_mix; split
  · exact hF j hj
  · exact hG j hj
/-- how many of the first k places of node n hold an entry -/
def qk_cn (s : Nat → qe_E) (n : Nat) : Nat → Nat
  | 0 => 0
  | k + 1 => if (s (n * 72 + k)).1 = 0 then qk_cn s n k else qk_cn s n k + 1
theorem qk_cnl (s : Nat → qe_E) (n k : Nat) : qk_cn s n k ≤ k := by
  induction k with
  | zero => exact Nat.le_refl 0
  | succ k ih => unfold qk_cn; split <;> omega
/-- compaction: what is hidden, dead and old, wiped and old -/
abbrev qk_hd (s : Nat → qe_E) (n pl : Nat) : Prop := (s (n * 72 + 64 + pl / 8)).1 = 3 ∧ (s (n * 72 + pl)).2.1 ≤ (s (n * 72 + 64 + pl / 8)).2.1
def qk_fh (n : Nat) (s : Nat → qe_E) : Nat → qe_E := fun j => if qk_hd s n (j - n * 72) then qe_z else s j
def qk_fd (b : Int32) (s : Nat → qe_E) : Nat → qe_E := fun j => if (s j).1 = 2 ∧ (s j).2.1 < b then qe_z else s j
def qk_fw (b : Int32) (s : Nat → qe_E) : Nat → qe_E := fun j => if (s j).1 = 3 ∧ (s j).2.1 < b then qe_z else s j
def qk_1 (n : Nat) (s : Nat → qe_E) : Nat → qe_E := qk_mix (n * 72) (n * 72 + 64) (qk_fh n s) s
def qk_2 (n : Nat) (b : Int32) (s : Nat → qe_E) : Nat → qe_E := qk_mix (n * 72) (n * 72 + 64) (qk_fd b (qk_1 n s)) (qk_1 n s)
def qk_3 (n : Nat) (b : Int32) (s : Nat → qe_E) : Nat → qe_E := qk_mix (n * 72 + 64) (n * 72 + 72) (qk_fw b (qk_2 n b s)) (qk_2 n b s)
abbrev qk_cp (n : Nat) (s f : Nat → qe_E) : Nat → qe_E := qk_mix (n * 72) (n * 72 + 72) s f
/-- the slot's partition; the two nodes both keep it -/
abbrev qp_pt (sl : Nat) : Nat := if sl < 64 then sl / 8 else sl - 64
abbrev qp_bo (a b sl : Nat) : Prop := (qp_pt sl + 3) % 4 ≠ a ∧ (qp_pt sl + 3) % 4 ≠ b
def qp_st (a b sl : Nat) (S : (Nat → qe_E) × Nat) : (Nat → qe_E) × Nat :=
  if qe_nw (S.1 (a * 72 + sl)) (S.1 (b * 72 + sl)) then (qe_up S.1 (b * 72 + sl) (S.1 (a * 72 + sl)), S.2 + 1)
  else if qe_nw (S.1 (b * 72 + sl)) (S.1 (a * 72 + sl)) then (qe_up S.1 (a * 72 + sl) (S.1 (b * 72 + sl)), S.2 + 1)
  else S
def qp_al (a b : Nat) (s : Nat → qe_E) : Nat → (Nat → qe_E) × Nat
  | 0 => (s, 0)
  | k + 1 => if qp_bo a b k then qp_st a b k (qp_al a b s k) else qp_al a b s k
theorem qp_le (a b : Nat) (s : Nat → qe_E) (k : Nat) : (qp_al a b s k).2 ≤ k := by
  induction k with
  | zero => exact Nat.le_refl 0
  | succ k ih =>
    unfold qp_al qp_st
    split
    · split
      · show (qp_al a b s k).2 + 1 ≤ k + 1; omega
      · split
        · show (qp_al a b s k).2 + 1 ≤ k + 1; omega
        · omega
    · omega
/-- the sum of a partition's cells, by reads one after another -/
def qr_sm (dn : Nat → Int32) (L p : Nat) (s : Nat → qe_E) : Nat → (Nat → qe_E) × Int64
  | 0 => (s, 0)
  | c + 1 => (qr_rd dn L (p * 8 + c) (qr_sm dn L p s c).1,
      if qr_av dn L (p * 8 + c) (qr_sm dn L p s c).1 = 1000000000000 then (qr_sm dn L p s c).2 else (qr_sm dn L p s c).2 + qr_av dn L (p * 8 + c) (qr_sm dn L p s c).1)
end
section
/-! the reference's two rounds of exchange come to the same sharing: pure -/
def qr_as (dn : Nat → Int32) (p L sl : Nat) (S : (Nat → qe_E) × qe_E) : Nat → (Nat → qe_E) × qe_E
  | 0 => S
  | k + 1 => if qr_A dn p L k then (qe_up (qr_as dn p L sl S k).1 (qr_ix p sl k) (qe_jn ((qr_as dn p L sl S k).1 (qr_ix p sl k)) (qr_as dn p L sl S k).2), qe_jn ((qr_as dn p L sl S k).1 (qr_ix p sl k)) (qr_as dn p L sl S k).2) else qr_as dn p L sl S k
theorem qr_ast {dn : Nat → Int32} {p L sl : Nat} {S : (Nat → qe_E) × qe_E} {k : Nat} (h : qr_A dn p L k) : qr_as dn p L sl S (k + 1) = (qe_up (qr_as dn p L sl S k).1 (qr_ix p sl k) (qe_jn ((qr_as dn p L sl S k).1 (qr_ix p sl k)) (qr_as dn p L sl S k).2), qe_jn ((qr_as dn p L sl S k).1 (qr_ix p sl k)) (qr_as dn p L sl S k).2) := if_pos h
theorem qr_asf {dn : Nat → Int32} {p L sl : Nat} {S : (Nat → qe_E) × qe_E} {k : Nat} (h : ¬ qr_A dn p L k) : qr_as dn p L sl S (k + 1) = qr_as dn p L sl S k := if_neg h
theorem qr_r1 {dn : Nat → Int32} {p L sl : Nat} {s : Nat → qe_E} {P : Prop} (g : ∀ r, r < 3 → qe_gd P (s (qr_ix p sl r))) : ∀ k, k ≤ 3 →
    (∀ j, (∀ r, r < k → qr_A dn p L r → j ≠ qr_ix p sl r) → (qr_as dn p L sl (s, qe_z) k).1 j = s j) ∧
    qr_IM dn p L (fun r => s (qr_ix p sl r)) k (qr_as dn p L sl (s, qe_z) k).2 ∧
    (∀ r, r < k → qr_A dn p L r → ¬ qe_nw ((qr_as dn p L sl (s, qe_z) k).1 (qr_ix p sl r)) (qr_as dn p L sl (s, qe_z) k).2 ∧ qe_gd P ((qr_as dn p L sl (s, qe_z) k).1 (qr_ix p sl r))) := by
  intro k
  induction k with
  | zero =>
    intro _
    exact ⟨fun _ _ => rfl, qr_IM0, fun r h => absurd h (Nat.not_lt_zero r)⟩
  | succ k ih =>
    intro hk
    obtain ⟨h1, h2, h3⟩ := ih (by omega)
    by_cases hA : qr_A dn p L k
    · rw [qr_ast hA]
      have ek : (qr_as dn p L sl (s, qe_z) k).1 (qr_ix p sl k) = s (qr_ix p sl k) := h1 _ (fun r hr _ => qr_ixne (by omega) (by omega) (by omega))
      rw [ek]
      have gB : qe_gd P (qr_as dn p L sl (s, qe_z) k).2 := qr_IMg (fun r hr => g r (by omega)) h2
      generalize hB : (qr_as dn p L sl (s, qe_z) k).2 = B at h2 h3 gB ⊢
      generalize hT : (qr_as dn p L sl (s, qe_z) k).1 = t at h1 h3 ek ⊢
      have hJ : (qe_jn (s (qr_ix p sl k)) B = B ∧ ¬ qe_nw (s (qr_ix p sl k)) B) ∨ (qe_jn (s (qr_ix p sl k)) B = s (qr_ix p sl k) ∧ ¬ qe_nw B (s (qr_ix p sl k))) := by
        by_cases c : qe_nw B (s (qr_ix p sl k))
        · exact Or.inl ⟨qe_jt c, qe_asy c⟩
        · exact Or.inr ⟨qe_jf c, c⟩
      have hBJ : ¬ qe_nw B (qe_jn (s (qr_ix p sl k)) B) := by
        rcases hJ with ⟨c, d⟩ | ⟨c, d⟩
        · rw [c]; exact qe_irr B
        · rw [c]; exact d
      refine ⟨fun j hj => ?_, qr_IMs h2 hA hJ, fun r hr hA' => ?_⟩
      · show qe_up t (qr_ix p sl k) _ j = s j
        rw [qe_un (hj k (by omega) hA)]
        exact h1 j (fun r hr => hj r (by omega))
      · show ¬ qe_nw (qe_up t (qr_ix p sl k) _ (qr_ix p sl r)) _ ∧ qe_gd P (qe_up t (qr_ix p sl k) _ (qr_ix p sl r))
        by_cases c : r = k
        · subst c
          rw [qe_us]
          exact ⟨qe_irr _, qe_jg gB (g r (by omega))⟩
        · rw [qe_un (qr_ixne (by omega) (by omega) c)]
          have := h3 r (by omega) hA'
          exact ⟨qe_ntr this.1 hBJ, this.2⟩
    · rw [qr_asf hA]
      refine ⟨fun j hj => h1 j (fun r hr => hj r (by omega)), qr_IMn h2 hA, fun r hr hA' => ?_⟩
      rcases Nat.lt_or_ge r k with c | c
      · exact h3 r c hA'
      · obtain rfl : r = k := by omega
        exact absurd hA' hA
theorem qr_r2 {dn : Nat → Int32} {p L sl : Nat} {t : Nat → qe_E} {M : qe_E} {P : Prop} (gM : qe_gd P M) (h : ∀ r, r < 3 → qr_A dn p L r → ¬ qe_nw (t (qr_ix p sl r)) M ∧ qe_gd P (t (qr_ix p sl r))) : ∀ k, k ≤ 3 → qr_as dn p L sl (t, M) k = (qr_sh dn p L sl M t k, M) := by
  intro k
  induction k with
  | zero => intro _; rfl
  | succ k ih =>
    intro hk
    have i := ih (by omega)
    by_cases hA : qr_A dn p L k
    · rw [qr_ast hA, qr_sht hA, i]
      show (qe_up (qr_sh dn p L sl M t k) (qr_ix p sl k) (qe_jn (qr_sh dn p L sl M t k (qr_ix p sl k)) M), qe_jn (qr_sh dn p L sl M t k (qr_ix p sl k)) M) = _
      rw [qr_shl (Nat.le_refl k) (by omega), qe_jm (h k (by omega) hA).2 gM (h k (by omega) hA).1]
    · rw [qr_asf hA, qr_shf hA, i]
/-- two rounds: what a read leaves, and the newest -/
theorem qr_two {dn : Nat → Int32} {p L sl : Nat} {s : Nat → qe_E} (G : qe_G s) (hs : sl < 72) : qr_as dn p L sl (qr_as dn p L sl (s, qe_z) 3) 3 = (qr_one dn p L sl s, qr_M dn p L sl s) := by
  have g : ∀ r, r < 3 → qe_gd (sl < 64) (s (qr_ix p sl r)) := by
    intro r _
    have := G (qr_ix p sl r) (qr_ixlt hs)
    rw [qr_ixp hs] at this
    exact this
  obtain ⟨h1, h2, h3⟩ := qr_r1 (dn := dn) (L := L) g 3 (Nat.le_refl 3)
  have eM : (qr_as dn p L sl (s, qe_z) 3).2 = qr_M dn p L sl s := qr_IMu g h2 (qr_mxI dn p L (fun r => s (qr_ix p sl r)) 3)
  have e0 : qr_as dn p L sl (s, qe_z) 3 = ((qr_as dn p L sl (s, qe_z) 3).1, qr_M dn p L sl s) := Prod.ext rfl eM
  rw [eM] at h3
  rw [e0, qr_r2 (qr_Gm G hs) h3 3 (Nat.le_refl 3)]
  refine Prod.ext ?_ rfl
  funext j
  show qr_sh dn p L sl (qr_M dn p L sl s) (qr_as dn p L sl (s, qe_z) 3).1 3 j = qr_sh dn p L sl (qr_M dn p L sl s) s 3 j
  by_cases c : ∃ r, r < 3 ∧ qr_A dn p L r ∧ j = qr_ix p sl r
  · obtain ⟨r, hr, hA, rfl⟩ := c
    rw [qr_shi 3 (Nat.le_refl 3) hr hA, qr_shi 3 (Nat.le_refl 3) hr hA]
  · have c' : ∀ r, r < 3 → qr_A dn p L r → j ≠ qr_ix p sl r := fun r hr hA e => c ⟨r, hr, hA, e⟩
    rw [qr_sho 3 c', qr_sho 3 c', h1 j c']
theorem qr_shc {dn : Nat → Int32} {p L sl : Nat} {M : qe_E} {s : Nat → qe_E} {l : Nat} (h : ∀ r, l < r → r < 3 → ¬ qr_A dn p L r) : ∀ k, l + 1 ≤ k → k ≤ 3 → qr_sh dn p L sl M s k = qr_sh dn p L sl M s (l + 1) := by
  intro k
  induction k with
  | zero => intro h1; omega
  | succ k ih =>
    intro h1 h2
    rcases Nat.lt_or_ge l k with c | c
    · rw [qr_shf (h k c (by omega)), ih (by omega) (by omega)]
    · obtain rfl : k = l := by omega
      rfl
end
section
/-! the component: entries and places -/
section
def qx_K (s : Nat → qe_E) : Nat → Int32 := fun j => (s j).1
def qx_T (s : Nat → qe_E) : Nat → Int32 := fun j => (s j).2.1
def qx_V (s : Nat → qe_E) : Nat → Int32 := fun j => (s j).2.2
theorem qx_uK (s : Nat → qe_E) (i : Nat) (k t v : Int32) : upd (qx_K s) i k = qx_K (qe_up s i (k, t, v)) := qe_u1 s i k t v
theorem qx_uT (s : Nat → qe_E) (i : Nat) (k t v : Int32) : upd (qx_T s) i t = qx_T (qe_up s i (k, t, v)) := qe_u2 s i k t v
theorem qx_uV (s : Nat → qe_E) (i : Nat) (k t v : Int32) : upd (qx_V s) i v = qx_V (qe_up s i (k, t, v)) := qe_u3 s i k t v
theorem qe_e (x y : Int32) : x = y ↔ x.toInt = y.toInt := Int32.toInt_inj.symm
theorem qe_c1 {k t v : Int32} {x : qe_E} (a : ¬ k = 0) (b : ¬ x.1 = 0) (c : ¬ t = x.2.1) : qe_nw (k, t, v) x ↔ ¬ t ≤ x.2.1 := by
  rw [qe_nwI, Int32.le_iff_toInt_le]
  rw [qe_e, qe_0I] at a b
  rw [qe_e] at c
  dsimp only
  omega
theorem qe_c2 {k t v : Int32} {x : qe_E} (a : ¬ k = 0) (b : ¬ x.1 = 0) (c : t = x.2.1) (d : ¬ k = x.1) : qe_nw (k, t, v) x ↔ ¬ k ≤ x.1 := by
  rw [qe_nwI, Int32.le_iff_toInt_le]
  rw [qe_e, qe_0I] at a b
  rw [qe_e] at c d
  dsimp only
  omega
theorem qe_c3 {k t v : Int32} {x : qe_E} (a : ¬ k = 0) (b : ¬ x.1 = 0) (c : t = x.2.1) (d : k = x.1) : qe_nw (k, t, v) x ↔ ¬ v ≤ x.2.2 := by
  rw [qe_nwI, Int32.le_iff_toInt_le]
  rw [qe_e, qe_0I] at a b
  rw [qe_e] at c d
  dsimp only
  omega
variable {kh hn : Int32} {dn : Nat → Int32} {s f : Nat → qe_E} {n1 n2 n3 n4 n5 : Nat → Int32}
theorem qx_new (post : Int32 → Prop) {i : Nat} (hi : i < 288) (k t v : Int32) (h1 : qe_nw (k, t, v) (s i) → post 1) (h0 : ¬ qe_nw (k, t, v) (s i) → post 0) : wpX_isNewerThanHeld post (kh, hn, dn, qx_K s, qx_T s, qx_V s, qx_K f, qx_T f, qx_V f, n1, n2, n3, n4, n5) (nI i) k t v := by
  have vi : vp_in (nI i) 288 := vp_in_nI hi (by omega)
  have cl : (nI i).toNatClampNeg = i := nI_clamp (by omega)
  unfold wpX_isNewerThanHeld
  dsimp only
  rw [cl]
  refine ⟨fun a => h0 (fun z => z.1 a), fun a => ⟨vi, fun b => h1 ⟨a, Or.inl b⟩, fun b => ⟨vi, fun c => ⟨vi, fun d => ⟨vi, fun e => h0 ?_, fun e => h1 ?_⟩, fun d => ⟨vi, fun e => h0 ?_, fun e => h1 ?_⟩⟩, fun c => ⟨vi, fun e => h0 ?_, fun e => h1 ?_⟩⟩⟩⟩
  · exact fun z => (qe_c3 a b c d).mp z e
  · exact (qe_c3 a b c d).mpr e
  · exact fun z => (qe_c2 a b c d).mp z e
  · exact (qe_c2 a b c d).mpr e
  · exact fun z => (qe_c1 a b c).mp z e
  · exact (qe_c1 a b c).mpr e
theorem qx_take (post : Int32 → SX → Prop) {a sl : Nat} (ha : a < 4) (hs : sl < 72) (k t v : Int32) (h1 : qe_nw (k, t, v) (s (a * 72 + sl)) → post 1 (kh, hn, dn, qx_K (qe_up s (a * 72 + sl) (k, t, v)), qx_T (qe_up s (a * 72 + sl) (k, t, v)), qx_V (qe_up s (a * 72 + sl) (k, t, v)), qx_K f, qx_T f, qx_V f, n1, n2, n3, n4, n5)) (h0 : ¬ qe_nw (k, t, v) (s (a * 72 + sl)) → post 0 (kh, hn, dn, qx_K s, qx_T s, qx_V s, qx_K f, qx_T f, qx_V f, n1, n2, n3, n4, n5)) : wpX_takeIn post (kh, hn, dn, qx_K s, qx_T s, qx_V s, qx_K f, qx_T f, qx_V f, n1, n2, n3, n4, n5) (nI a) (nI sl) k t v := by
  have hi : a * 72 + sl < 288 := by omega
  have vi : vp_in (nI (a * 72 + sl)) 288 := vp_in_nI hi (by omega)
  have cl : (nI (a * 72 + sl)).toNatClampNeg = a * 72 + sl := nI_clamp (by omega)
  unfold wpX_takeIn
  dsimp only
  refine nm_r (qa_ix a sl) ?_
  rw [cl]
  refine qx_new _ hi k t v (fun z => ?_) (fun z => ?_)
  · refine br_f qe_n10 ⟨vi, nm_r (qx_uK s _ k t v) ⟨vi, nm_r (qx_uT s _ k t v) ⟨vi, nm_r (qx_uV s _ k t v) ?_⟩⟩⟩
    exact h1 z
  · exact br_t rfl (h0 z)
theorem qx_takeJ (post : Int32 → SX → Prop) {a sl : Nat} (ha : a < 4) (hs : sl < 72) (e : qe_E) (h : ∀ r, post r (kh, hn, dn, qx_K (qe_tk s (a * 72 + sl) e), qx_T (qe_tk s (a * 72 + sl) e), qx_V (qe_tk s (a * 72 + sl) e), qx_K f, qx_T f, qx_V f, n1, n2, n3, n4, n5)) : wpX_takeIn post (kh, hn, dn, qx_K s, qx_T s, qx_V s, qx_K f, qx_T f, qx_V f, n1, n2, n3, n4, n5) (nI a) (nI sl) e.1 e.2.1 e.2.2 := by
  refine qx_take post ha hs e.1 e.2.1 e.2.2 (fun z => ?_) (fun z => ?_)
  · have := h 1
    rw [qe_tk, qe_jt z] at this
    exact this
  · have := h 0
    rw [qe_tk, qe_jf z, qe_uself] at this
    exact this
theorem qx_rep (post : Int32 → Prop) {p r : Nat} (hp : p < 100) (hr : r < 100) (h : post (nI (qr_nd p r))) : wpX_replicaAt post (nI p) (nI r) := by
  unfold wpX_replicaAt
  rw [qa_rep hp hr]
  exact ⟨qa_n4, h⟩
theorem qx_cuL (post : Int32 → Prop) {p : Nat} (hp : p < 8) (h : post (nI (qr_ct dn p 3))) : ∀ d r, r + d = 3 → wX_countUpReplicas_4 post (nI p) kh hn dn (qx_K s) (qx_T s) (qx_V s) (qx_K f) (qx_T f) (qx_V f) n1 n2 n3 n4 n5 (d + 1) (nI (qr_ct dn p r)) (nI r) := by
  intro d
  induction d with
  | zero =>
    intro r hr
    obtain rfl : r = 3 := by omega
    exact br_t (Int32.le_refl _) h
  | succ d ih =>
    intro r hr
    have i := ih (r + 1) (by omega)
    refine br_f (nI_ge (b := 3) (by omega) (by decide)) (qx_rep _ (by omega) (by omega) ?_)
    have cl : (nI (qr_nd p r)).toNatClampNeg = qr_nd p r := nI_clamp (by unfold qr_nd; omega)
    refine ⟨vp_in_nI (by unfold qr_nd; omega) (by omega), ?_⟩
    rw [cl]
    by_cases c : dn (qr_nd p r) = 0
    · have e : qr_ct dn p (r + 1) = qr_ct dn p r + 1 := if_pos c
      rw [e] at i
      exact br_t c (nm_r (nI_1 _) (nm_r (nI_1 r) i))
    · have e : qr_ct dn p (r + 1) = qr_ct dn p r := if_neg c
      rw [e] at i
      exact br_f c (nm_r (nI_1 r) i)
theorem qx_cu (post : Int32 → Prop) {p : Nat} (hp : p < 8) (h : post (nI (qr_ct dn p 3))) : wpX_countUpReplicas post (kh, hn, dn, qx_K s, qx_T s, qx_V s, qx_K f, qx_T f, qx_V f, n1, n2, n3, n4, n5) (nI p) := ⟨4, qx_cuL post hp h 3 0 rfl⟩
theorem qx_laL (post : Int32 → Prop) {p L : Nat} (hp : p < 8) (hL : L < 4) (h : post (nI (qr_la dn p L 3))) : ∀ d r, r + d = 3 → wX_lastAskedRank_8 post (nI p) (nI L) kh hn dn (qx_K s) (qx_T s) (qx_V s) (qx_K f) (qx_T f) (qx_V f) n1 n2 n3 n4 n5 (d + 1) (nI (qr_ac dn p L r)) (nI (qr_la dn p L r)) (nI r) := by
  intro d
  induction d with
  | zero =>
    intro r hr
    obtain rfl : r = 3 := by omega
    exact br_t (Int32.le_refl _) h
  | succ d ih =>
    intro r hr
    have i := ih (r + 1) (by omega)
    have ha := qr_acle dn p L r
    refine br_f (nI_ge (b := 3) (by omega) (by decide)) (pk_le L (qr_ac dn p L r) (fun c => ?_) (fun c => ?_))
    · have nA : ¬ qr_A dn p L r := fun z => by have := z.2; omega
      have e : qr_ac dn p L (r + 1) = qr_ac dn p L r := if_neg nA
      have e2 : qr_la dn p L (r + 1) = qr_la dn p L r := if_neg nA
      rw [e, e2] at i
      exact nm_r (nI_1 r) i
    · refine qx_rep _ (by omega) (by omega) ?_
      have cl : (nI (qr_nd p r)).toNatClampNeg = qr_nd p r := nI_clamp (by unfold qr_nd; omega)
      refine ⟨vp_in_nI (by unfold qr_nd; omega) (by omega), ?_⟩
      rw [cl]
      by_cases z : dn (qr_nd p r) = 0
      · have A : qr_A dn p L r := ⟨z, c⟩
        have e : qr_ac dn p L (r + 1) = qr_ac dn p L r + 1 := if_pos A
        have e2 : qr_la dn p L (r + 1) = r := if_pos A
        rw [e, e2] at i
        exact br_t z (nm_r (nI_1 _) (nm_r (nI_1 r) i))
      · have nA : ¬ qr_A dn p L r := fun y => z y.1
        have e : qr_ac dn p L (r + 1) = qr_ac dn p L r := if_neg nA
        have e2 : qr_la dn p L (r + 1) = qr_la dn p L r := if_neg nA
        rw [e, e2] at i
        exact br_f z (nm_r (nI_1 r) i)
theorem qx_la (post : Int32 → Prop) {p L : Nat} (hp : p < 8) (hL : L < 4) (h : post (nI (qr_la dn p L 3))) : wpX_lastAskedRank post (kh, hn, dn, qx_K s, qx_T s, qx_V s, qx_K f, qx_T f, qx_V f, n1, n2, n3, n4, n5) (nI p) (nI L) := ⟨4, qx_laL post hp hL h 3 0 rfl⟩
theorem qx_pt (post : Int32 → Prop) {sl : Nat} (hs : sl < 72) (h : post (nI (qp_pt sl))) : wpX_partitionOf post (nI sl) := by
  unfold wpX_partitionOf
  unfold qp_pt at h
  refine pk_le 64 sl (fun c => ?_) (fun c => ?_)
  · rw [if_neg (by omega)] at h
    rw [show (64 : Int32) = nI 64 from rfl, pk_sub c]
    exact h
  · rw [if_pos c] at h
    rw [qa_8 (by omega)]
    exact ⟨qa_n8, h⟩
end
end
section
/-! the component: reads -/
section
theorem qa_w (n pl : Nat) (h : pl < 64) : nI n * 72 + 64 + nI pl / 8 = nI (n * 72 + 64 + pl / 8) := by
  rw [qa_8 (by omega), show (72 : Int32) = nI 72 from rfl, show (64 : Int32) = nI 64 from rfl, pk_mul, nI_add, nI_add]
theorem qa_64 (n : Nat) : 64 + nI n = nI (64 + n) := nI_add 64 n
theorem qr_lvt {e w : qe_E} (h : e.1 = 1) (k : ¬ (w.1 = 3 ∧ e.2.1 ≤ w.2.1)) : qr_lv e w = e.2.2.toInt64 := if_pos ⟨h, k⟩
theorem qr_lvf {e w : qe_E} (h : ¬ (e.1 = 1 ∧ ¬ (w.1 = 3 ∧ e.2.1 ≤ w.2.1))) : qr_lv e w = 1000000000000 := if_neg h
variable {kh hn : Int32} {dn : Nat → Int32} {s f : Nat → qe_E} {n1 n2 n3 n4 n5 : Nat → Int32}
theorem qx_nhL (post : Int32 → Prop) {p sl L l : Nat} (hp : p < 8) (hs : sl < 72) (hl : l < 3) (hA : ∀ r, r < 3 → (qr_A dn p L r ↔ (dn (qr_nd p r) = 0 ∧ r ≤ l)))
    (h : ∀ q, q < 3 → qr_A dn p L q → (∀ r, r < 3 → qr_A dn p L r → ¬ qe_nw (s (qr_ix p sl r)) (s (qr_ix p sl q))) → post (nI (qr_nd p q))) :
    ∀ d r q, r + d = l → q < 3 → qr_A dn p L q → (∀ j, j < r → qr_A dn p L j → ¬ qe_nw (s (qr_ix p sl j)) (s (qr_ix p sl q))) → ¬ qe_nw (s (qr_ix p sl l)) (s (qr_ix p sl q)) →
      wX_newestHolder_10 post (nI p) (nI sl) (nI l) kh hn dn (qx_K s) (qx_T s) (qx_V s) (qx_K f) (qx_T f) (qx_V f) n1 n2 n3 n4 n5 (d + 1) (nI (qr_nd p q)) (nI r) := by
  intro d
  induction d with
  | zero =>
    intro r q hr hq hAq h1 h2
    obtain rfl : r = l := by omega
    refine br_t (Int32.le_refl _) (h q hq hAq (fun j hj hAj => ?_))
    have := ((hA j hj).mp hAj).2
    rcases Nat.lt_or_ge j r with c | c
    · exact h1 j c hAj
    · obtain rfl : j = r := by omega
      exact h2
  | succ d ih =>
    intro r q hr hq hAq h1 h2
    have nr : qr_nd p r < 4 := by unfold qr_nd; omega
    have nq : qr_nd p q < 4 := by unfold qr_nd; omega
    have cl : (nI (qr_nd p r)).toNatClampNeg = qr_nd p r := nI_clamp (by omega)
    have ix : qr_ix p sl r < 288 := qr_ixlt hs
    have iq : qr_ix p sl q < 288 := qr_ixlt hs
    have vi : vp_in (nI (qr_ix p sl r)) 288 := vp_in_nI ix (by omega)
    have ci : (nI (qr_ix p sl r)).toNatClampNeg = qr_ix p sl r := nI_clamp (by omega)
    refine br_f (nI_ge (by omega) (by omega)) (qx_rep _ (by omega) (by omega) ?_)
    refine nm_r (qa_ix (qr_nd p r) sl) (nm_r (qa_ix (qr_nd p q) sl) ⟨vp_in_nI nr (by omega), ?_⟩)
    rw [cl]
    by_cases z : dn (qr_nd p r) = 0
    · have Ar : qr_A dn p L r := (hA r (by omega)).mpr ⟨z, by omega⟩
      refine br_t z ⟨vi, vi, vi, ?_⟩
      rw [ci]
      refine qx_new _ iq _ _ _ (fun y => ?_) (fun y => ?_)
      · refine br_f qe_n10 (nm_r (nI_1 r) (ih (r + 1) r (by omega) (by omega) Ar (fun j hj hAj => ?_) (qe_ntr h2 (qe_asy y))))
        rcases Nat.lt_or_ge j r with c | c
        · exact qe_ntr (h1 j c hAj) (qe_asy y)
        · obtain rfl : j = r := by omega
          exact qe_irr _
      · refine br_t rfl (nm_r (nI_1 r) (ih (r + 1) q (by omega) hq hAq (fun j hj hAj => ?_) h2))
        rcases Nat.lt_or_ge j r with c | c
        · exact h1 j c hAj
        · obtain rfl : j = r := by omega
          exact y
    · refine br_f z (nm_r (nI_1 r) (ih (r + 1) q (by omega) hq hAq (fun j hj hAj => ?_) h2))
      rcases Nat.lt_or_ge j r with c | c
      · exact h1 j c hAj
      · obtain rfl : j = r := by omega
        exact absurd hAj.1 z
theorem qx_nh (post : Int32 → Prop) {p sl L l : Nat} (hp : p < 8) (hs : sl < 72) (hl : l < 3) (hAl : qr_A dn p L l) (hA : ∀ r, r < 3 → (qr_A dn p L r ↔ (dn (qr_nd p r) = 0 ∧ r ≤ l)))
    (h : ∀ q, q < 3 → qr_A dn p L q → (∀ r, r < 3 → qr_A dn p L r → ¬ qe_nw (s (qr_ix p sl r)) (s (qr_ix p sl q))) → post (nI (qr_nd p q))) : wpX_newestHolder post (kh, hn, dn, qx_K s, qx_T s, qx_V s, qx_K f, qx_T f, qx_V f, n1, n2, n3, n4, n5) (nI p) (nI sl) (nI l) := by
  unfold wpX_newestHolder
  refine qx_rep _ (by omega) (by omega) ?_
  exact ⟨l + 1, qx_nhL post hp hs hl hA h l 0 l (by omega) hl hAl (fun j hj => absurd hj (Nat.not_lt_zero j)) (qe_irr _)⟩
theorem qx_snL (post : SX → Prop) {p sl L l q : Nat} (hp : p < 8) (hs : sl < 72) (hl : l < 3) (hq : q < 3) (hAq : qr_A dn p L q) (hA : ∀ r, r < 3 → (qr_A dn p L r ↔ (dn (qr_nd p r) = 0 ∧ r ≤ l)))
    (G : qe_G s) (hm : ∀ r, r < 3 → qr_A dn p L r → ¬ qe_nw (s (qr_ix p sl r)) (s (qr_ix p sl q))) (h : post (kh, hn, dn, qx_K (qr_sh dn p L sl (s (qr_ix p sl q)) s (l + 1)), qx_T (qr_sh dn p L sl (s (qr_ix p sl q)) s (l + 1)), qx_V (qr_sh dn p L sl (s (qr_ix p sl q)) s (l + 1)), qx_K f, qx_T f, qx_V f, n1, n2, n3, n4, n5)) :
    ∀ d r, r + d = l + 1 → wX_shareNewest_17 post (nI p) (nI sl) (nI l) (nI (qr_ix p sl q)) (d + 1) (nI r) kh hn dn (qx_K (qr_sh dn p L sl (s (qr_ix p sl q)) s r)) (qx_T (qr_sh dn p L sl (s (qr_ix p sl q)) s r)) (qx_V (qr_sh dn p L sl (s (qr_ix p sl q)) s r)) (qx_K f) (qx_T f) (qx_V f) n1 n2 n3 n4 n5 := by
  have g : ∀ r, qe_gd (sl < 64) (s (qr_ix p sl r)) := by
    intro r
    have := G (qr_ix p sl r) (qr_ixlt hs)
    rw [qr_ixp hs] at this
    exact this
  intro d
  induction d with
  | zero =>
    intro r hr
    obtain rfl : r = l + 1 := by omega
    exact br_t (nI_lt (by omega) (by omega)) h
  | succ d ih =>
    intro r hr
    have i := ih (r + 1) (by omega)
    have nr : qr_nd p r < 4 := by unfold qr_nd; omega
    have cl : (nI (qr_nd p r)).toNatClampNeg = qr_nd p r := nI_clamp (by omega)
    have iq : qr_ix p sl q < 288 := qr_ixlt hs
    have vi : vp_in (nI (qr_ix p sl q)) 288 := vp_in_nI iq (by omega)
    have ci : (nI (qr_ix p sl q)).toNatClampNeg = qr_ix p sl q := nI_clamp (by omega)
    refine br_f (nI_nlt (by omega) (by omega)) (qx_rep _ (by omega) (by omega) ?_)
    refine ⟨vp_in_nI nr (by omega), ?_⟩
    rw [cl]
    by_cases z : dn (qr_nd p r) = 0
    · have Ar : qr_A dn p L r := (hA r (by omega)).mpr ⟨z, by omega⟩
      refine br_t z ⟨vi, vi, vi, ?_⟩
      rw [ci]
      have eq : qr_sh dn p L sl (s (qr_ix p sl q)) s r (qr_ix p sl q) = s (qr_ix p sl q) := by
        rcases Nat.lt_or_ge q r with c | c
        · exact qr_shi r (by omega) c hAq
        · exact qr_shl c hq
      have et : qe_tk (qr_sh dn p L sl (s (qr_ix p sl q)) s r) (qr_nd p r * 72 + sl) (s (qr_ix p sl q)) = qr_sh dn p L sl (s (qr_ix p sl q)) s (r + 1) := by
        rw [qr_sht Ar]
        show qe_up _ (qr_ix p sl r) (qe_jn (qr_sh dn p L sl (s (qr_ix p sl q)) s r (qr_ix p sl r)) (s (qr_ix p sl q))) = _
        rw [qr_shl (Nat.le_refl r) (by omega), qe_jm (g r) (g q) (hm r (by omega) Ar)]
      have eK : qx_K (qr_sh dn p L sl (s (qr_ix p sl q)) s r) (qr_ix p sl q) = (s (qr_ix p sl q)).1 := congrArg Prod.fst eq
      have eT : qx_T (qr_sh dn p L sl (s (qr_ix p sl q)) s r) (qr_ix p sl q) = (s (qr_ix p sl q)).2.1 := congrArg (fun x => x.2.1) eq
      have eV : qx_V (qr_sh dn p L sl (s (qr_ix p sl q)) s r) (qr_ix p sl q) = (s (qr_ix p sl q)).2.2 := congrArg (fun x => x.2.2) eq
      rw [eK, eT, eV]
      refine qx_takeJ _ nr hs (s (qr_ix p sl q)) (fun _ => ?_)
      rw [et]
      exact nm_r (nI_1 r) i
    · have nA : ¬ qr_A dn p L r := fun y => z y.1
      rw [qr_shf nA] at i
      exact br_f z (nm_r (nI_1 r) i)
theorem qx_sn (post : SX → Prop) {p sl L l : Nat} (hp : p < 8) (hs : sl < 72) (hl : l < 3) (hAl : qr_A dn p L l) (hA : ∀ r, r < 3 → (qr_A dn p L r ↔ (dn (qr_nd p r) = 0 ∧ r ≤ l)))
    (G : qe_G s) (h : post (kh, hn, dn, qx_K (qr_one dn p L sl s), qx_T (qr_one dn p L sl s), qx_V (qr_one dn p L sl s), qx_K f, qx_T f, qx_V f, n1, n2, n3, n4, n5)) : wpX_shareNewest post (kh, hn, dn, qx_K s, qx_T s, qx_V s, qx_K f, qx_T f, qx_V f, n1, n2, n3, n4, n5) (nI p) (nI sl) (nI l) := by
  unfold wpX_shareNewest
  refine qx_nh _ hp hs hl hAl hA (fun q hq hAq hm => ?_)
  refine nm_r (qa_ix (qr_nd p q) sl) ⟨l + 2, ?_⟩
  have g : ∀ r, r < 3 → qe_gd (sl < 64) (s (qr_ix p sl r)) := by
    intro r _
    have := G (qr_ix p sl r) (qr_ixlt hs)
    rw [qr_ixp hs] at this
    exact this
  have eM : s (qr_ix p sl q) = qr_M dn p L sl s := qr_IMu g ⟨hm, Or.inr ⟨q, hq, hAq, rfl⟩⟩ (qr_mxI dn p L (fun r => s (qr_ix p sl r)) 3)
  have eS : qr_sh dn p L sl (s (qr_ix p sl q)) s (l + 1) = qr_one dn p L sl s := by
    rw [eM]
    exact (qr_shc (fun r h1 h2 hB => by have := ((hA r h2).mp hB).2; omega) 3 (by omega) (by omega)).symm
  rw [← eS] at h
  exact qx_snL post hp hs hl hq hAq hA G hm h (l + 1) 0 (by omega)
theorem qx_hid (post : Int32 → Prop) {n pl : Nat} (hn4 : n < 4) (hpl : pl < 64) (h1 : qk_hd s n pl → post 1) (h0 : ¬ qk_hd s n pl → post 0) : wpX_isHidden post (kh, hn, dn, qx_K s, qx_T s, qx_V s, qx_K f, qx_T f, qx_V f, n1, n2, n3, n4, n5) (nI n) (nI pl) := by
  have vw : vp_in (nI (n * 72 + 64 + pl / 8)) 288 := vp_in_nI (by omega) (by omega)
  have ve : vp_in (nI (n * 72 + pl)) 288 := vp_in_nI (by omega) (by omega)
  have cw : (nI (n * 72 + 64 + pl / 8)).toNatClampNeg = n * 72 + 64 + pl / 8 := nI_clamp (by omega)
  have ce : (nI (n * 72 + pl)).toNatClampNeg = n * 72 + pl := nI_clamp (by omega)
  unfold wpX_isHidden
  dsimp only
  refine ⟨qa_n8, nm_r (qa_w n pl hpl) ?_⟩
  rw [qa_ix, cw, ce]
  refine ⟨vw, fun a => ⟨vw, ve, fun b => h0 (fun z => ?_), fun b => h1 ⟨a, Int32.not_lt.mp b⟩⟩, fun a => h0 (fun z => a z.1)⟩
  exact absurd b (Int32.not_lt.mpr z.2)
theorem qx_lv (post : Int64 → Prop) {n pl : Nat} (hn4 : n < 4) (hpl : pl < 64) (h : post (qr_lv (s (n * 72 + pl)) (s (n * 72 + 64 + pl / 8)))) : wpX_liveValue post (kh, hn, dn, qx_K s, qx_T s, qx_V s, qx_K f, qx_T f, qx_V f, n1, n2, n3, n4, n5) (nI n) (nI pl) := by
  have ve : vp_in (nI (n * 72 + pl)) 288 := vp_in_nI (by omega) (by omega)
  have ce : (nI (n * 72 + pl)).toNatClampNeg = n * 72 + pl := nI_clamp (by omega)
  unfold wpX_liveValue
  dsimp only
  refine nm_r (qa_ix n pl) ?_
  rw [ce]
  refine ⟨ve, fun a => qx_hid _ hn4 hpl (fun y => ?_) (fun y => ?_), fun a => ?_⟩
  · rw [qr_lvf (fun z => z.2 y)] at h
    exact br_f qe_n10 h
  · rw [qr_lvt a y] at h
    exact br_t rfl ⟨ve, h⟩
  · rw [qr_lvf (fun z => a z.1)] at h
    exact h
theorem qx_ask (post : Int64 → SX → Prop) {pl L : Nat} (hpl : pl < 64) (h1 : 1 ≤ L) (hL : L ≤ qr_ct dn (pl / 8) 3) (G : qe_G s) (h : post (qr_av dn L pl s) (kh, hn, dn, qx_K (qr_rd dn L pl s), qx_T (qr_rd dn L pl s), qx_V (qr_rd dn L pl s), qx_K f, qx_T f, qx_V f, n1, n2, n3, n4, n5)) : wpX_askReplicas post (kh, hn, dn, qx_K s, qx_T s, qx_V s, qx_K f, qx_T f, qx_V f, n1, n2, n3, n4, n5) (nI pl) (nI L) := by
  have hc := qr_ctle dn (pl / 8) 3
  obtain ⟨l3, lA, lS⟩ := qr_last h1 hL
  unfold wpX_askReplicas
  refine ⟨qa_n8, nm_r (qa_8 (by omega)) (qx_la _ (by omega) (by omega) ?_)⟩
  refine qx_sn _ (L := L) (by omega) (by omega) l3 lA lS G ?_
  rw [qa_64]
  refine qx_sn _ (L := L) (by omega) (by omega) l3 lA lS (qr_G1 G (by omega)) ?_
  refine qx_rep _ (by omega) (by omega) ?_
  have nr : qr_nd (pl / 8) (qr_la dn (pl / 8) L 3) < 4 := by unfold qr_nd; omega
  refine qx_lv _ nr hpl ?_
  have e1 : qr_one dn (pl / 8) L (64 + pl / 8) (qr_one dn (pl / 8) L pl s) (qr_nd (pl / 8) (qr_la dn (pl / 8) L 3) * 72 + pl) = qr_M dn (pl / 8) L pl s := by
    have em : (qr_nd (pl / 8) (qr_la dn (pl / 8) L 3) * 72 + pl) % 72 = pl := by omega
    rw [qr_oneo (by rw [em]; omega) (by omega)]
    exact qr_onei l3 lA
  have e2 : qr_one dn (pl / 8) L (64 + pl / 8) (qr_one dn (pl / 8) L pl s) (qr_nd (pl / 8) (qr_la dn (pl / 8) L 3) * 72 + 64 + pl / 8) = qr_M dn (pl / 8) L (64 + pl / 8) (qr_one dn (pl / 8) L pl s) := by
    rw [Nat.add_assoc]
    exact qr_onei l3 lA
  rw [e1, e2]
  exact h
theorem qx_smL (post : Int64 → SX → Prop) {p L : Nat} (hp : p < 8) (h1 : 1 ≤ L) (hL : L ≤ qr_ct dn p 3) (G : ∀ c, c ≤ 8 → qe_G (qr_sm dn L p s c).1) (h : post (qr_sm dn L p s 8).2 (kh, hn, dn, qx_K ((qr_sm dn L p s 8).1), qx_T ((qr_sm dn L p s 8).1), qx_V ((qr_sm dn L p s 8).1), qx_K f, qx_T f, qx_V f, n1, n2, n3, n4, n5)) :
    ∀ d c, c + d = 8 → wX_sum_36 post (nI p) (nI L) (d + 1) (qr_sm dn L p s c).2 (nI c) kh hn dn (qx_K ((qr_sm dn L p s c).1)) (qx_T ((qr_sm dn L p s c).1)) (qx_V ((qr_sm dn L p s c).1)) (qx_K f) (qx_T f) (qx_V f) n1 n2 n3 n4 n5 := by
  intro d
  induction d with
  | zero =>
    intro c hc
    obtain rfl : c = 8 := by omega
    exact br_t (Int32.le_refl _) h
  | succ d ih =>
    intro c hc
    have i := ih (c + 1) (by omega)
    refine br_f (nI_ge (b := 8) (by omega) (by decide)) ?_
    rw [show nI p * 8 + nI c = nI (p * 8 + c) by rw [show (8 : Int32) = nI 8 from rfl, pk_mul, nI_add]]
    have ep : (p * 8 + c) / 8 = p := by omega
    refine qx_ask _ (by omega) h1 (by rw [ep]; exact hL) (G c (by omega)) ?_
    refine br_c (fun z => ?_) (fun z => ?_)
    · have e : (qr_sm dn L p s (c + 1)).2 = (qr_sm dn L p s c).2 := if_pos z
      rw [e] at i
      exact nm_r (nI_1 c) i
    · have e : (qr_sm dn L p s (c + 1)).2 = (qr_sm dn L p s c).2 + qr_av dn L (p * 8 + c) (qr_sm dn L p s c).1 := if_neg z
      rw [e] at i
      exact nm_e (nm_r (nI_1 c) i)
theorem qr_smG {dn : Nat → Int32} {L p : Nat} {s : Nat → qe_E} (hp : p < 8) (G : qe_G s) : ∀ c, c ≤ 8 → qe_G (qr_sm dn L p s c).1 := by
  intro c
  induction c with
  | zero => intro _; exact G
  | succ c ih => intro hc; exact qr_Gr (ih (by omega)) (by omega)
end
end
section
/-! the component: hints and sending -/
section
variable {kh hn : Int32} {dn : Nat → Int32} {s f : Nat → qe_E} {n1 n2 n3 n4 n5 : Nat → Int32}
theorem qx_mv (post : SX → Prop) {a b : Nat} (ha : a < 12) (hb : b < 12) (h : post (kh, hn, dn, qx_K s, qx_T s, qx_V s, qx_K f, qx_T f, qx_V f, upd n1 b (n1 a), upd n2 b (n2 a), upd n3 b (n3 a), upd n4 b (n4 a), upd n5 b (n5 a))) : wpX_moveHint post (kh, hn, dn, qx_K s, qx_T s, qx_V s, qx_K f, qx_T f, qx_V f, n1, n2, n3, n4, n5) (nI a) (nI b) := by
  have va : vp_in (nI a) 12 := vp_in_nI ha (by omega)
  have vb : vp_in (nI b) 12 := vp_in_nI hb (by omega)
  have ca : (nI a).toNatClampNeg = a := nI_clamp (by omega)
  have cb : (nI b).toNatClampNeg = b := nI_clamp (by omega)
  unfold wpX_moveHint
  dsimp only
  rw [ca, cb]
  exact ⟨va, vb, nm_e ⟨va, vb, nm_e ⟨va, vb, nm_e ⟨va, vb, nm_e ⟨va, vb, nm_e h⟩⟩⟩⟩⟩
theorem qx_doL (post : SX → Prop) (h : post (kh, 11, dn, qx_K s, qx_T s, qx_V s, qx_K f, qx_T f, qx_V f, qh_sg n1 0 11, qh_sg n2 0 11, qh_sg n3 0 11, qh_sg n4 0 11, qh_sg n5 0 11)) : ∀ d i, i + d = 11 →
    wX_dropOldestHint_2 post (d + 1) (nI (i + 1)) kh hn dn (qx_K s) (qx_T s) (qx_V s) (qx_K f) (qx_T f) (qx_V f) (qh_sg n1 0 i) (qh_sg n2 0 i) (qh_sg n3 0 i) (qh_sg n4 0 i) (qh_sg n5 0 i) := by
  intro d
  induction d with
  | zero =>
    intro i hi
    obtain rfl : i = 11 := by omega
    exact br_t (Int32.le_refl _) h
  | succ d ih =>
    intro i hi
    have k := ih (i + 1) (by omega)
    refine br_f (nI_ge (b := 12) (by omega) (by decide)) ?_
    rw [nI_pred]
    refine qx_mv _ (by omega) (by omega) ?_
    rw [qh_sgs (Nat.zero_le i), qh_sgs (Nat.zero_le i), qh_sgs (Nat.zero_le i), qh_sgs (Nat.zero_le i), qh_sgs (Nat.zero_le i)]
    exact nm_r (nI_1 (i + 1)) k
theorem qx_do (post : SX → Prop) (h : post (kh, 11, dn, qx_K s, qx_T s, qx_V s, qx_K f, qx_T f, qx_V f, qh_sg n1 0 11, qh_sg n2 0 11, qh_sg n3 0 11, qh_sg n4 0 11, qh_sg n5 0 11)) : wpX_dropOldestHint post (kh, hn, dn, qx_K s, qx_T s, qx_V s, qx_K f, qx_T f, qx_V f, n1, n2, n3, n4, n5) := by
  have k := qx_doL (hn := hn) post h 11 0 rfl
  rw [qh_sg0, qh_sg0, qh_sg0, qh_sg0, qh_sg0] at k
  exact ⟨12, k⟩
theorem qx_ad1 (post : SX → Prop) {c : Nat} (hc : c < 12) (x1 x2 x3 x4 x5 : Int32) (h : post (kh, nI (c + 1), dn, qx_K s, qx_T s, qx_V s, qx_K f, qx_T f, qx_V f, upd n1 c x1, upd n2 c x2, upd n3 c x3, upd n4 c x4, upd n5 c x5)) : wX_addHint_21 post x1 x2 x3 x4 x5 kh (nI c) dn (qx_K s) (qx_T s) (qx_V s) (qx_K f) (qx_T f) (qx_V f) n1 n2 n3 n4 n5 := by
  have va : vp_in (nI c) 12 := vp_in_nI hc (by omega)
  have ca : (nI c).toNatClampNeg = c := nI_clamp (by omega)
  unfold wX_addHint_21
  rw [ca]
  exact ⟨va, nm_e ⟨va, nm_e ⟨va, nm_e ⟨va, nm_e ⟨va, nm_e (nm_r (nI_1 c) h)⟩⟩⟩⟩⟩
theorem qx_add (post : SX → Prop) {H : List qh_H} (hl : H.length ≤ 12) (hH : qh_at (qh_p qh_fx n1 n2 n3 n4 n5) 0 H) (a sl : Nat) (e : qe_E)
    (h : ∀ m1 m2 m3 m4 m5 : Nat → Int32, qh_at (qh_p qh_fx m1 m2 m3 m4 m5) 0 (qh_add kh H (a, sl, e)) → post (kh, nI (qh_add kh H (a, sl, e)).length, dn, qx_K s, qx_T s, qx_V s, qx_K f, qx_T f, qx_V f, m1, m2, m3, m4, m5)) :
    wpX_addHint post (kh, nI H.length, dn, qx_K s, qx_T s, qx_V s, qx_K f, qx_T f, qx_V f, n1, n2, n3, n4, n5) (nI a) (nI sl) e.1 e.2.1 e.2.2 := by
  unfold wpX_addHint
  refine br_c (fun z => ?_) (fun z => ?_)
  · have ea : qh_add kh H (a, sl, e) = H := if_pos z
    rw [ea] at h
    exact h _ _ _ _ _ hH
  · have ea : qh_add kh H (a, sl, e) = qh_cut H ++ [(a, sl, e)] := if_neg z
    rw [ea] at h
    refine pk_lt H.length 12 (fun c => ?_) (fun c => ?_)
    · have ec : qh_cut H = H := if_neg (by omega)
      rw [ec] at h
      have k := h _ _ _ _ _ (qh_snoc (a := nI a) (b := nI sl) (c := e.1) (d := e.2.1) (e := e.2.2) rfl ⟨rfl, rfl, rfl, rfl, rfl⟩ hH)
      rw [List.length_append] at k
      exact qx_ad1 post c _ _ _ _ _ k
    · have ec : qh_cut H = H.tail := if_pos c
      rw [ec] at h
      cases H with
      | nil => exact absurd c (by decide)
      | cons y R =>
        have lR : R.length = 11 := by rw [List.length_cons] at hl c; omega
        refine qx_do _ ?_
        have hR := qh_del (P := []) (h := 0) (k := 11) rfl (by rw [lR]; rfl) hH
        have k := h _ _ _ _ _ (qh_snoc (a := nI a) (b := nI sl) (c := e.1) (d := e.2.1) (e := e.2.2) lR.symm ⟨rfl, rfl, rfl, rfl, rfl⟩ hR)
        rw [List.length_append, List.tail_cons, lR] at k
        exact qx_ad1 post (c := 11) (by omega) _ _ _ _ _ k
/-- what the component's state is, up to rows of hints beyond the list -/
def qx_R (kh : Int32) (dn : Nat → Int32) (s f : Nat → qe_E) (H : List qh_H) (u : SX) : Prop :=
  ∃ n1 n2 n3 n4 n5 : Nat → Int32, u = (kh, nI H.length, dn, qx_K s, qx_T s, qx_V s, qx_K f, qx_T f, qx_V f, n1, n2, n3, n4, n5) ∧ qh_at (qh_p qh_fx n1 n2 n3 n4 n5) 0 H
theorem qs_len {dn : Nat → Int32} {kh : Int32} {p sl : Nat} {e : qe_E} {S : (Nat → qe_E) × List qh_H} (h : S.2.length ≤ 12) : ∀ r, (qs_al dn kh p sl e r S).2.length ≤ 12 := by
  intro r
  induction r with
  | zero => exact h
  | succ r ih =>
    show (qs_st dn kh p sl e r (qs_al dn kh p sl e r S)).2.length ≤ 12
    unfold qs_st
    split
    · exact ih
    · exact qh_addl ih
theorem qx_sdL (post : Int32 → SX → Prop) {p sl : Nat} (hp : p < 8) (hs : sl < 72) (e : qe_E) (x : Int32) {S : (Nat → qe_E) × List qh_H} (hl : S.2.length ≤ 12)
    (h : ∀ u, qx_R kh dn (qs_al dn kh p sl e 3 S).1 f (qs_al dn kh p sl e 3 S).2 u → post x u) :
    ∀ d r, r + d = 3 → ∀ n1 n2 n3 n4 n5 : Nat → Int32, qh_at (qh_p qh_fx n1 n2 n3 n4 n5) 0 (qs_al dn kh p sl e r S).2 →
      wX_send_27 post (nI sl) e.1 e.2.1 e.2.2 (nI p) x (d + 1) (nI r) kh (nI (qs_al dn kh p sl e r S).2.length) dn (qx_K ((qs_al dn kh p sl e r S).1)) (qx_T ((qs_al dn kh p sl e r S).1)) (qx_V ((qs_al dn kh p sl e r S).1)) (qx_K f) (qx_T f) (qx_V f) n1 n2 n3 n4 n5 := by
  intro d
  induction d with
  | zero =>
    intro r hr n1 n2 n3 n4 n5 hH
    obtain rfl : r = 3 := by omega
    exact br_t (Int32.le_refl _) (h _ ⟨n1, n2, n3, n4, n5, rfl, hH⟩)
  | succ d ih =>
    intro r hr n1 n2 n3 n4 n5 hH
    have i := ih (r + 1) (by omega)
    have nr : qr_nd p r < 4 := by unfold qr_nd; omega
    have cl : (nI (qr_nd p r)).toNatClampNeg = qr_nd p r := nI_clamp (by omega)
    refine br_f (nI_ge (b := 3) (by omega) (by decide)) (qx_rep _ (by omega) (by omega) ?_)
    refine ⟨vp_in_nI nr (by omega), ?_⟩
    rw [cl]
    by_cases z : dn (qr_nd p r) = 0
    · have es : qs_al dn kh p sl e (r + 1) S = (qe_tk (qs_al dn kh p sl e r S).1 (qr_ix p sl r) e, (qs_al dn kh p sl e r S).2) := if_pos z
      rw [es] at i
      refine br_t z (qx_takeJ _ nr hs e (fun _ => ?_))
      exact nm_r (nI_1 r) (i _ _ _ _ _ hH)
    · have es : qs_al dn kh p sl e (r + 1) S = ((qs_al dn kh p sl e r S).1, qh_add kh (qs_al dn kh p sl e r S).2 (qr_nd p r, sl, e)) := if_neg z
      rw [es] at i
      refine br_f z (qx_add _ (qs_len hl r) hH (qr_nd p r) sl e (fun m1 m2 m3 m4 m5 hm => ?_))
      exact nm_r (nI_1 r) (i _ _ _ _ _ hm)
theorem qx_sd (post : Int32 → SX → Prop) {sl L : Nat} (hs : sl < 72) (hL : L < 4) (e : qe_E) {H : List qh_H} (hl : H.length ≤ 12) {u : SX} (R : qx_R kh dn s f H u)
    (h1 : L ≤ qr_ct dn (qp_pt sl) 3 → ∀ u', qx_R kh dn (qs_al dn kh (qp_pt sl) sl e 3 (s, H)).1 f (qs_al dn kh (qp_pt sl) sl e 3 (s, H)).2 u' → post (nI (qr_ct dn (qp_pt sl) 3)) u')
    (h0 : qr_ct dn (qp_pt sl) 3 < L → post (-2) u) : wpX_send post u (nI sl) e.1 e.2.1 e.2.2 (nI L) := by
  obtain ⟨n1, n2, n3, n4, n5, rfl, hH⟩ := R
  have hp : qp_pt sl < 8 := by unfold qp_pt; split <;> omega
  have hc := qr_ctle dn (qp_pt sl) 3
  unfold wpX_send
  refine qx_pt _ hs (qx_cu _ hp ?_)
  refine pk_le L (qr_ct dn (qp_pt sl) 3) (fun c => ?_) (fun c => ?_)
  · exact ⟨4, qx_sdL post hp hs e _ hl (h1 c) 3 0 rfl n1 n2 n3 n4 n5 hH⟩
  · exact h0 c
theorem qx_dlL (post : Int32 → SX → Prop) {n c : Nat} (hn4 : n < 4) (hc : c ≤ 12) : ∀ (R P : List qh_H) (i : Nat) (s : Nat → qe_E) (m1 m2 m3 m4 m5 : Nat → Int32), R.length + i = c → P.length ≤ i → qh_G R →
    qh_at (qh_p qh_fx m1 m2 m3 m4 m5) 0 P → qh_at (qh_p qh_fx m1 m2 m3 m4 m5) i R →
    (∀ u, qx_R kh dn (qh_dl n R s) f (P ++ qh_kp n R) u → post (nI c - nI (P ++ qh_kp n R).length) u) →
    wX_deliverHints_10 post (nI n) (nI c) (R.length + 1) (nI P.length) (nI i) kh hn dn (qx_K s) (qx_T s) (qx_V s) (qx_K f) (qx_T f) (qx_V f) m1 m2 m3 m4 m5 := by
  intro R
  induction R with
  | nil =>
    intro P i s m1 m2 m3 m4 m5 hi hP hG h1 h2 h
    obtain rfl : i = c := by rw [List.length_nil] at hi; omega
    rw [show P ++ qh_kp n [] = P from List.append_nil P] at h
    exact br_t (Int32.le_refl _) (h _ ⟨m1, m2, m3, m4, m5, rfl, h1⟩)
  | cons x R ih =>
    intro P i s m1 m2 m3 m4 m5 hi hP hG h1 h2 h
    rw [List.length_cons] at hi
    obtain ⟨⟨e1, e2, e3, e4, e5⟩, h3⟩ := h2
    have hx := hG x List.mem_cons_self
    have hGR : qh_G R := fun y hy => hG y (List.mem_cons_of_mem x hy)
    have vi : vp_in (nI i) 12 := vp_in_nI (by omega) (by omega)
    have ci : (nI i).toNatClampNeg = i := nI_clamp (by omega)
    refine br_f (nI_ge (by omega) (by omega)) ⟨vi, ?_⟩
    rw [ci, e1]
    refine pk_eq x.1 n (fun z => ?_) (fun z => ?_)
    · have ek : qh_kp n (x :: R) = qh_kp n R := if_pos z
      have ed : qh_dl n (x :: R) s = qh_dl n R (qe_tk s (n * 72 + x.2.1) x.2.2) := if_pos z
      rw [ek, ed] at h
      rw [e2, e3, e4, e5]
      refine ⟨vi, vi, vi, vi, qx_takeJ _ hn4 hx.2.1 x.2.2 (fun _ => ?_)⟩
      exact nm_r (nI_1 i) (ih P (i + 1) _ m1 m2 m3 m4 m5 (by omega) (by omega) hGR h1 h3 h)
    · have ek : qh_kp n (x :: R) = x :: qh_kp n R := if_neg z
      have ed : qh_dl n (x :: R) s = qh_dl n R s := if_neg z
      rw [ek, ed] at h
      have ea : P ++ x :: qh_kp n R = (P ++ [x]) ++ qh_kp n R := by rw [List.append_assoc]; rfl
      rw [ea] at h
      refine qx_mv _ (by omega) (by omega) ?_
      have q1 := qh_snoc (Φ := qh_fx) (x := x) (a := m1 i) (b := m2 i) (c := m3 i) (d := m4 i) (e := m5 i) (m := P.length) rfl ⟨e1, e2, e3, e4, e5⟩ h1
      have q2 : qh_at (qh_p qh_fx (upd m1 P.length (m1 i)) (upd m2 P.length (m2 i)) (upd m3 P.length (m3 i)) (upd m4 P.length (m4 i)) (upd m5 P.length (m5 i))) (i + 1) R := by
        refine qh_mono (fun j k1 k2 y hy => ?_) h3
        have : j ≠ P.length := by omega
        show qh_fx _ _ _ _ _ y
        rw [pk_un this, pk_un this, pk_un this, pk_un this, pk_un this]
        exact hy
      have k := ih (P ++ [x]) (i + 1) s _ _ _ _ _ (by omega) (by rw [List.length_append]; exact Nat.succ_le_succ hP) hGR q1 q2 h
      rw [List.length_append] at k
      exact nm_r (nI_1 P.length) (nm_r (nI_1 i) k)
theorem qx_dl (post : Int32 → SX → Prop) {n : Nat} (hn4 : n < 4) {H : List qh_H} (hl : H.length ≤ 12) (hG : qh_G H) {u : SX} (R : qx_R kh dn s f H u)
    (h : ∀ u', qx_R kh dn (qh_dl n H s) f (qh_kp n H) u' → post (nI H.length - nI (qh_kp n H).length) u') : wpX_deliverHints post u (nI n) := by
  obtain ⟨n1, n2, n3, n4, n5, rfl, hH⟩ := R
  exact ⟨H.length + 1, qx_dlL post hn4 hl H [] 0 s n1 n2 n3 n4 n5 rfl (Nat.le_refl 0) hG trivial hH h⟩
end
end
section
/-! the component: loops over a node's slots -/
section
theorem qa_n32 : ¬ (3 : Int32) = 2 := by decide
theorem qk_00 {lo : Nat} {F G : Nat → qe_E} : qk_mix lo (lo + 0) F G = G := qk_0
def qk_ss (e : qe_E) : Int64 := if e.1 = 0 then 1000000000000 else e.2.1.toInt64
theorem qk_sst {e : qe_E} (h : e.1 = 0) : qk_ss e = 1000000000000 := if_pos h
theorem qk_ssf {e : qe_E} (h : ¬ e.1 = 0) : qk_ss e = e.2.1.toInt64 := if_neg h
variable {kh hn : Int32} {dn : Nat → Int32} {s f : Nat → qe_E} {n1 n2 n3 n4 n5 : Nat → Int32}
theorem qx_cnL (post : Int32 → Prop) {n : Nat} (h4 : n < 4) (h : post (nI (qk_cn s n 64))) : ∀ d k, k + d = 64 → wX_countEntries_4 post (nI n) kh hn dn (qx_K s) (qx_T s) (qx_V s) (qx_K f) (qx_T f) (qx_V f) n1 n2 n3 n4 n5 (d + 1) (nI (qk_cn s n k)) (nI k) := by
  intro d
  induction d with
  | zero =>
    intro k hk
    obtain rfl : k = 64 := by omega
    exact br_t (Int32.le_refl _) h
  | succ d ih =>
    intro k hk
    have i := ih (k + 1) (by omega)
    have vi : vp_in (nI (n * 72 + k)) 288 := vp_in_nI (by omega) (by omega)
    have ci : (nI (n * 72 + k)).toNatClampNeg = n * 72 + k := nI_clamp (by omega)
    refine br_f (nI_ge (b := 64) (by omega) (by decide)) ?_
    rw [qa_ix, ci]
    refine ⟨vi, br_c (fun z => ?_) (fun z => ?_)⟩
    · have e : qk_cn s n (k + 1) = qk_cn s n k := if_pos z
      rw [e] at i
      exact nm_r (nI_1 k) i
    · have e : qk_cn s n (k + 1) = qk_cn s n k + 1 := if_neg z
      rw [e] at i
      exact nm_r (nI_1 _) (nm_r (nI_1 k) i)
theorem qx_cn (post : Int32 → Prop) {n : Nat} (h4 : n < 4) (h : post (nI (qk_cn s n 64))) : wpX_countEntries post (kh, hn, dn, qx_K s, qx_T s, qx_V s, qx_K f, qx_T f, qx_V f, n1, n2, n3, n4, n5) (nI n) := ⟨65, qx_cnL post h4 h 64 0 rfl⟩
theorem qx_rfL (post : SX → Prop) {n : Nat} (h4 : n < 4) (h : post (kh, hn, dn, qx_K (qk_cp n f s), qx_T (qk_cp n f s), qx_V (qk_cp n f s), qx_K f, qx_T f, qx_V f, n1, n2, n3, n4, n5)) : ∀ d k, k + d = 72 → wX_restoreFlushed_2 post (nI n) kh hn (d + 1) (nI k) dn (qx_K (qk_mix (n * 72) (n * 72 + k) f s)) (qx_T (qk_mix (n * 72) (n * 72 + k) f s)) (qx_V (qk_mix (n * 72) (n * 72 + k) f s)) (qx_K f) (qx_T f) (qx_V f) n1 n2 n3 n4 n5 := by
  intro d
  induction d with
  | zero =>
    intro k hk
    obtain rfl : k = 72 := by omega
    exact br_t (Int32.le_refl _) h
  | succ d ih =>
    intro k hk
    have i := ih (k + 1) (by omega)
    have vi : vp_in (nI (n * 72 + k)) 288 := vp_in_nI (by omega) (by omega)
    have ci : (nI (n * 72 + k)).toNatClampNeg = n * 72 + k := nI_clamp (by omega)
    refine br_f (nI_ge (b := 72) (by omega) (by decide)) (nm_r (qa_ix n k) ?_)
    rw [ci]
    have e : qe_up (qk_mix (n * 72) (n * 72 + k) f s) (n * 72 + k) (qx_K f (n * 72 + k), qx_T f (n * 72 + k), qx_V f (n * 72 + k)) = qk_mix (n * 72) (n * 72 + (k + 1)) f s := qk_s (by omega) rfl
    refine ⟨vi, vi, nm_r (qx_uK _ _ (qx_K f (n * 72 + k)) (qx_T f (n * 72 + k)) (qx_V f (n * 72 + k))) ⟨vi, vi, nm_r (qx_uT _ _ (qx_K f (n * 72 + k)) (qx_T f (n * 72 + k)) (qx_V f (n * 72 + k))) ⟨vi, vi, nm_r (qx_uV _ _ (qx_K f (n * 72 + k)) (qx_T f (n * 72 + k)) (qx_V f (n * 72 + k))) ?_⟩⟩⟩
    rw [e]
    exact nm_r (nI_1 k) i
theorem qx_rf (post : SX → Prop) {n : Nat} (h4 : n < 4) (h : post (kh, hn, dn, qx_K (qk_cp n f s), qx_T (qk_cp n f s), qx_V (qk_cp n f s), qx_K f, qx_T f, qx_V f, n1, n2, n3, n4, n5)) : wpX_restoreFlushed post (kh, hn, dn, qx_K s, qx_T s, qx_V s, qx_K f, qx_T f, qx_V f, n1, n2, n3, n4, n5) (nI n) := by
  have k := qx_rfL (hn := hn) post h4 h 72 0 rfl
  rw [qk_00] at k
  exact ⟨73, k⟩
theorem qx_kfL (post : SX → Prop) {n : Nat} (h4 : n < 4) (h : post (kh, hn, dn, qx_K s, qx_T s, qx_V s, qx_K (qk_cp n s f), qx_T (qk_cp n s f), qx_V (qk_cp n s f), n1, n2, n3, n4, n5)) : ∀ d k, k + d = 72 → wX_keepAsFlushed_2 post (nI n) kh hn (d + 1) (nI k) dn (qx_K s) (qx_T s) (qx_V s) (qx_K (qk_mix (n * 72) (n * 72 + k) s f)) (qx_T (qk_mix (n * 72) (n * 72 + k) s f)) (qx_V (qk_mix (n * 72) (n * 72 + k) s f)) n1 n2 n3 n4 n5 := by
  intro d
  induction d with
  | zero =>
    intro k hk
    obtain rfl : k = 72 := by omega
    exact br_t (Int32.le_refl _) h
  | succ d ih =>
    intro k hk
    have i := ih (k + 1) (by omega)
    have vi : vp_in (nI (n * 72 + k)) 288 := vp_in_nI (by omega) (by omega)
    have ci : (nI (n * 72 + k)).toNatClampNeg = n * 72 + k := nI_clamp (by omega)
    refine br_f (nI_ge (b := 72) (by omega) (by decide)) (nm_r (qa_ix n k) ?_)
    rw [ci]
    have e : qe_up (qk_mix (n * 72) (n * 72 + k) s f) (n * 72 + k) (qx_K s (n * 72 + k), qx_T s (n * 72 + k), qx_V s (n * 72 + k)) = qk_mix (n * 72) (n * 72 + (k + 1)) s f := qk_s (by omega) rfl
    refine ⟨vi, vi, nm_r (qx_uK _ _ (qx_K s (n * 72 + k)) (qx_T s (n * 72 + k)) (qx_V s (n * 72 + k))) ⟨vi, vi, nm_r (qx_uT _ _ (qx_K s (n * 72 + k)) (qx_T s (n * 72 + k)) (qx_V s (n * 72 + k))) ⟨vi, vi, nm_r (qx_uV _ _ (qx_K s (n * 72 + k)) (qx_T s (n * 72 + k)) (qx_V s (n * 72 + k))) ?_⟩⟩⟩
    rw [e]
    exact nm_r (nI_1 k) i
theorem qx_kf (post : SX → Prop) {n : Nat} (h4 : n < 4) (h : post (kh, hn, dn, qx_K s, qx_T s, qx_V s, qx_K (qk_cp n s f), qx_T (qk_cp n s f), qx_V (qk_cp n s f), n1, n2, n3, n4, n5)) : wpX_keepAsFlushed post (kh, hn, dn, qx_K s, qx_T s, qx_V s, qx_K f, qx_T f, qx_V f, n1, n2, n3, n4, n5) (nI n) := by
  have k := qx_kfL (hn := hn) post h4 h 72 0 rfl
  rw [qk_00] at k
  exact ⟨73, k⟩
theorem qx_em (post : SX → Prop) {i : Nat} (hi : i < 288) (h : post (kh, hn, dn, qx_K (qe_up s i qe_z), qx_T (qe_up s i qe_z), qx_V (qe_up s i qe_z), qx_K f, qx_T f, qx_V f, n1, n2, n3, n4, n5)) : wpX_empty post (kh, hn, dn, qx_K s, qx_T s, qx_V s, qx_K f, qx_T f, qx_V f, n1, n2, n3, n4, n5) (nI i) := by
  have vi : vp_in (nI i) 288 := vp_in_nI hi (by omega)
  have ci : (nI i).toNatClampNeg = i := nI_clamp (by omega)
  unfold wpX_empty
  dsimp only
  rw [ci]
  exact ⟨vi, nm_r (qx_uK s i 0 0 0) ⟨vi, nm_r (qx_uT s i 0 0 0) ⟨vi, nm_r (qx_uV s i 0 0 0) h⟩⟩⟩
theorem qx_dhL (post : SX → Prop) {n : Nat} (h4 : n < 4) (h : post (kh, hn, dn, qx_K (qk_1 n s), qx_T (qk_1 n s), qx_V (qk_1 n s), qx_K f, qx_T f, qx_V f, n1, n2, n3, n4, n5)) : ∀ d k, k + d = 64 → wX_dropHiddenEntries_2 post (nI n) (d + 1) (nI k) kh hn dn (qx_K (qk_mix (n * 72) (n * 72 + k) (qk_fh n s) s)) (qx_T (qk_mix (n * 72) (n * 72 + k) (qk_fh n s) s)) (qx_V (qk_mix (n * 72) (n * 72 + k) (qk_fh n s) s)) (qx_K f) (qx_T f) (qx_V f) n1 n2 n3 n4 n5 := by
  intro d
  induction d with
  | zero =>
    intro k hk
    obtain rfl : k = 64 := by omega
    exact br_t (Int32.le_refl _) h
  | succ d ih =>
    intro k hk
    have i := ih (k + 1) (by omega)
    have ee : qk_mix (n * 72) (n * 72 + k) (qk_fh n s) s (n * 72 + k) = s (n * 72 + k) := qk_o (by omega)
    have ew : qk_mix (n * 72) (n * 72 + k) (qk_fh n s) s (n * 72 + 64 + k / 8) = s (n * 72 + 64 + k / 8) := qk_o (by omega)
    have eh : qk_hd (qk_mix (n * 72) (n * 72 + k) (qk_fh n s) s) n k ↔ qk_hd s n k := by
      unfold qk_hd; rw [ee, ew]
    have ek : n * 72 + k - n * 72 = k := by omega
    refine br_f (nI_ge (b := 64) (by omega) (by decide)) (qx_hid _ h4 (by omega) (fun z => ?_) (fun z => ?_))
    · rw [eh] at z
      have ef : qe_z = qk_fh n s (n * 72 + k) := by
        unfold qk_fh; rw [ek, if_pos z]
      refine br_f qe_n10 ?_
      rw [qa_ix]
      refine qx_em _ (by omega) ?_
      rw [qk_s (by omega) ef]
      exact nm_r (nI_1 k) i
    · rw [eh] at z
      have ef : s (n * 72 + k) = qk_fh n s (n * 72 + k) := by
        unfold qk_fh; rw [ek, if_neg z]
      refine br_t rfl ?_
      rw [qk_st (by omega) ef]
      exact nm_r (nI_1 k) i
theorem qx_dh (post : SX → Prop) {n : Nat} (h4 : n < 4) (h : post (kh, hn, dn, qx_K (qk_1 n s), qx_T (qk_1 n s), qx_V (qk_1 n s), qx_K f, qx_T f, qx_V f, n1, n2, n3, n4, n5)) : wpX_dropHiddenEntries post (kh, hn, dn, qx_K s, qx_T s, qx_V s, qx_K f, qx_T f, qx_V f, n1, n2, n3, n4, n5) (nI n) := by
  have k := qx_dhL (hn := hn) post h4 h 64 0 rfl
  rw [qk_00] at k
  exact ⟨65, k⟩
theorem qx_ddL (post : SX → Prop) {n : Nat} {b : Int32} (h4 : n < 4) (h : post (kh, hn, dn, qx_K (qk_mix (n * 72) (n * 72 + 64) (qk_fd b s) s), qx_T (qk_mix (n * 72) (n * 72 + 64) (qk_fd b s) s), qx_V (qk_mix (n * 72) (n * 72 + 64) (qk_fd b s) s), qx_K f, qx_T f, qx_V f, n1, n2, n3, n4, n5)) : ∀ d k, k + d = 64 → wX_dropOldDeadEntries_2 post (nI n) b (d + 1) (nI k) kh hn dn (qx_K (qk_mix (n * 72) (n * 72 + k) (qk_fd b s) s)) (qx_T (qk_mix (n * 72) (n * 72 + k) (qk_fd b s) s)) (qx_V (qk_mix (n * 72) (n * 72 + k) (qk_fd b s) s)) (qx_K f) (qx_T f) (qx_V f) n1 n2 n3 n4 n5 := by
  intro d
  induction d with
  | zero =>
    intro k hk
    obtain rfl : k = 64 := by omega
    exact br_t (Int32.le_refl _) h
  | succ d ih =>
    intro k hk
    have i := ih (k + 1) (by omega)
    have ee : qk_mix (n * 72) (n * 72 + k) (qk_fd b s) s (n * 72 + k) = s (n * 72 + k) := qk_o (by omega)
    have eK : qx_K (qk_mix (n * 72) (n * 72 + k) (qk_fd b s) s) (n * 72 + k) = (s (n * 72 + k)).1 := congrArg Prod.fst ee
    have eT : qx_T (qk_mix (n * 72) (n * 72 + k) (qk_fd b s) s) (n * 72 + k) = (s (n * 72 + k)).2.1 := congrArg (fun x => x.2.1) ee
    have vi : vp_in (nI (n * 72 + k)) 288 := vp_in_nI (by omega) (by omega)
    have ci : (nI (n * 72 + k)).toNatClampNeg = n * 72 + k := nI_clamp (by omega)
    have no : ¬ ((s (n * 72 + k)).1 = 2 ∧ (s (n * 72 + k)).2.1 < b) → wX_dropOldDeadEntries_2 post (nI n) b (d + 1) (nI (k + 1)) kh hn dn (qx_K (qk_mix (n * 72) (n * 72 + k) (qk_fd b s) s)) (qx_T (qk_mix (n * 72) (n * 72 + k) (qk_fd b s) s)) (qx_V (qk_mix (n * 72) (n * 72 + k) (qk_fd b s) s)) (qx_K f) (qx_T f) (qx_V f) n1 n2 n3 n4 n5 := by
      intro z
      have ef : s (n * 72 + k) = qk_fd b s (n * 72 + k) := by unfold qk_fd; rw [if_neg z]
      rw [qk_st (by omega) ef]
      exact i
    refine br_f (nI_ge (b := 64) (by omega) (by decide)) (nm_r (qa_ix n k) ?_)
    rw [ci, eK, eT]
    refine ⟨vi, fun z => ⟨vi, fun y => nm_r (nI_1 k) (no (fun w => absurd w.2 (Int32.not_lt.mpr y))), fun y => ?_⟩, fun z => nm_r (nI_1 k) (no (fun w => z w.1))⟩
    have ef : qe_z = qk_fd b s (n * 72 + k) := by unfold qk_fd; rw [if_pos ⟨z, Int32.not_le.mp y⟩]
    refine qx_em _ (by omega) ?_
    rw [qk_s (by omega) ef]
    exact nm_r (nI_1 k) i
theorem qx_dd (post : SX → Prop) {n : Nat} {b : Int32} (h4 : n < 4) (h : post (kh, hn, dn, qx_K (qk_mix (n * 72) (n * 72 + 64) (qk_fd b s) s), qx_T (qk_mix (n * 72) (n * 72 + 64) (qk_fd b s) s), qx_V (qk_mix (n * 72) (n * 72 + 64) (qk_fd b s) s), qx_K f, qx_T f, qx_V f, n1, n2, n3, n4, n5)) : wpX_dropOldDeadEntries post (kh, hn, dn, qx_K s, qx_T s, qx_V s, qx_K f, qx_T f, qx_V f, n1, n2, n3, n4, n5) (nI n) b := by
  have k := qx_ddL (hn := hn) post h4 h 64 0 rfl
  rw [qk_00] at k
  exact ⟨65, k⟩
theorem qx_dwL (post : SX → Prop) {n : Nat} {b : Int32} (h4 : n < 4) (h : post (kh, hn, dn, qx_K (qk_mix (n * 72 + 64) (n * 72 + 72) (qk_fw b s) s), qx_T (qk_mix (n * 72 + 64) (n * 72 + 72) (qk_fw b s) s), qx_V (qk_mix (n * 72 + 64) (n * 72 + 72) (qk_fw b s) s), qx_K f, qx_T f, qx_V f, n1, n2, n3, n4, n5)) : ∀ d k, 64 ≤ k → k + d = 72 → wX_dropOldWipes_3 post (nI n) b (d + 1) (nI k) kh hn dn (qx_K (qk_mix (n * 72 + 64) (n * 72 + k) (qk_fw b s) s)) (qx_T (qk_mix (n * 72 + 64) (n * 72 + k) (qk_fw b s) s)) (qx_V (qk_mix (n * 72 + 64) (n * 72 + k) (qk_fw b s) s)) (qx_K f) (qx_T f) (qx_V f) n1 n2 n3 n4 n5 := by
  intro d
  induction d with
  | zero =>
    intro k h64 hk
    obtain rfl : k = 72 := by omega
    exact br_t (Int32.le_refl _) h
  | succ d ih =>
    intro k h64 hk
    have i := ih (k + 1) (by omega) (by omega)
    have ee : qk_mix (n * 72 + 64) (n * 72 + k) (qk_fw b s) s (n * 72 + k) = s (n * 72 + k) := qk_o (by omega)
    have eK : qx_K (qk_mix (n * 72 + 64) (n * 72 + k) (qk_fw b s) s) (n * 72 + k) = (s (n * 72 + k)).1 := congrArg Prod.fst ee
    have eT : qx_T (qk_mix (n * 72 + 64) (n * 72 + k) (qk_fw b s) s) (n * 72 + k) = (s (n * 72 + k)).2.1 := congrArg (fun x => x.2.1) ee
    have vi : vp_in (nI (n * 72 + k)) 288 := vp_in_nI (by omega) (by omega)
    have ci : (nI (n * 72 + k)).toNatClampNeg = n * 72 + k := nI_clamp (by omega)
    have no : ¬ ((s (n * 72 + k)).1 = 3 ∧ (s (n * 72 + k)).2.1 < b) → wX_dropOldWipes_3 post (nI n) b (d + 1) (nI (k + 1)) kh hn dn (qx_K (qk_mix (n * 72 + 64) (n * 72 + k) (qk_fw b s) s)) (qx_T (qk_mix (n * 72 + 64) (n * 72 + k) (qk_fw b s) s)) (qx_V (qk_mix (n * 72 + 64) (n * 72 + k) (qk_fw b s) s)) (qx_K f) (qx_T f) (qx_V f) n1 n2 n3 n4 n5 := by
      intro z
      have ef : s (n * 72 + k) = qk_fw b s (n * 72 + k) := by unfold qk_fw; rw [if_neg z]
      rw [qk_st (by omega) ef]
      exact i
    refine br_f (nI_ge (b := 72) (by omega) (by decide)) (nm_r (qa_ix n k) ?_)
    rw [ci, eK, eT]
    refine ⟨vi, fun z => ⟨vi, fun y => nm_r (nI_1 k) (no (fun w => absurd w.2 (Int32.not_lt.mpr y))), fun y => ?_⟩, fun z => nm_r (nI_1 k) (no (fun w => z w.1))⟩
    have ef : qe_z = qk_fw b s (n * 72 + k) := by unfold qk_fw; rw [if_pos ⟨z, Int32.not_le.mp y⟩]
    refine qx_em _ (by omega) ?_
    rw [qk_s (by omega) ef]
    exact nm_r (nI_1 k) i
theorem qx_dw (post : SX → Prop) {n : Nat} {b : Int32} (h4 : n < 4) (h : post (kh, hn, dn, qx_K (qk_mix (n * 72 + 64) (n * 72 + 72) (qk_fw b s) s), qx_T (qk_mix (n * 72 + 64) (n * 72 + 72) (qk_fw b s) s), qx_V (qk_mix (n * 72 + 64) (n * 72 + 72) (qk_fw b s) s), qx_K f, qx_T f, qx_V f, n1, n2, n3, n4, n5)) : wpX_dropOldWipes post (kh, hn, dn, qx_K s, qx_T s, qx_V s, qx_K f, qx_T f, qx_V f, n1, n2, n3, n4, n5) (nI n) b := by
  have k := qx_dwL (hn := hn) post h4 h 8 64 (Nat.le_refl 64) rfl
  rw [qk_0] at k
  exact ⟨9, k⟩
theorem qx_ss (post : Int64 → Prop) {n sl : Nat} (h4 : n < 4) (hs : sl < 72) (h : post (qk_ss (s (n * 72 + sl)))) : wpX_slotStamp post (kh, hn, dn, qx_K s, qx_T s, qx_V s, qx_K f, qx_T f, qx_V f, n1, n2, n3, n4, n5) (nI n) (nI sl) := by
  have vi : vp_in (nI (n * 72 + sl)) 288 := vp_in_nI (by omega) (by omega)
  have ci : (nI (n * 72 + sl)).toNatClampNeg = n * 72 + sl := nI_clamp (by omega)
  unfold wpX_slotStamp
  dsimp only
  refine nm_r (qa_ix n sl) ?_
  rw [ci]
  refine ⟨vi, fun z => ?_, fun z => ⟨vi, ?_⟩⟩
  · rw [qk_sst (e := s (n * 72 + sl)) z] at h; exact h
  · rw [qk_ssf (e := s (n * 72 + sl)) z] at h; exact h
theorem qx_ir (post : Int32 → Prop) {a p : Nat} (ha : a < 4) (hp : p < 8) (h1 : (p + 3) % 4 ≠ a → post 1) (h0 : (p + 3) % 4 = a → post 0) : wpX_isReplica post (nI a) (nI p) := by
  unfold wpX_isReplica
  have e : nI a + 8 - nI p = nI (a + 8 - p) := by
    rw [show (8 : Int32) = nI 8 from rfl, nI_add, pk_sub (by omega)]
  rw [e, qa_4 (by omega)]
  exact ⟨qa_n4, pk_le 3 ((a + 8 - p) % 4) (fun z => h0 (by omega)) (fun z => h1 (by omega))⟩
theorem qx_tf (post : Int32 → SX → Prop) {a b sl : Nat} (ha : a < 4) (hb : b < 4) (hs : sl < 72) (h1 : qe_nw (s (a * 72 + sl)) (s (b * 72 + sl)) → post 1 (kh, hn, dn, qx_K (qe_up s (b * 72 + sl) (s (a * 72 + sl))), qx_T (qe_up s (b * 72 + sl) (s (a * 72 + sl))), qx_V (qe_up s (b * 72 + sl) (s (a * 72 + sl))), qx_K f, qx_T f, qx_V f, n1, n2, n3, n4, n5)) (h0 : ¬ qe_nw (s (a * 72 + sl)) (s (b * 72 + sl)) → post 0 (kh, hn, dn, qx_K s, qx_T s, qx_V s, qx_K f, qx_T f, qx_V f, n1, n2, n3, n4, n5)) : wpX_takeFrom post (kh, hn, dn, qx_K s, qx_T s, qx_V s, qx_K f, qx_T f, qx_V f, n1, n2, n3, n4, n5) (nI a) (nI b) (nI sl) := by
  have vi : vp_in (nI (a * 72 + sl)) 288 := vp_in_nI (by omega) (by omega)
  have ci : (nI (a * 72 + sl)).toNatClampNeg = a * 72 + sl := nI_clamp (by omega)
  unfold wpX_takeFrom
  dsimp only
  refine nm_r (qa_ix a sl) ?_
  rw [ci]
  exact ⟨vi, vi, vi, qx_take _ hb hs _ _ _ h1 h0⟩
theorem qx_rpL (post : Int32 → SX → Prop) {a b : Nat} (ha : a < 4) (hb : b < 4) (hab : a ≠ b) (h : post (nI (qp_al a b s 72).2) (kh, hn, dn, qx_K ((qp_al a b s 72).1), qx_T ((qp_al a b s 72).1), qx_V ((qp_al a b s 72).1), qx_K f, qx_T f, qx_V f, n1, n2, n3, n4, n5)) : ∀ d k, k + d = 72 → wX_repair_47 post (nI a) (nI b) (d + 1) (nI (qp_al a b s k).2) (nI k) kh hn dn (qx_K ((qp_al a b s k).1)) (qx_T ((qp_al a b s k).1)) (qx_V ((qp_al a b s k).1)) (qx_K f) (qx_T f) (qx_V f) n1 n2 n3 n4 n5 := by
  intro d
  induction d with
  | zero =>
    intro k hk
    obtain rfl : k = 72 := by omega
    exact br_t (Int32.le_refl _) h
  | succ d ih =>
    intro k hk
    have i := ih (k + 1) (by omega)
    have hp : qp_pt k < 8 := by unfold qp_pt; split <;> omega
    have no : ¬ qp_bo a b k → wX_repair_47 post (nI a) (nI b) (d + 1) (nI (qp_al a b s k).2) (nI (k + 1)) kh hn dn (qx_K ((qp_al a b s k).1)) (qx_T ((qp_al a b s k).1)) (qx_V ((qp_al a b s k).1)) (qx_K f) (qx_T f) (qx_V f) n1 n2 n3 n4 n5 := by
      intro z
      have e : qp_al a b s (k + 1) = qp_al a b s k := if_neg z
      rw [e] at i
      exact i
    refine br_f (nI_ge (b := 72) (by omega) (by decide)) (qx_pt _ (by omega) (qx_ir _ ha hp (fun z1 => br_f qe_n10 (qx_ir _ hb hp (fun z2 => br_f qe_n10 ?_) (fun z2 => br_t rfl (nm_r (nI_1 k) (no (fun w => w.2 z2)))))) (fun z1 => br_t rfl (nm_r (nI_1 k) (no (fun w => w.1 z1))))))
    have e : qp_al a b s (k + 1) = qp_st a b k (qp_al a b s k) := if_pos ⟨z1, z2⟩
    rw [e] at i
    clear no
    generalize qp_al a b s k = S at i ⊢
    have hne : b * 72 + k ≠ a * 72 + k := by omega
    refine qx_tf _ hb ha (by omega) (fun y => ?_) (fun y => ?_)
    · have e2 : qp_st a b k S = (qe_up S.1 (a * 72 + k) (S.1 (b * 72 + k)), S.2 + 1) := by
        unfold qp_st; rw [if_neg (qe_asy y), if_pos y]
      rw [e2] at i
      refine nm_r (nI_1 S.2) (qx_tf _ ha hb (by omega) (fun w => ?_) (fun w => ?_))
      · rw [qe_us, qe_un hne] at w
        exact absurd w (qe_irr _)
      · exact nm_r (Int32.add_zero _) (nm_r (nI_1 k) i)
    · refine nm_r (Int32.add_zero _) (qx_tf _ ha hb (by omega) (fun w => ?_) (fun w => ?_))
      · have e2 : qp_st a b k S = (qe_up S.1 (b * 72 + k) (S.1 (a * 72 + k)), S.2 + 1) := by
          unfold qp_st; rw [if_pos w]
        rw [e2] at i
        exact nm_r (nI_1 S.2) (nm_r (nI_1 k) i)
      · have e2 : qp_st a b k S = S := by
          unfold qp_st; rw [if_neg w, if_neg y]
        rw [e2] at i
        exact nm_r (Int32.add_zero _) (nm_r (nI_1 k) i)
end
end
section
/-! the reference: its state, taking in, counting -/
section
def qy_E (s f : Nat → qe_E) (yk ys yv : Nat → Int32) : Prop :=
  (∀ j, j < 288 → qe_er (j % 72 < 64) (s j) (yk j) (ys j) (yv j)) ∧ (∀ j, j < 288 → qe_er (j % 72 < 64) (f j) (yk (288 + j)) (ys (288 + j)) (yv (288 + j)))
def qy_A (dn al : Nat → Int32) : Prop := ∀ j, j < 4 → (dn j = 0 ∧ al j = 1) ∨ (¬ dn j = 0 ∧ al j = 0)
theorem qy_A0 {dn al : Nat → Int32} (h : qy_A dn al) {j : Nat} (hj : j < 4) (z : dn j = 0) : ¬ al j = 0 := by
  rcases h j hj with c | c
  · rw [c.2]; exact qe_n10
  · exact absurd z c.1
theorem qy_A1 {dn al : Nat → Int32} (h : qy_A dn al) {j : Nat} (hj : j < 4) (z : ¬ dn j = 0) : al j = 0 := by
  rcases h j hj with c | c
  · exact absurd c.1 z
  · exact c.2
def qy_R (kh : Int32) (dn : Nat → Int32) (s f : Nat → qe_E) (H : List qh_H) (v : SY) : Prop := match v with
  | (hg, hd, yk, ys, yv, al, m1, m2, m3, m4, m5) => hg = kh ∧ hd = nI H.length ∧ qy_E s f yk ys yv ∧ qy_A dn al ∧ qh_at (qh_p qh_fy m1 m2 m3 m4 m5) 0 H
theorem qy_G {kh : Int32} {dn : Nat → Int32} {s f : Nat → qe_E} {H : List qh_H} {v : SY} (R : qy_R kh dn s f H v) : qe_G s ∧ qe_G f := by
  obtain ⟨hg, hd, yk, ys, yv, al, m1, m2, m3, m4, m5⟩ := v
  obtain ⟨_, _, rE, _, _⟩ := R
  exact ⟨fun j hj => qe_erg (rE.1 j hj), fun j hj => qe_erg (rE.2 j hj)⟩
theorem qy_up {s f : Nat → qe_E} {yk ys yv : Nat → Int32} (h : qy_E s f yk ys yv) {i : Nat} (hi : i < 288) {e : qe_E} {k t v : Int32} (he : qe_er (i % 72 < 64) e k t v) : qy_E (qe_up s i e) f (upd yk i k) (upd ys i t) (upd yv i v) := by
  refine ⟨fun j hj => ?_, fun j hj => ?_⟩
  · by_cases c : j = i
    · subst c
      rw [qe_us, pk_us, pk_us, pk_us]
      exact he
    · rw [qe_un c, pk_un c, pk_un c, pk_un c]
      exact h.1 j hj
  · have c : 288 + j ≠ i := by omega
    rw [pk_un c, pk_un c, pk_un c]
    exact h.2 j hj
theorem qy_upf {s f : Nat → qe_E} {yk ys yv : Nat → Int32} (h : qy_E s f yk ys yv) {i : Nat} (hi : i < 288) {e : qe_E} {k t v : Int32} (he : qe_er (i % 72 < 64) e k t v) : qy_E s (qe_up f i e) (upd yk (288 + i) k) (upd ys (288 + i) t) (upd yv (288 + i) v) := by
  refine ⟨fun j hj => ?_, fun j hj => ?_⟩
  · have c : j ≠ 288 + i := by omega
    rw [pk_un c, pk_un c, pk_un c]
    exact h.1 j hj
  · by_cases c : j = i
    · subst c
      rw [qe_us, pk_us, pk_us, pk_us]
      exact he
    · have c' : 288 + j ≠ 288 + i := by omega
      rw [qe_un c, pk_un c', pk_un c', pk_un c']
      exact h.2 j hj
theorem qy_z {s f : Nat → qe_E} {yk ys yv : Nat → Int32} (h : qy_E s f yk ys yv) {i : Nat} (hi : i < 288) : qy_E (qe_up s i qe_z) f (upd yk i 0) ys yv := by
  refine ⟨fun j hj => ?_, fun j hj => ?_⟩
  · by_cases c : j = i
    · subst c
      rw [qe_us, pk_us]
      exact qe_erz
    · rw [qe_un c, pk_un c]
      exact h.1 j hj
  · have c : 288 + j ≠ i := by omega
    rw [pk_un c]
    exact h.2 j hj
theorem qe_erk {p : Prop} {x : qe_E} {k s v : Int32} (h : qe_er p x k s v) : k = 0 ∨ k = 1 ∨ k = 2 := by
  rcases h with h | h | h | h
  · exact Or.inl h.2
  · exact Or.inr (Or.inl h.2.2)
  · exact Or.inr (Or.inr h.2.2.1)
  · exact Or.inr (Or.inr h.2.2.1)
theorem qy_b0 : vp_nar .byte 0 = 0 := by rw [vp_nar_byte]; decide
theorem qy_b1 : vp_nar .byte 1 = 1 := by rw [vp_nar_byte]; decide
theorem qy_b2 : vp_nar .byte 2 = 2 := by rw [vp_nar_byte]; decide
theorem qy_i0 : (0 : Int32).toInt8.toInt32 = 0 := by decide
theorem qy_i1 : (1 : Int32).toInt8.toInt32 = 1 := by decide
theorem qy_i2 : (2 : Int32).toInt8.toInt32 = 2 := by decide
theorem qy_nb {k : Int32} (h : k = 0 ∨ k = 1 ∨ k = 2) : vp_nar .byte k = k := by
  rcases h with rfl | rfl | rfl
  · exact qy_b0
  · exact qy_b1
  · exact qy_b2
theorem qy_nbc {k : Int32} (h : k = 0 ∨ k = 1 ∨ k = 2) : vp_nar .byte k.toInt8.toInt32 = k := by
  rcases h with rfl | rfl | rfl
  · rw [qy_i0]; exact qy_b0
  · rw [qy_i1]; exact qy_b1
  · rw [qy_i2]; exact qy_b2
variable {kh : Int32} {dn : Nat → Int32} {s f : Nat → qe_E} {H : List qh_H}
theorem qy_take (post : Int32 → SY → Prop) {a sl : Nat} (ha : a < 4) (hs : sl < 72) {e : qe_E} {k t v : Int32} (he : qe_er (sl < 64) e k t v) (hk : ¬ k = 0) {V : SY} (R : qy_R kh dn s f H V)
    (h1 : qe_nw e (s (a * 72 + sl)) → ∀ v', qy_R kh dn (qe_up s (a * 72 + sl) e) f H v' → post 1 v') (h0 : ¬ qe_nw e (s (a * 72 + sl)) → post 0 V) : wpY_take post V (nI a) (nI sl) k t v := by
  obtain ⟨hg, hd, yk, ys, yv, al, m1, m2, m3, m4, m5⟩ := V
  obtain ⟨r1, r2, rE, rA, rH⟩ := R
  have hi : a * 72 + sl < 288 := by omega
  have em : (a * 72 + sl) % 72 = sl := by omega
  have hx := rE.1 (a * 72 + sl) hi
  have he' : qe_er ((a * 72 + sl) % 72 < 64) e k t v := by rw [em]; exact he
  have N := qe_nwY hx he' hk
  have vi : vp_in (nI (a * 72 + sl)) 576 := vp_in_nI (by omega) (by omega)
  have ci : (nI (a * 72 + sl)).toNatClampNeg = a * 72 + sl := nI_clamp (by omega)
  have P1 : qe_nw e (s (a * 72 + sl)) → wY_take_113 post k t v (nI (a * 72 + sl)) 1 hg hd yk ys yv al m1 m2 m3 m4 m5 := by
    intro z
    unfold wY_take_113
    rw [ci]
    exact br_f qe_n10 ⟨vi, nm_r (congrArg (upd yk (a * 72 + sl)) (qy_nbc (qe_erk he))) ⟨vi, nm_e ⟨vi, nm_e (h1 z _ ⟨r1, r2, qy_up rE hi he', rA, rH⟩)⟩⟩⟩
  have P0 : ¬ qe_nw e (s (a * 72 + sl)) → wY_take_113 post k t v (nI (a * 72 + sl)) 0 hg hd yk ys yv al m1 m2 m3 m4 m5 := fun z => br_t rfl (h0 z)
  have T : ∀ z0, (yk (a * 72 + sl) = 0 → wY_take_113 post k t v (nI (a * 72 + sl)) z0 hg hd yk ys yv al m1 m2 m3 m4 m5) → (¬ yk (a * 72 + sl) = 0 → ¬ t = ys (a * 72 + sl) → wY_take_113 post k t v (nI (a * 72 + sl)) z0 hg hd yk ys yv al m1 m2 m3 m4 m5) → wY_take_35 post k t v (nI (a * 72 + sl)) z0 hg hd yk ys yv al m1 m2 m3 m4 m5 := by
    intro z0 g1 g2
    unfold wY_take_35
    rw [ci]
    refine ⟨vi, g1, fun z => ⟨vi, fun y => ⟨fun w => ⟨vi, fun x => P1 (N.mpr (Or.inr (Or.inr ⟨y, x, Or.inl w⟩))), fun x => P0 (fun q => ?_)⟩, fun w => ⟨vi, fun x => ⟨vi, fun q => P0 (fun q' => ?_), fun q => P1 (N.mpr (Or.inr (Or.inr ⟨y, x, Or.inr (Int32.not_le.mp q)⟩)))⟩, fun x => P0 (fun q => ?_)⟩⟩, g2 z⟩⟩
    · rcases N.mp q with c | c | c
      · exact z c
      · rw [y] at c; exact Int32.lt_irrefl c
      · exact x c.2.1
    · rcases N.mp q' with c | c | c
      · exact z c
      · rw [y] at c; exact Int32.lt_irrefl c
      · rcases c.2.2 with d | d
        · exact w d
        · exact Int32.not_le.mpr d q
    · rcases N.mp q with c | c | c
      · exact z c
      · rw [y] at c; exact Int32.lt_irrefl c
      · exact x c.2.1
  unfold wpY_take
  dsimp only
  refine nm_r (qa_ix a sl) ?_
  rw [ci]
  refine ⟨vi, fun z => T 1 (fun y => P1 (N.mpr (Or.inl y))) (fun y => absurd z y), fun z => ⟨vi, fun y => T 0 (fun x => absurd x z) (fun _ x => P0 (fun q => ?_)), fun y => T 1 (fun x => absurd x z) (fun _ _ => P1 (N.mpr (Or.inr (Or.inl (Int32.not_le.mp y)))))⟩⟩
  rcases N.mp q with c | c | c
  · exact z c
  · exact Int32.not_le.mpr c y
  · exact x c.1
theorem qy_takeJ (post : Int32 → SY → Prop) {a sl : Nat} (ha : a < 4) (hs : sl < 72) {e : qe_E} {k t v : Int32} (he : qe_er (sl < 64) e k t v) (hk : ¬ k = 0) {V : SY} (R : qy_R kh dn s f H V)
    (h : ∀ r v', qy_R kh dn (qe_tk s (a * 72 + sl) e) f H v' → post r v') : wpY_take post V (nI a) (nI sl) k t v := by
  refine qy_take post ha hs he hk R (fun z v' hv => ?_) (fun z => ?_)
  · refine h 1 v' ?_
    rw [qe_tk, qe_jt z]
    exact hv
  · refine h 0 V ?_
    rw [qe_tk, qe_jf z, qe_uself]
    exact R
theorem qy_rep (post : Int32 → Prop) {p r : Nat} (hp : p < 100) (hr : r < 100) {V : SY} (h : post (nI (qr_nd p r))) : wpY_replica post V (nI p) (nI r) := by
  obtain ⟨hg, hd, yk, ys, yv, al, m1, m2, m3, m4, m5⟩ := V
  unfold wpY_replica
  dsimp only
  rw [qa_rep hp hr]
  exact ⟨qa_n4, h⟩
theorem qy_ucL (post : Int32 → Prop) {p : Nat} (hp : p < 8) {hg hd : Int32} {yk ys yv al m1 m2 m3 m4 m5 : Nat → Int32} (A : qy_A dn al) (h : post (nI (qr_ct dn p 3))) : ∀ d r, r + d = 3 → wY_upCount_4 post (nI p) hg hd yk ys yv al m1 m2 m3 m4 m5 (d + 1) (nI (qr_ct dn p r)) (nI r) := by
  intro d
  induction d with
  | zero =>
    intro r hr
    obtain rfl : r = 3 := by omega
    exact br_t (Int32.le_refl _) h
  | succ d ih =>
    intro r hr
    have i := ih (r + 1) (by omega)
    have nr : qr_nd p r < 4 := by unfold qr_nd; omega
    refine br_f (nI_ge (b := 3) (by omega) (by decide)) (qy_rep _ (by omega) (by omega) ?_)
    have cl : (nI (qr_nd p r)).toNatClampNeg = qr_nd p r := nI_clamp (by omega)
    refine ⟨vp_in_nI nr (by omega), ?_⟩
    rw [cl]
    by_cases c : dn (qr_nd p r) = 0
    · have e : qr_ct dn p (r + 1) = qr_ct dn p r + 1 := if_pos c
      rw [e] at i
      exact br_f (qy_A0 A nr c) (nm_r (nI_1 _) (nm_r (nI_1 r) i))
    · have e : qr_ct dn p (r + 1) = qr_ct dn p r := if_neg c
      rw [e] at i
      exact br_t (qy_A1 A nr c) (nm_r (nI_1 r) i)
theorem qy_uc (post : Int32 → Prop) {p : Nat} (hp : p < 8) {V : SY} (R : qy_R kh dn s f H V) (h : post (nI (qr_ct dn p 3))) : wpY_upCount post V (nI p) := by
  obtain ⟨hg, hd, yk, ys, yv, al, m1, m2, m3, m4, m5⟩ := V
  exact ⟨4, qy_ucL post hp R.2.2.2.1 h 3 0 rfl⟩
end
end
section
/-! the reference: hints and sending -/
section
variable {kh : Int32} {dn : Nat → Int32} {s f : Nat → qe_E} {H : List qh_H}
theorem qy_dhL (post : SY → Prop) {c h : Nat} (hc : c ≤ 11) {hg : Int32} {yk ys yv al m1 m2 m3 m4 m5 : Nat → Int32} (g : post (hg, nI c, yk, ys, yv, al, qh_sg m1 h c, qh_sg m2 h c, qh_sg m3 h c, qh_sg m4 h c, qh_sg m5 h c)) :
    ∀ d k, k + d = c → h ≤ k → wY_dropHint_12 post hg (nI c) (d + 1) (nI k) yk ys yv al (qh_sg m1 h k) (qh_sg m2 h k) (qh_sg m3 h k) (qh_sg m4 h k) (qh_sg m5 h k) := by
  intro d
  induction d with
  | zero =>
    intro k hk hh
    obtain rfl : k = c := by omega
    exact br_t (Int32.le_refl _) g
  | succ d ih =>
    intro k hk hh
    have i := ih (k + 1) (by omega) (by omega)
    have v0 : vp_in (nI k) 12 := vp_in_nI (by omega) (by omega)
    have v1 : vp_in (nI (k + 1)) 12 := vp_in_nI (by omega) (by omega)
    have c0 : (nI k).toNatClampNeg = k := nI_clamp (by omega)
    have c1 : (nI (k + 1)).toNatClampNeg = k + 1 := nI_clamp (by omega)
    refine br_f (nI_ge (by omega) (by omega)) ?_
    rw [nI_1, c0, c1]
    refine ⟨v1, v0, nm_r (qh_sgs hh) ⟨v1, v0, nm_r (qh_sgs hh) ⟨v1, v0, nm_r (qh_sgs hh) ⟨v1, v0, nm_r (qh_sgs hh) ⟨v1, v0, nm_r (qh_sgs hh) ?_⟩⟩⟩⟩⟩
    exact nm_e i
theorem qy_dh (post : SY → Prop) {P R : List qh_H} {x : qh_H} (hl : (P ++ x :: R).length ≤ 12) {V : SY} (I : qy_R kh dn s f (P ++ x :: R) V) (g : ∀ v', qy_R kh dn s f (P ++ R) v' → post v') : wpY_dropHint post V (nI P.length) := by
  obtain ⟨hg, hd, yk, ys, yv, al, m1, m2, m3, m4, m5⟩ := V
  obtain ⟨r1, r2, rE, rA, rH⟩ := I
  have e1 : (P ++ x :: R).length = P.length + R.length + 1 := by rw [List.length_append, List.length_cons]; omega
  have e2 : (P ++ R).length = P.length + R.length := List.length_append
  rw [e1] at r2 hl
  unfold wpY_dropHint
  dsimp only
  refine nm_r (e' := nI (P.length + R.length)) (by rw [r2]; exact nI_pred _) ?_
  have hH := qh_del (h := P.length) (k := P.length + R.length) rfl rfl rH
  have k := qy_dhL (hg := hg) (yk := yk) (ys := ys) (yv := yv) (al := al) post (c := P.length + R.length) (h := P.length) (by omega) (g _ ⟨r1, by rw [e2], rE, rA, hH⟩) R.length P.length rfl (Nat.le_refl _)
  rw [qh_sg0, qh_sg0, qh_sg0, qh_sg0, qh_sg0] at k
  exact ⟨_, k⟩
theorem qy_h1 (post : SY → Prop) (hl : H.length ≤ 11) {a sl : Nat} {e : qe_E} {k t v : Int32} (he : qe_er (sl < 64) e k t v) {hg hd : Int32} {yk ys yv al m1 m2 m3 m4 m5 : Nat → Int32} (I : qy_R kh dn s f H (hg, hd, yk, ys, yv, al, m1, m2, m3, m4, m5))
    (g : ∀ v', qy_R kh dn s f (H ++ [(a, sl, e)]) v' → post v') : wY_hint_22 post (nI a) (nI sl) k t v hg hd yk ys yv al m1 m2 m3 m4 m5 := by
  obtain ⟨r1, r2, rE, rA, rH⟩ := I
  subst r2
  have va : vp_in (nI H.length) 12 := vp_in_nI (by omega) (by omega)
  have ca : (nI H.length).toNatClampNeg = H.length := nI_clamp (by omega)
  unfold wY_hint_22
  rw [ca]
  have q := qh_snoc (Φ := qh_fy) (x := (a, sl, e)) (a := nI a) (b := nI sl) (c := k) (d := t) (e := v) rfl ⟨rfl, rfl, he⟩ rH
  refine ⟨va, nm_e ⟨va, nm_e ⟨va, nm_e ⟨va, nm_e ⟨va, nm_e (nm_r (nI_1 H.length) (g _ ⟨r1, ?_, rE, rA, q⟩))⟩⟩⟩⟩⟩
  rw [List.length_append]
  rfl
theorem qy_hint (post : SY → Prop) (hl : H.length ≤ 12) {a sl : Nat} {e : qe_E} {k t v : Int32} (he : qe_er (sl < 64) e k t v) {V : SY} (I : qy_R kh dn s f H V)
    (g : ∀ v', qy_R kh dn s f (qh_add kh H (a, sl, e)) v' → post v') : wpY_hint post V (nI a) (nI sl) k t v := by
  obtain ⟨hg, hd, yk, ys, yv, al, m1, m2, m3, m4, m5⟩ := V
  have r1 : hg = kh := I.1
  have r2 : hd = nI H.length := I.2.1
  unfold wpY_hint
  dsimp only
  refine br_c (fun z => ?_) (fun z => ?_)
  · rw [r1] at z
    have ea : qh_add kh H (a, sl, e) = H := if_pos z
    rw [ea] at g
    exact g _ I
  · rw [r1] at z
    have ea : qh_add kh H (a, sl, e) = qh_cut H ++ [(a, sl, e)] := if_neg z
    rw [ea] at g
    refine pk_eq H.length 12 (fun c => ?_) (fun c => ?_) r2
    · have ec : qh_cut H = H.tail := if_pos (by omega)
      rw [ec] at g
      cases H with
      | nil => exact absurd c (by decide)
      | cons y R =>
        have lR : R.length = 11 := by rw [List.length_cons] at c; omega
        refine qy_dh (P := []) (x := y) (R := R) _ hl I (fun v' I' => ?_)
        obtain ⟨bg, bd, b1, b2, b3, b4, b5, b6, b7, b8, b9⟩ := v'
        exact qy_h1 post (by show R.length ≤ 11; omega) he I' g
    · have ec : qh_cut H = H := if_neg (by omega)
      rw [ec] at g
      exact qy_h1 post (by omega) he I g
theorem qy_sdL (post : Int32 → SY → Prop) {p sl : Nat} (hp : p < 8) (hs : sl < 72) {e : qe_E} {k t v : Int32} (he : qe_er (sl < 64) e k t v) (hk : ¬ k = 0) {S : (Nat → qe_E) × List qh_H} (hl : S.2.length ≤ 12)
    (g : ∀ v', qy_R kh dn (qs_al dn kh p sl e 3 S).1 f (qs_al dn kh p sl e 3 S).2 v' → post (nI (qr_ct dn p 3)) v') :
    ∀ d r, r + d = 3 → ∀ (hg hd : Int32) (yk ys yv al m1 m2 m3 m4 m5 : Nat → Int32), qy_R kh dn (qs_al dn kh p sl e r S).1 f (qs_al dn kh p sl e r S).2 (hg, hd, yk, ys, yv, al, m1, m2, m3, m4, m5) →
      wY_send_3 post (nI p) (nI sl) k t v (d + 1) (nI r) hg hd yk ys yv al m1 m2 m3 m4 m5 := by
  intro d
  induction d with
  | zero =>
    intro r hr hg hd yk ys yv al m1 m2 m3 m4 m5 I
    obtain rfl : r = 3 := by omega
    exact br_t (Int32.le_refl _) (qy_uc _ hp I (g _ I))
  | succ d ih =>
    intro r hr hg hd yk ys yv al m1 m2 m3 m4 m5 I
    have i := ih (r + 1) (by omega)
    have A : qy_A dn al := I.2.2.2.1
    have nr : qr_nd p r < 4 := by unfold qr_nd; omega
    have cl : (nI (qr_nd p r)).toNatClampNeg = qr_nd p r := nI_clamp (by omega)
    refine br_f (nI_ge (b := 3) (by omega) (by decide)) (qy_rep _ (by omega) (by omega) ?_)
    refine ⟨vp_in_nI nr (by omega), ?_⟩
    rw [cl]
    by_cases z : dn (qr_nd p r) = 0
    · have es : qs_al dn kh p sl e (r + 1) S = (qe_tk (qs_al dn kh p sl e r S).1 (qr_ix p sl r) e, (qs_al dn kh p sl e r S).2) := if_pos z
      rw [es] at i
      refine br_f (qy_A0 A nr z) (qy_takeJ _ nr hs he hk I (fun r' v' I' => ?_))
      obtain ⟨bg, bd, b1, b2, b3, b4, b5, b6, b7, b8, b9⟩ := v'
      exact nm_r (nI_1 r) (i _ _ _ _ _ _ _ _ _ _ _ I')
    · have es : qs_al dn kh p sl e (r + 1) S = ((qs_al dn kh p sl e r S).1, qh_add kh (qs_al dn kh p sl e r S).2 (qr_nd p r, sl, e)) := if_neg z
      rw [es] at i
      refine br_t (qy_A1 A nr z) (qy_hint _ (qs_len hl r) he I (fun v' I' => ?_))
      obtain ⟨bg, bd, b1, b2, b3, b4, b5, b6, b7, b8, b9⟩ := v'
      exact nm_r (nI_1 r) (i _ _ _ _ _ _ _ _ _ _ _ I')
theorem qy_sd (post : Int32 → SY → Prop) {p sl : Nat} (hp : p < 8) (hs : sl < 72) {e : qe_E} {k t v : Int32} (he : qe_er (sl < 64) e k t v) (hk : ¬ k = 0) (hl : H.length ≤ 12) {V : SY} (I : qy_R kh dn s f H V)
    (g : ∀ v', qy_R kh dn (qs_al dn kh p sl e 3 (s, H)).1 f (qs_al dn kh p sl e 3 (s, H)).2 v' → post (nI (qr_ct dn p 3)) v') : wpY_send post V (nI p) (nI sl) k t v := by
  obtain ⟨hg, hd, yk, ys, yv, al, m1, m2, m3, m4, m5⟩ := V
  exact ⟨4, qy_sdL post hp hs he hk (S := (s, H)) hl g 3 0 rfl hg hd yk ys yv al m1 m2 m3 m4 m5 I⟩
theorem qy_dlL (post : Int32 → SY → Prop) {n : Nat} (h4 : n < 4) : ∀ (R P : List qh_H) (c : Nat) (s : Nat → qe_E) (hg hd : Int32) (yk ys yv al m1 m2 m3 m4 m5 : Nat → Int32), c + R.length ≤ 12 → P.length + R.length ≤ 12 → qh_G R → qy_R kh dn s f (P ++ R) (hg, hd, yk, ys, yv, al, m1, m2, m3, m4, m5) →
    (∀ v', qy_R kh dn (qh_dl n R s) f (P ++ qh_kp n R) v' → post (nI (c + (R.length - (qh_kp n R).length)) + 1) v') →
    wY_up_33 post (nI n) (R.length + 1) (nI c) (nI P.length) hg hd yk ys yv al m1 m2 m3 m4 m5 := by
  intro R
  induction R with
  | nil =>
    intro P c s hg hd yk ys yv al m1 m2 m3 m4 m5 hc hP hG I g
    have r2 : hd = nI (P ++ []).length := I.2.1
    rw [List.append_nil] at r2 I
    rw [show P ++ qh_kp n [] = P from List.append_nil P] at g
    refine br_t (by rw [r2]; exact Int32.le_refl _) (g _ I)
  | cons x R ih =>
    intro P c s hg hd yk ys yv al m1 m2 m3 m4 m5 hc hP hG I g
    rw [List.length_cons] at hc hP
    have hx := hG x List.mem_cons_self
    have hGR : qh_G R := fun y hy => hG y (List.mem_cons_of_mem x hy)
    have el : (P ++ x :: R).length = P.length + (R.length + 1) := by rw [List.length_append, List.length_cons]
    have r2 : hd = nI (P.length + (R.length + 1)) := by rw [← el]; exact I.2.1
    have hat := ((qh_app P (x :: R) 0).mp I.2.2.2.2).2
    rw [Nat.zero_add] at hat
    obtain ⟨⟨e1, e2, e3⟩, _⟩ := hat
    have vi : vp_in (nI P.length) 12 := vp_in_nI (by omega) (by omega)
    have ci : (nI P.length).toNatClampNeg = P.length := nI_clamp (by omega)
    refine br_f (by rw [r2]; exact nI_ge (by omega) (by omega)) ⟨vi, ?_⟩
    rw [ci, e1]
    refine pk_eq x.1 n (fun z => ?_) (fun z => ?_)
    · have ek : qh_kp n (x :: R) = qh_kp n R := if_pos z
      have ed : qh_dl n (x :: R) s = qh_dl n R (qe_tk s (n * 72 + x.2.1) x.2.2) := if_pos z
      rw [ek, ed] at g
      rw [e2]
      have hk0 : ¬ m3 P.length = 0 := fun y => hx.2.2 ((qe_er0 e3).mp y)
      refine ⟨vi, vi, vi, vi, qy_takeJ _ h4 hx.2.1 e3 hk0 I (fun r' v' I' => ?_)⟩
      obtain ⟨bg, bd, b1, b2, b3, b4, b5, b6, b7, b8, b9⟩ := v'
      refine qy_dh _ (by rw [el]; omega) I' (fun v' I' => ?_)
      obtain ⟨dg, dd, d1, d2, d3, d4, d5, d6, d7, d8, d9⟩ := v'
      refine nm_r (nI_1 c) (ih P (c + 1) _ dg dd d1 d2 d3 d4 d5 d6 d7 d8 d9 (by omega) (by omega) hGR I' ?_)
      have := qh_kpl n R
      rw [List.length_cons] at g
      have en : c + (R.length + 1 - (qh_kp n R).length) = c + 1 + (R.length - (qh_kp n R).length) := by omega
      rw [en] at g
      exact g
    · have ek : qh_kp n (x :: R) = x :: qh_kp n R := if_neg z
      have ed : qh_dl n (x :: R) s = qh_dl n R s := if_neg z
      rw [ek, ed] at g
      have ea : P ++ x :: qh_kp n R = (P ++ [x]) ++ qh_kp n R := by rw [List.append_assoc]; rfl
      have eb : P ++ x :: R = (P ++ [x]) ++ R := by rw [List.append_assoc]; rfl
      rw [ea, List.length_cons, List.length_cons, Nat.add_sub_add_right] at g
      rw [eb] at I
      have lp : (P ++ [x]).length = P.length + 1 := by rw [List.length_append]; rfl
      have k := ih (P ++ [x]) c s hg hd yk ys yv al m1 m2 m3 m4 m5 (by omega) (by rw [lp]; omega) hGR I g
      rw [lp] at k
      exact nm_r (nI_1 P.length) k
end
end
section
/-! the reference: reads -/
section
/-- the place of the best entry so far: -1, if it is nothing -/
def qy_B (sl : Nat) (t : Nat → qe_E) (B : qe_E) (best : Int32) : Prop :=
  (best = -1 ∧ B = qe_z) ∨ (∃ ib, ib < 288 ∧ ib % 72 = sl ∧ best = nI ib ∧ t ib = B ∧ ¬ B.1 = 0)
theorem qy_m1 : (-1 : Int32) < 0 := by decide
variable {kh : Int32} {dn : Nat → Int32} {s f : Nat → qe_E} {H : List qh_H}
theorem qy_ex (post : Int32 → SY → Prop) {n sl : Nat} (h4 : n < 4) (hs : sl < 72) {V : SY} (I : qy_R kh dn s f H V) {B : qe_E} {best : Int32} (hB : qy_B sl s B best)
    (g : ∀ v' best', qy_R kh dn (qe_up s (n * 72 + sl) (qe_jn (s (n * 72 + sl)) B)) f H v' → qy_B sl (qe_up s (n * 72 + sl) (qe_jn (s (n * 72 + sl)) B)) (qe_jn (s (n * 72 + sl)) B) best' → post best' v') :
    wpY_exchange post V (nI n) (nI sl) best := by
  have hi : n * 72 + sl < 288 := by omega
  have em : (n * 72 + sl) % 72 = sl := by omega
  have vi : vp_in (nI (n * 72 + sl)) 576 := vp_in_nI (by omega) (by omega)
  have ci : (nI (n * 72 + sl)).toNatClampNeg = n * 72 + sl := nI_clamp (by omega)
  rcases hB with ⟨rfl, rfl⟩ | ⟨ib, hb, eb, rfl, eB, nB⟩
  · obtain ⟨hg, hd, yk, ys, yv, al, m1, m2, m3, m4, m5⟩ := V
    have rE : qy_E s f yk ys yv := I.2.2.1
    have hx := rE.1 (n * 72 + sl) hi
    rw [qe_jf (qe_nz _), qe_uself] at g
    unfold wpY_exchange
    dsimp only
    refine nm_r (qa_ix n sl) (br_t qy_m1 ?_)
    unfold wY_exchange_46
    rw [ci]
    refine ⟨vi, fun z => ?_, fun z => ?_⟩
    · exact g _ _ I (Or.inl ⟨rfl, qe_gz (qe_erg hx) ((qe_er0 hx).mp z)⟩)
    · exact g _ _ I (Or.inr ⟨_, hi, em, rfl, rfl, fun y => z ((qe_er0 hx).mpr y)⟩)
  · obtain ⟨hg, hd, yk, ys, yv, al, m1, m2, m3, m4, m5⟩ := V
    have rE : qy_E s f yk ys yv := I.2.2.1
    have hx := rE.1 ib hb
    rw [eB, eb] at hx
    have vb : vp_in (nI ib) 576 := vp_in_nI (by omega) (by omega)
    have cb : (nI ib).toNatClampNeg = ib := nI_clamp (by omega)
    have kb : ¬ yk ib = 0 := fun z => nB ((qe_er0 hx).mp z)
    unfold wpY_exchange
    dsimp only
    refine nm_r (qa_ix n sl) (br_f (nI_pos (by omega)) ?_)
    rw [cb]
    refine ⟨vb, br_f kb ⟨vb, vb, vb, qy_take _ h4 hs hx kb I (fun z v' I' => ?_) (fun z => ?_)⟩⟩
    · rw [qe_jt z] at g
      obtain ⟨bg, bd, b1, b2, b3, b4, b5, b6, b7, b8, b9⟩ := v'
      have bE : qy_E (qe_up s (n * 72 + sl) B) f b1 b2 b3 := I'.2.2.1
      have bx := bE.1 (n * 72 + sl) hi
      rw [qe_us] at bx
      show wY_exchange_46 post (nI ib) (nI (n * 72 + sl)) bg bd b1 b2 b3 b4 b5 b6 b7 b8 b9
      unfold wY_exchange_46
      rw [ci]
      exact ⟨vi, br_f (fun y => nB ((qe_er0 bx).mp y)) (g _ _ I' (Or.inr ⟨_, hi, em, rfl, qe_us, nB⟩))⟩
    · rw [qe_jf z, qe_uself] at g
      have nz : ¬ (s (n * 72 + sl)).1 = 0 := fun y => z ⟨nB, Or.inl y⟩
      have hy := rE.1 (n * 72 + sl) hi
      show wY_exchange_46 post (nI ib) (nI (n * 72 + sl)) hg hd yk ys yv al m1 m2 m3 m4 m5
      unfold wY_exchange_46
      rw [ci]
      exact ⟨vi, br_f (fun y => nz ((qe_er0 hy).mp y)) (g _ _ I (Or.inr ⟨_, hi, em, rfl, rfl, nz⟩))⟩
theorem qy_agL (post : Int32 → SY → Prop) (J : Int32 → Int32 → Int32 → Int32 → (Nat → Int32) → (Nat → Int32) → (Nat → Int32) → (Nat → Int32) → (Nat → Int32) → (Nat → Int32) → (Nat → Int32) → (Nat → Int32) → (Nat → Int32) → Prop)
    {p sl L q : Nat} (hp : p < 8) (hs : sl < 72) (hL : L < 4) (S : (Nat → qe_E) × qe_E)
    (g : ∀ (best hg hd : Int32) (yk ys yv al m1 m2 m3 m4 m5 : Nat → Int32), qy_R kh dn (qr_as dn p L sl S 3).1 f H (hg, hd, yk, ys, yv, al, m1, m2, m3, m4, m5) → qy_B sl (qr_as dn p L sl S 3).1 (qr_as dn p L sl S 3).2 best → J best (nI (q + 1)) hg hd yk ys yv al m1 m2 m3 m4 m5) :
    ∀ d r, r + d = 3 → ∀ (best hg hd : Int32) (yk ys yv al m1 m2 m3 m4 m5 : Nat → Int32), qy_R kh dn (qr_as dn p L sl S r).1 f H (hg, hd, yk, ys, yv, al, m1, m2, m3, m4, m5) → qy_B sl (qr_as dn p L sl S r).1 (qr_as dn p L sl S r).2 best →
      wY_agree_18 post J (nI p) (nI sl) (nI L) (nI q) (d + 1) best (nI (qr_ac dn p L r)) (nI r) hg hd yk ys yv al m1 m2 m3 m4 m5 := by
  intro d
  induction d with
  | zero =>
    intro r hr best hg hd yk ys yv al m1 m2 m3 m4 m5 I hB
    obtain rfl : r = 3 := by omega
    exact br_t (Int32.le_refl _) (nm_r (nI_1 q) (g _ _ _ _ _ _ _ _ _ _ _ _ I hB))
  | succ d ih =>
    intro r hr best hg hd yk ys yv al m1 m2 m3 m4 m5 I hB
    have i := ih (r + 1) (by omega)
    have A : qy_A dn al := I.2.2.2.1
    have ha := qr_acle dn p L r
    have nr : qr_nd p r < 4 := by unfold qr_nd; omega
    have cl : (nI (qr_nd p r)).toNatClampNeg = qr_nd p r := nI_clamp (by omega)
    refine br_f (nI_ge (b := 3) (by omega) (by decide)) (qy_rep _ (by omega) (by omega) ?_)
    refine ⟨vp_in_nI nr (by omega), ?_⟩
    rw [cl]
    by_cases z : dn (qr_nd p r) = 0
    · refine br_f (qy_A0 A nr z) (pk_le L (qr_ac dn p L r) (fun c => ?_) (fun c => ?_))
      · have nA : ¬ qr_A dn p L r := fun y => by have := y.2; omega
        have e : qr_ac dn p L (r + 1) = qr_ac dn p L r := if_neg nA
        rw [e, qr_asf nA] at i
        exact nm_r (nI_1 r) (i _ _ _ _ _ _ _ _ _ _ _ _ I hB)
      · have yA : qr_A dn p L r := ⟨z, c⟩
        have e : qr_ac dn p L (r + 1) = qr_ac dn p L r + 1 := if_pos yA
        rw [e, qr_ast yA] at i
        refine nm_r (nI_1 _) (qy_ex _ nr hs I hB (fun v' best' I' hB' => ?_))
        obtain ⟨bg, bd, b1, b2, b3, b4, b5, b6, b7, b8, b9⟩ := v'
        exact nm_r (nI_1 r) (i _ _ _ _ _ _ _ _ _ _ _ _ I' hB')
    · have nA : ¬ qr_A dn p L r := fun y => z y.1
      have e : qr_ac dn p L (r + 1) = qr_ac dn p L r := if_neg nA
      rw [e, qr_asf nA] at i
      exact br_t (qy_A1 A nr z) (nm_r (nI_1 r) (i _ _ _ _ _ _ _ _ _ _ _ _ I hB))
theorem qy_ag (post : Int32 → SY → Prop) {p sl L : Nat} (hp : p < 8) (hs : sl < 72) (hL : L < 4) {V : SY} (I : qy_R kh dn s f H V)
    (g : ∀ v' best, qy_R kh dn (qr_one dn p L sl s) f H v' → qy_B sl (qr_one dn p L sl s) (qr_M dn p L sl s) best → post best v') : wpY_agree post V (nI p) (nI sl) (nI L) := by
  have G := (qy_G I).1
  have two := qr_two (dn := dn) (p := p) (L := L) G hs
  obtain ⟨hg, hd, yk, ys, yv, al, m1, m2, m3, m4, m5⟩ := V
  unfold wpY_agree
  refine ⟨3, br_f (by decide) ⟨4, ?_⟩⟩
  refine qy_agL post _ (q := 0) hp hs hL (s, qe_z) (fun best hg hd yk ys yv al m1 m2 m3 m4 m5 I hB => ?_) 3 0 rfl _ _ _ _ _ _ _ _ _ _ _ _ I (Or.inl ⟨rfl, rfl⟩)
  refine br_f (by decide) ⟨4, ?_⟩
  refine qy_agL post _ (q := 1) hp hs hL (qr_as dn p L sl (s, qe_z) 3) (fun best hg hd yk ys yv al m1 m2 m3 m4 m5 I hB => ?_) 3 0 rfl _ _ _ _ _ _ _ _ _ _ _ _ I hB
  rw [two] at I hB
  exact br_t (Int32.le_refl _) (g _ _ I hB)
theorem qa_lv (x : Int32) : x < 1 ∨ 3 < x ∨ ∃ L : Nat, 1 ≤ L ∧ L ≤ 3 ∧ x = nI L := by
  by_cases h : x < 1
  · exact Or.inl h
  · by_cases k : 3 < x
    · exact Or.inr (Or.inl k)
    · have h0 : ¬ x < 0 := fun z => h (Int32.lt_trans z (by decide))
      obtain ⟨j, hj, rfl⟩ := nI_of h0
      have a : ¬ j < 1 := fun z => h (nI_lt (b := 1) z (by decide))
      have b : ¬ 3 < j := fun z => k (nI_lt (a := 3) z hj)
      exact Or.inr (Or.inr ⟨j, by omega, by omega, rfl⟩)
theorem qa_L1 {L : Nat} (h : 1 ≤ L) (k : L ≤ 3) : ¬ nI L < 1 := nI_nlt (b := 1) h (by omega)
theorem qa_L3 {L : Nat} (k : L ≤ 3) : ¬ 3 < nI L := nI_nlt (a := 3) k (by decide)
theorem qa_L3' {L : Nat} (k : L ≤ 3) : nI L ≤ 3 := nI_le (b := 3) k (by decide)
theorem qy_am1 (post : Int32 → Prop) {V : SY} {j N : Nat} (h : j < N) (hN : N < 1000) (g : post 1) : wpY_among post V (nI j) (nI N) := by
  obtain ⟨hg, hd, yk, ys, yv, al, m1, m2, m3, m4, m5⟩ := V
  exact br_f (nI_pos (by omega)) (br_f (nI_ge h (by omega)) g)
theorem qy_am0 (post : Int32 → Prop) {V : SY} {x N : Int32} (h : x < 0 ∨ N ≤ x) (g : post 0) : wpY_among post V x N := by
  obtain ⟨hg, hd, yk, ys, yv, al, m1, m2, m3, m4, m5⟩ := V
  refine br_c (fun _ => g) (fun z => ?_)
  rcases h with c | c
  · exact absurd c z
  · exact br_t c g
theorem qy_rd (post : Int64 → SY → Prop) {pl L : Nat} (hpl : pl < 64) (h1 : 1 ≤ L) (h3 : L ≤ 3) {V : SY} (I : qy_R kh dn s f H V)
    (g1 : L ≤ qr_ct dn (pl / 8) 3 → ∀ v', qy_R kh dn (qr_rd dn L pl s) f H v' → post (qr_av dn L pl s) v') (g0 : qr_ct dn (pl / 8) 3 < L → post (-1000000000000) V) : wpY_read post V (nI pl) (nI L) := by
  have hc := qr_ctle dn (pl / 8) 3
  obtain ⟨hg, hd, yk, ys, yv, al, m1, m2, m3, m4, m5⟩ := V
  unfold wpY_read
  dsimp only
  refine qy_am1 (N := 64) _ hpl (by decide) (br_f qe_n10 (br_f (qa_L1 h1 h3) (br_f (qa_L3 h3) ⟨qa_n8, ?_⟩)))
  rw [qa_8 (by omega)]
  refine qy_uc _ (by omega) I (pk_le L _ (fun c => ⟨qa_n8, ?_⟩) (fun c => g0 c))
  refine qy_ag _ (by omega) (by omega) (by omega) I (fun v1 b1 I1 B1 => ?_)
  obtain ⟨bg, bd, b1', b2, b3, b4, b5, b6, b7, b8, b9⟩ := v1
  refine ⟨qa_n8, qa_n8, ?_⟩
  rw [qa_64]
  refine qy_ag _ (by omega) (by omega) (by omega) I1 (fun v2 b2 I2 B2 => ?_)
  have g := g1 c v2 I2
  unfold qr_av at g
  obtain ⟨dg, dd, d1, d2, d3, d4, d5, d6, d7, d8, d9⟩ := v2
  dsimp only
  have dE : qy_E (qr_one dn (pl / 8) L (64 + pl / 8) (qr_one dn (pl / 8) L pl s)) f d1 d2 d3 := I2.2.2.1
  generalize hMw : qr_M dn (pl / 8) L (64 + pl / 8) (qr_one dn (pl / 8) L pl s) = Mw at B2 g
  rcases B1 with ⟨rfl, eM⟩ | ⟨ib, hb, eb, rfl, eB, nB⟩
  · rw [eM, qr_lvf (fun z => qe_n01 z.1)] at g
    exact br_t qy_m1 g
  · have vb : vp_in (nI ib) 576 := vp_in_nI (by omega) (by omega)
    have cb : (nI ib).toNatClampNeg = ib := nI_clamp (by omega)
    have hx := dE.1 ib hb
    rw [qr_oneo (by omega) (by omega), eB, eb] at hx
    generalize qr_M dn (pl / 8) L pl s = Me at hx g nB
    refine br_f (nI_pos (by omega)) ?_
    rw [cb]
    refine ⟨vb, fun z => ?_, fun z => ?_⟩
    · have m1 : Me.1 = 1 := (qe_er1 hx).mp z
      have mv := qe_erst hx (by rw [z]; exact qe_n10)
      rcases B2 with ⟨rfl, eW⟩ | ⟨iw, hw, ew, rfl, eW, nW⟩
      · rw [qr_lvt m1 (by rw [eW]; exact fun y => absurd y.1 (by decide)), ← mv.2] at g
        exact br_t qy_m1 ⟨vb, g⟩
      · have vw : vp_in (nI iw) 576 := vp_in_nI (by omega) (by omega)
        have cw : (nI iw).toNatClampNeg = iw := nI_clamp (by omega)
        have hy := dE.1 iw hw
        rw [eW, ew] at hy
        have w3 : Mw.1 = 3 := by
          rcases qe_erg hy with q | q | q | q
          · rw [q] at nW; exact absurd rfl nW
          · omega
          · omega
          · exact q.2.1
        have wv := qe_erst hy (fun q => nW ((qe_er0 hy).mp q))
        refine br_f (nI_pos (by omega)) ?_
        rw [cw, wv.1, mv.1]
        refine ⟨vw, vb, fun q => ⟨vb, ?_⟩, fun q => ?_⟩
        · rw [qr_lvt m1 (fun y => absurd q (Int32.not_lt.mpr y.2)), ← mv.2] at g
          exact g
        · rw [qr_lvf (fun y => y.2 ⟨w3, Int32.not_lt.mp q⟩)] at g
          exact g
    · rw [qr_lvf (fun y => z ((qe_er1 hx).mpr y.1))] at g
      exact g
theorem qy_smL (post : Int64 → SY → Prop) {p L : Nat} (hp : p < 8) (h1 : 1 ≤ L) (h3 : L ≤ 3) (hL : L ≤ qr_ct dn p 3) (g : ∀ v', qy_R kh dn (qr_sm dn L p s 8).1 f H v' → post (qr_sm dn L p s 8).2 v') :
    ∀ d c, c + d = 8 → ∀ (hg hd : Int32) (yk ys yv al m1 m2 m3 m4 m5 : Nat → Int32), qy_R kh dn (qr_sm dn L p s c).1 f H (hg, hd, yk, ys, yv, al, m1, m2, m3, m4, m5) → wY_sum_38 post (nI p) (nI L) (d + 1) (qr_sm dn L p s c).2 (nI c) hg hd yk ys yv al m1 m2 m3 m4 m5 := by
  intro d
  induction d with
  | zero =>
    intro c hc hg hd yk ys yv al m1 m2 m3 m4 m5 I
    obtain rfl : c = 8 := by omega
    exact br_t (Int32.le_refl _) (g _ I)
  | succ d ih =>
    intro c hc hg hd yk ys yv al m1 m2 m3 m4 m5 I
    have i := ih (c + 1) (by omega)
    refine br_f (nI_ge (b := 8) (by omega) (by decide)) ?_
    rw [show nI p * 8 + nI c = nI (p * 8 + c) by rw [show (8 : Int32) = nI 8 from rfl, pk_mul, nI_add]]
    have ep : (p * 8 + c) / 8 = p := by omega
    refine qy_rd _ (by omega) h1 h3 I (fun _ v' I' => ?_) (fun z => absurd z (by rw [ep]; omega))
    obtain ⟨dg, dd, d1, d2, d3, d4, d5, d6, d7, d8, d9⟩ := v'
    have k := i _ _ _ _ _ _ _ _ _ _ _ I'
    refine br_c (fun z => ?_) (fun z => ?_)
    · have e : (qr_sm dn L p s (c + 1)).2 = (qr_sm dn L p s c).2 := if_pos z
      rw [e] at k
      exact nm_r (nI_1 c) k
    · have e : (qr_sm dn L p s (c + 1)).2 = (qr_sm dn L p s c).2 + qr_av dn L (p * 8 + c) (qr_sm dn L p s c).1 := if_neg z
      rw [e] at k
      exact nm_e (nm_r (nI_1 c) k)
end
end
section
/-! the reference: loops over a node's slots -/
section
variable {kh : Int32} {dn : Nat → Int32} {s f : Nat → qe_E} {H : List qh_H}
theorem qy_cnL (post : Int32 → Prop) {n : Nat} (h4 : n < 4) {hg hd : Int32} {yk ys yv al m1 m2 m3 m4 m5 : Nat → Int32} (E : qy_E s f yk ys yv) (h : post (nI (qk_cn s n 64))) : ∀ d k, k + d = 64 → wY_entries_4 post (nI n) hg hd yk ys yv al m1 m2 m3 m4 m5 (d + 1) (nI (qk_cn s n k)) (nI k) := by
  intro d
  induction d with
  | zero =>
    intro k hk
    obtain rfl : k = 64 := by omega
    exact br_t (Int32.le_refl _) h
  | succ d ih =>
    intro k hk
    have i := ih (k + 1) (by omega)
    have vi : vp_in (nI (n * 72 + k)) 576 := vp_in_nI (by omega) (by omega)
    have ci : (nI (n * 72 + k)).toNatClampNeg = n * 72 + k := nI_clamp (by omega)
    have e0 := qe_er0 (E.1 (n * 72 + k) (by omega))
    refine br_f (nI_ge (b := 64) (by omega) (by decide)) ?_
    rw [qa_ix, ci]
    refine ⟨vi, br_c (fun z => ?_) (fun z => ?_)⟩
    · have e : qk_cn s n (k + 1) = qk_cn s n k := if_pos (e0.mp z)
      rw [e] at i
      exact nm_r (nI_1 k) i
    · have e : qk_cn s n (k + 1) = qk_cn s n k + 1 := if_neg (fun y => z (e0.mpr y))
      rw [e] at i
      exact nm_r (nI_1 _) (nm_r (nI_1 k) i)
theorem qy_cn (post : Int32 → Prop) {n : Nat} (h4 : n < 4) {V : SY} (I : qy_R kh dn s f H V) (h : post (nI (qk_cn s n 64))) : wpY_entries post V (nI n) := by
  obtain ⟨hg, hd, yk, ys, yv, al, m1, m2, m3, m4, m5⟩ := V
  exact ⟨65, qy_cnL post h4 I.2.2.1 h 64 0 rfl⟩
theorem qa_4n (n k : Nat) : nI (4 + n) * 72 + nI k = nI (288 + (n * 72 + k)) := by
  rw [qa_ix]; exact congrArg nI (by omega)
theorem qy_crL (post : SY → Prop) {n : Nat} (h4 : n < 4) {hg hd : Int32} {al m1 m2 m3 m4 m5 : Nat → Int32} (h : ∀ yk ys yv, qy_E (qk_cp n f s) f yk ys yv → post (hg, hd, yk, ys, yv, al, m1, m2, m3, m4, m5)) :
    ∀ d k, k + d = 72 → ∀ yk ys yv, qy_E (qk_mix (n * 72) (n * 72 + k) f s) f yk ys yv → wY_copy_2 post (nI (4 + n)) (nI n) hg hd (d + 1) (nI k) yk ys yv al m1 m2 m3 m4 m5 := by
  intro d
  induction d with
  | zero =>
    intro k hk yk ys yv E
    obtain rfl : k = 72 := by omega
    exact br_t (Int32.le_refl _) (h _ _ _ E)
  | succ d ih =>
    intro k hk yk ys yv E
    have va : vp_in (nI (288 + (n * 72 + k))) 576 := vp_in_nI (by omega) (by omega)
    have ca : (nI (288 + (n * 72 + k))).toNatClampNeg = 288 + (n * 72 + k) := nI_clamp (by omega)
    have vb : vp_in (nI (n * 72 + k)) 576 := vp_in_nI (by omega) (by omega)
    have cb : (nI (n * 72 + k)).toNatClampNeg = n * 72 + k := nI_clamp (by omega)
    have he := E.2 (n * 72 + k) (by omega)
    have U := qy_up E (i := n * 72 + k) (by omega) he
    rw [qk_s (by omega) rfl] at U
    refine br_f (nI_ge (b := 72) (by omega) (by decide)) ?_
    rw [qa_4n, qa_ix, ca, cb]
    exact ⟨va, vb, nm_r (congrArg (upd yk (n * 72 + k)) (qy_nb (qe_erk he))) ⟨va, vb, nm_e ⟨va, vb, nm_e (nm_r (nI_1 k) (ih (k + 1) (by omega) _ _ _ U))⟩⟩⟩
theorem qy_cr (post : SY → Prop) {n : Nat} (h4 : n < 4) {V : SY} (I : qy_R kh dn s f H V) (g : ∀ v', qy_R kh dn (qk_cp n f s) f H v' → post v') : wpY_copy post V (4 + nI n) (nI n) := by
  obtain ⟨hg, hd, yk, ys, yv, al, m1, m2, m3, m4, m5⟩ := V
  obtain ⟨r1, r2, rE, rA, rH⟩ := I
  have k := qy_crL (hg := hg) (hd := hd) (al := al) (m1 := m1) (m2 := m2) (m3 := m3) (m4 := m4) (m5 := m5) post h4 (fun yk ys yv E => g _ ⟨r1, r2, E, rA, rH⟩) 72 0 rfl yk ys yv (by rw [qk_00]; exact rE)
  unfold wpY_copy
  dsimp only
  rw [show (4 : Int32) + nI n = nI (4 + n) from nI_add 4 n]
  exact ⟨73, k⟩
theorem qy_flL (post : SY → Prop) {n : Nat} (h4 : n < 4) {hg hd : Int32} {al m1 m2 m3 m4 m5 : Nat → Int32} (h : ∀ yk ys yv, qy_E s (qk_cp n s f) yk ys yv → post (hg, hd, yk, ys, yv, al, m1, m2, m3, m4, m5)) :
    ∀ d k, k + d = 72 → ∀ yk ys yv, qy_E s (qk_mix (n * 72) (n * 72 + k) s f) yk ys yv → wY_copy_2 post (nI n) (nI (4 + n)) hg hd (d + 1) (nI k) yk ys yv al m1 m2 m3 m4 m5 := by
  intro d
  induction d with
  | zero =>
    intro k hk yk ys yv E
    obtain rfl : k = 72 := by omega
    exact br_t (Int32.le_refl _) (h _ _ _ E)
  | succ d ih =>
    intro k hk yk ys yv E
    have va : vp_in (nI (288 + (n * 72 + k))) 576 := vp_in_nI (by omega) (by omega)
    have ca : (nI (288 + (n * 72 + k))).toNatClampNeg = 288 + (n * 72 + k) := nI_clamp (by omega)
    have vb : vp_in (nI (n * 72 + k)) 576 := vp_in_nI (by omega) (by omega)
    have cb : (nI (n * 72 + k)).toNatClampNeg = n * 72 + k := nI_clamp (by omega)
    have he := E.1 (n * 72 + k) (by omega)
    have U := qy_upf E (i := n * 72 + k) (by omega) he
    rw [qk_s (by omega) rfl] at U
    refine br_f (nI_ge (b := 72) (by omega) (by decide)) ?_
    rw [qa_4n, qa_ix, ca, cb]
    exact ⟨vb, va, nm_r (congrArg (upd yk (288 + (n * 72 + k))) (qy_nb (qe_erk he))) ⟨vb, va, nm_e ⟨vb, va, nm_e (nm_r (nI_1 k) (ih (k + 1) (by omega) _ _ _ U))⟩⟩⟩
theorem qy_fl (post : SY → Prop) {n : Nat} (h4 : n < 4) {V : SY} (I : qy_R kh dn s f H V) (g : ∀ v', qy_R kh dn s (qk_cp n s f) H v' → post v') : wpY_copy post V (nI n) (4 + nI n) := by
  obtain ⟨hg, hd, yk, ys, yv, al, m1, m2, m3, m4, m5⟩ := V
  obtain ⟨r1, r2, rE, rA, rH⟩ := I
  have k := qy_flL (hg := hg) (hd := hd) (al := al) (m1 := m1) (m2 := m2) (m3 := m3) (m4 := m4) (m5 := m5) post h4 (fun yk ys yv E => g _ ⟨r1, r2, E, rA, rH⟩) 72 0 rfl yk ys yv (by rw [qk_00]; exact rE)
  unfold wpY_copy
  dsimp only
  rw [show (4 : Int32) + nI n = nI (4 + n) from nI_add 4 n]
  exact ⟨73, k⟩
/-- flush of a node that is up -/
theorem qy_flush (post : Int32 → SY → Prop) {n : Nat} (h4 : n < 4) (hu : dn n = 0) {V : SY} (I : qy_R kh dn s f H V) (g : ∀ v', qy_R kh dn s (qk_cp n s f) H v' → post (nI (qk_cn s n 64)) v') : wpY_flush post V (nI n) := by
  obtain ⟨hg, hd, yk, ys, yv, al, m1, m2, m3, m4, m5⟩ := V
  have A : qy_A dn al := I.2.2.2.1
  have cn : (nI n).toNatClampNeg = n := nI_clamp (by omega)
  unfold wpY_flush
  dsimp only
  refine qy_am1 (N := 4) _ h4 (by decide) (br_f qe_n10 ⟨vp_in_nI h4 (by omega), ?_⟩)
  rw [cn]
  refine br_f (qy_A0 A h4 hu) (qy_fl _ h4 I (fun v' I' => ?_))
  have k := g v' I'
  obtain ⟨bg, bd, b1, b2, b3, b4, b5, b6, b7, b8, b9⟩ := v'
  exact qy_cn _ h4 I' k
/-- compaction, the wipes -/
theorem qy_cwL (post : Int32 → SY → Prop) {n : Nat} {b : Int32} (h4 : n < 4) {hg hd : Int32} {al m1 m2 m3 m4 m5 : Nat → Int32} (h : ∀ yk ys yv, qy_E (qk_mix (n * 72 + 64) (n * 72 + 72) (qk_fw b s) s) f yk ys yv → wpY_flush (fun r u => post r u) (hg, hd, yk, ys, yv, al, m1, m2, m3, m4, m5) (nI n)) :
    ∀ d k, 64 ≤ k → k + d = 72 → ∀ yk ys yv, qy_E (qk_mix (n * 72 + 64) (n * 72 + k) (qk_fw b s) s) f yk ys yv → wY_compact_132 post (nI n) b hg hd (d + 1) (nI (n * 72 + k)) yk ys yv al m1 m2 m3 m4 m5 := by
  intro d
  induction d with
  | zero =>
    intro k h64 hk yk ys yv E
    obtain rfl : k = 72 := by omega
    refine br_t ?_ (h _ _ _ E)
    rw [show (72 : Int32) = nI 72 from rfl, pk_mul, nI_add]
    exact Int32.le_refl _
  | succ d ih =>
    intro k h64 hk yk ys yv E
    have i := ih (k + 1) (by omega) (by omega)
    have vb : vp_in (nI (n * 72 + k)) 576 := vp_in_nI (by omega) (by omega)
    have cb : (nI (n * 72 + k)).toNatClampNeg = n * 72 + k := nI_clamp (by omega)
    have he := E.1 (n * 72 + k) (by omega)
    rw [qk_o (by omega)] at he
    have em : ¬ (n * 72 + k) % 72 < 64 := by omega
    refine br_f ?_ ?_
    · rw [show (72 : Int32) = nI 72 from rfl, pk_mul, nI_add]
      exact nI_ge (by omega) (by omega)
    rw [cb]
    have e1 : nI (n * 72 + k) + 1 = nI (n * 72 + (k + 1)) := nI_1 _
    refine ⟨vb, fun z => ?_, fun z => ⟨vb, nm_r (congrArg (upd yk (n * 72 + k)) qy_b0) ?_⟩⟩
    · have ef : s (n * 72 + k) = qk_fw b s (n * 72 + k) := by
        unfold qk_fw
        rw [if_neg]
        intro y
        have k0 : ¬ yk (n * 72 + k) = 0 := fun w => absurd (((qe_er0 he).mp w).symm.trans y.1) (by decide)
        rw [← (qe_erst he k0).1] at y
        exact absurd y.2 (Int32.not_lt.mpr z)
      rw [qk_st (by omega) ef] at E
      exact nm_r e1 (i _ _ _ E)
    · have ef : qe_z = qk_fw b s (n * 72 + k) := by
        unfold qk_fw
        rcases he with w | w | w | w
        · rw [w.1]; split <;> rfl
        · exact absurd w.1 em
        · exact absurd w.1 em
        · rw [w.2.1, if_pos ⟨rfl, Int32.not_le.mp z⟩]
      have U := qy_z E (i := n * 72 + k) (by omega)
      rw [qk_s (by omega) ef] at U
      exact nm_r e1 (i _ _ _ U)
theorem qk_1e {n k : Nat} (hk : k < 64) : qk_1 n s (n * 72 + k) = if qk_hd s n k then qe_z else s (n * 72 + k) := by
  have ek : n * 72 + k - n * 72 = k := by omega
  unfold qk_1
  rw [qk_i (by omega) (by omega)]
  unfold qk_fh
  rw [ek]
theorem qk_2e {n k : Nat} {b : Int32} (hk : k < 64) : qk_2 n b s (n * 72 + k) = if (qk_1 n s (n * 72 + k)).1 = 2 ∧ (qk_1 n s (n * 72 + k)).2.1 < b then qe_z else qk_1 n s (n * 72 + k) := by
  unfold qk_2
  rw [qk_i (by omega) (by omega)]
  rfl
theorem qk_2o {n : Nat} {b : Int32} : qk_mix (n * 72) (n * 72 + 64) (qk_2 n b s) s = qk_2 n b s := by
  refine qk_F (fun j hj => ?_)
  unfold qk_2
  rw [qk_o hj]
  unfold qk_1
  exact qk_o hj
/-- compaction, the second test of a place -/
theorem qy_c88 (post : Int32 → SY → Prop) (J : Int32 → (Nat → Int32) → (Nat → Int32) → (Nat → Int32) → (Nat → Int32) → (Nat → Int32) → (Nat → Int32) → (Nat → Int32) → (Nat → Int32) → (Nat → Int32) → Prop)
    {n k : Nat} {b : Int32} (h4 : n < 4) (hk : k < 64) {g : Nat → qe_E} (hm : g = qk_mix (n * 72) (n * 72 + k) (qk_2 n b s) s) {hg hd : Int32} {yk ys yv al m1 m2 m3 m4 m5 : Nat → Int32} (E : qy_E (qe_up g (n * 72 + k) (qk_1 n s (n * 72 + k))) f yk ys yv)
    (h : ∀ yk ys yv, qy_E (qk_mix (n * 72) (n * 72 + (k + 1)) (qk_2 n b s) s) f yk ys yv → J (nI (k + 1)) yk ys yv al m1 m2 m3 m4 m5) : wY_compact_88 post J (nI n) b (nI k) (nI (n * 72 + k)) hg hd yk ys yv al m1 m2 m3 m4 m5 := by
  have vb : vp_in (nI (n * 72 + k)) 576 := vp_in_nI (by omega) (by omega)
  have cb : (nI (n * 72 + k)).toNatClampNeg = n * 72 + k := nI_clamp (by omega)
  have he := E.1 (n * 72 + k) (by omega)
  rw [qe_us] at he
  have em : (n * 72 + k) % 72 < 64 := by omega
  have e2 := qk_2e (s := s) (n := n) (b := b) hk
  have es : qe_up (qk_mix (n * 72) (n * 72 + k) (qk_2 n b s) s) (n * 72 + k) (qk_2 n b s (n * 72 + k)) = qk_mix (n * 72) (n * 72 + (k + 1)) (qk_2 n b s) s := qk_s (by omega) rfl
  have keep : qk_2 n b s (n * 72 + k) = qk_1 n s (n * 72 + k) → J (nI (k + 1)) yk ys yv al m1 m2 m3 m4 m5 := by
    intro w
    refine h _ _ _ ?_
    rw [← es, w, ← hm]
    exact E
  unfold wY_compact_88
  rw [cb]
  refine ⟨vb, fun z => ⟨vb, fun y => nm_r (nI_1 k) (keep ?_), fun y => ⟨vb, nm_r (congrArg (upd yk (n * 72 + k)) qy_b0) (nm_r (nI_1 k) (h _ _ _ ?_))⟩⟩, fun z => nm_r (nI_1 k) (keep ?_)⟩
  · have k0 : ¬ yk (n * 72 + k) = 0 := by rw [z]; exact qe_n20
    rw [e2, if_neg]
    intro w
    rw [← (qe_erst he k0).1] at w
    exact absurd w.2 (Int32.not_lt.mpr y)
  · have k0 : ¬ yk (n * 72 + k) = 0 := by rw [z]; exact qe_n20
    have e3 : qk_2 n b s (n * 72 + k) = qe_z := by
      rw [e2, if_pos]
      refine ⟨?_, ?_⟩
      · rcases he with w | w | w | w
        · exact absurd (z.symm.trans w.2) qe_n20
        · exact absurd (z.symm.trans w.2.2) qe_n21
        · rw [w.2.1]
        · exact absurd em w.1
      · rw [← (qe_erst he k0).1]; exact Int32.not_le.mp y
    have U := qy_z E (i := n * 72 + k) (by omega)
    rw [← es, e3, ← hm]
    have eu : qe_up (qe_up g (n * 72 + k) (qk_1 n s (n * 72 + k))) (n * 72 + k) qe_z = qe_up g (n * 72 + k) qe_z := by
      funext j
      by_cases c : j = n * 72 + k
      · rw [c, qe_us, qe_us]
      · rw [qe_un c, qe_un c, qe_un c]
    rw [eu] at U
    exact U
  · rw [e2, if_neg]
    intro w
    rcases he with q | q | q | q
    · rw [q.1] at w; exact absurd w.1 (by decide)
    · rw [q.2.1] at w; exact absurd w.1 (by decide : ¬ (1 : Int32) = 2)
    · exact z q.2.2.1
    · exact absurd em q.1
theorem qy_cpL (post : Int32 → SY → Prop) {n : Nat} {b : Int32} (h4 : n < 4) {hg hd : Int32} {al m1 m2 m3 m4 m5 : Nat → Int32} (h : ∀ yk ys yv, qy_E (qk_2 n b s) f yk ys yv → ∃ n132, wY_compact_132 post (nI n) b hg hd n132 (nI (n * 72 + 64)) yk ys yv al m1 m2 m3 m4 m5) :
    ∀ d k, k + d = 64 → ∀ yk ys yv, qy_E (qk_mix (n * 72) (n * 72 + k) (qk_2 n b s) s) f yk ys yv → wY_compact_25 post (nI n) b hg hd (d + 1) (nI k) yk ys yv al m1 m2 m3 m4 m5 := by
  intro d
  induction d with
  | zero =>
    intro k hk yk ys yv E
    obtain rfl : k = 64 := by omega
    rw [qk_2o] at E
    refine br_t (Int32.le_refl _) (nm_r (e' := nI (n * 72 + 64)) ?_ (h _ _ _ E))
    rw [show (72 : Int32) = nI 72 from rfl, show (64 : Int32) = nI 64 from rfl, pk_mul, nI_add]
  | succ d ih =>
    intro k hk yk ys yv E
    have i := ih (k + 1) (by omega)
    have vb : vp_in (nI (n * 72 + k)) 576 := vp_in_nI (by omega) (by omega)
    have cb : (nI (n * 72 + k)).toNatClampNeg = n * 72 + k := nI_clamp (by omega)
    have vw : vp_in (nI (n * 72 + 64 + k / 8)) 576 := vp_in_nI (by omega) (by omega)
    have cw : (nI (n * 72 + 64 + k / 8)).toNatClampNeg = n * 72 + 64 + k / 8 := nI_clamp (by omega)
    have he := E.1 (n * 72 + k) (by omega)
    have hw := E.1 (n * 72 + 64 + k / 8) (by omega)
    rw [qk_o (by omega)] at he hw
    have em : (n * 72 + k) % 72 < 64 := by omega
    have wm : ¬ (n * 72 + 64 + k / 8) % 72 < 64 := by omega
    have e1 := qk_1e (s := s) (n := n) (k := k) (by omega)
    have keep : qk_1 n s (n * 72 + k) = s (n * 72 + k) → qy_E (qe_up (qk_mix (n * 72) (n * 72 + k) (qk_2 n b s) s) (n * 72 + k) (qk_1 n s (n * 72 + k))) f yk ys yv := by
      intro w
      have ee : qk_mix (n * 72) (n * 72 + k) (qk_2 n b s) s (n * 72 + k) = s (n * 72 + k) := qk_o (by omega)
      rw [w, ← ee, qe_uself]
      exact E
    refine br_f (nI_ge (b := 64) (by omega) (by decide)) (nm_r (qa_ix n k) ⟨qa_n8, nm_r (qa_w n k (by omega)) ?_⟩)
    rw [cb, cw]
    refine ⟨vw, fun z => ?_, fun z => ⟨vw, vb, fun y => ?_, fun y => ⟨vb, nm_r (congrArg (upd yk (n * 72 + k)) qy_b0) ?_⟩⟩⟩
    · refine qy_c88 post _ h4 (by omega) rfl (keep ?_) i
      rw [e1, if_neg]
      intro q
      exact absurd (((qe_er0 hw).mp z).symm.trans q.1) (by decide)
    · refine qy_c88 post _ h4 (by omega) rfl (keep ?_) i
      rw [e1]
      by_cases k0 : yk (n * 72 + k) = 0
      · have ez := qe_gz (qe_erg he) ((qe_er0 he).mp k0)
        split
        · exact ez.symm
        · rfl
      · rw [if_neg]
        intro q
        have q2 := q.2
        rw [← (qe_erst he k0).1, ← (qe_erst hw z).1] at q2
        exact absurd y (Int32.not_lt.mpr q2)
    · have ez : qk_1 n s (n * 72 + k) = qe_z := by
        rw [e1]
        by_cases k0 : yk (n * 72 + k) = 0
        · have ez := qe_gz (qe_erg he) ((qe_er0 he).mp k0)
          split
          · rfl
          · exact ez
        · rw [if_pos]
          refine ⟨?_, ?_⟩
          · rcases hw with q | q | q | q
            · exact absurd q.2 z
            · exact absurd q.1 wm
            · exact absurd q.1 wm
            · rw [q.2.1]
          · rw [← (qe_erst he k0).1, ← (qe_erst hw z).1]; exact Int32.not_lt.mp y
      refine qy_c88 post _ h4 (by omega) rfl ?_ i
      rw [ez]
      exact qy_z E (by omega)
end
end
section
/-! the reference: repair -/
section
variable {kh : Int32} {dn : Nat → Int32} {s f : Nat → qe_E} {H : List qh_H}
theorem qy_162 (post : Int32 → SY → Prop) (J : Int32 → Int32 → Int32 → Int32 → (Nat → Int32) → (Nat → Int32) → (Nat → Int32) → (Nat → Int32) → (Nat → Int32) → (Nat → Int32) → (Nat → Int32) → (Nat → Int32) → (Nat → Int32) → Prop)
    {a b c k : Nat} (ha : a < 4) (hb : b < 4) (hk : k < 72) {hg hd : Int32} {yk ys yv al m1 m2 m3 m4 m5 : Nat → Int32} (I : qy_R kh dn s f H (hg, hd, yk, ys, yv, al, m1, m2, m3, m4, m5))
    (h1 : qe_nw (s (b * 72 + k)) (s (a * 72 + k)) → ∀ (hg hd : Int32) (yk ys yv al m1 m2 m3 m4 m5 : Nat → Int32), qy_R kh dn (qe_up s (a * 72 + k) (s (b * 72 + k))) f H (hg, hd, yk, ys, yv, al, m1, m2, m3, m4, m5) → J (nI (c + 1)) (nI (k + 1)) hg hd yk ys yv al m1 m2 m3 m4 m5)
    (h0 : ¬ qe_nw (s (b * 72 + k)) (s (a * 72 + k)) → J (nI c) (nI (k + 1)) hg hd yk ys yv al m1 m2 m3 m4 m5) : wY_repair_162 post J (nI a) (nI b) (nI c) (nI k) (nI (b * 72 + k)) hg hd yk ys yv al m1 m2 m3 m4 m5 := by
  have vb : vp_in (nI (b * 72 + k)) 576 := vp_in_nI (by omega) (by omega)
  have cb : (nI (b * 72 + k)).toNatClampNeg = b * 72 + k := nI_clamp (by omega)
  have E : qy_E s f yk ys yv := I.2.2.1
  have he := E.1 (b * 72 + k) (by omega)
  have em : (b * 72 + k) % 72 = k := by omega
  rw [em] at he
  unfold wY_repair_162
  rw [cb]
  refine ⟨vb, fun z => nm_r (nI_1 k) (h0 (fun y => y.1 ((qe_er0 he).mp z))), fun z => ⟨vb, vb, vb, qy_take _ ha hk he z I (fun y v' I' => ?_) (fun y => ?_)⟩⟩
  · obtain ⟨bg, bd, b1, b2, b3, b4, b5, b6, b7, b8, b9⟩ := v'
    exact br_f qe_n10 (nm_r (nI_1 c) (nm_r (nI_1 k) (h1 y _ _ _ _ _ _ _ _ _ _ _ I')))
  · exact br_t rfl (nm_r (nI_1 k) (h0 y))
theorem qy_78 (post : Int32 → SY → Prop) (J : Int32 → Int32 → Int32 → Int32 → (Nat → Int32) → (Nat → Int32) → (Nat → Int32) → (Nat → Int32) → (Nat → Int32) → (Nat → Int32) → (Nat → Int32) → (Nat → Int32) → (Nat → Int32) → Prop)
    {a b k : Nat} (ha : a < 4) (hb : b < 4) (hab : a ≠ b) (hk : k < 72) {S : (Nat → qe_E) × Nat} {hg hd : Int32} {yk ys yv al m1 m2 m3 m4 m5 : Nat → Int32} (I : qy_R kh dn S.1 f H (hg, hd, yk, ys, yv, al, m1, m2, m3, m4, m5))
    (h1 : qp_bo a b k → ∀ (hg hd : Int32) (yk ys yv al m1 m2 m3 m4 m5 : Nat → Int32), qy_R kh dn (qp_st a b k S).1 f H (hg, hd, yk, ys, yv, al, m1, m2, m3, m4, m5) → J (nI (qp_st a b k S).2) (nI (k + 1)) hg hd yk ys yv al m1 m2 m3 m4 m5)
    (h0 : ¬ qp_bo a b k → J (nI S.2) (nI (k + 1)) hg hd yk ys yv al m1 m2 m3 m4 m5) : wY_repair_78 post J (nI a) (nI b) (nI S.2) (nI k) (nI (qp_pt k)) hg hd yk ys yv al m1 m2 m3 m4 m5 := by
  have hp : qp_pt k < 8 := by unfold qp_pt; split <;> omega
  have va : vp_in (nI (a * 72 + k)) 576 := vp_in_nI (by omega) (by omega)
  have ca : (nI (a * 72 + k)).toNatClampNeg = a * 72 + k := nI_clamp (by omega)
  have E : qy_E S.1 f yk ys yv := I.2.2.1
  have he := E.1 (a * 72 + k) (by omega)
  have em : (a * 72 + k) % 72 = k := by omega
  rw [em] at he
  have hne : a * 72 + k ≠ b * 72 + k := by omega
  unfold wY_repair_78
  refine ⟨qa_n4, nm_r (qa_rep (p := qp_pt k) (r := 3) (by omega) (by omega)) (nm_r (qa_ix a k) (nm_r (qa_ix b k) ?_))⟩
  have hq : (qp_pt k + 3) % 4 < 4 := by omega
  refine pk_eq ((qp_pt k + 3) % 4) a (fun z => nm_r (nI_1 k) (h0 (fun w => w.1 z))) (fun z1 => ?_)
  refine pk_eq ((qp_pt k + 3) % 4) b (fun z => nm_r (nI_1 k) (h0 (fun w => w.2 z))) (fun z2 => ?_)
  have g := h1 ⟨z1, z2⟩
  have F : ∀ (hg hd : Int32) (yk ys yv al m1 m2 m3 m4 m5 : Nat → Int32), qy_R kh dn S.1 f H (hg, hd, yk, ys, yv, al, m1, m2, m3, m4, m5) → ¬ qe_nw (S.1 (a * 72 + k)) (S.1 (b * 72 + k)) → wY_repair_162 post J (nI a) (nI b) (nI S.2) (nI k) (nI (b * 72 + k)) hg hd yk ys yv al m1 m2 m3 m4 m5 := by
    intro hg hd yk ys yv al m1 m2 m3 m4 m5 I w
    refine qy_162 post J ha hb hk I (fun y => ?_) (fun y => ?_)
    · have e2 : qp_st a b k S = (qe_up S.1 (a * 72 + k) (S.1 (b * 72 + k)), S.2 + 1) := by
        unfold qp_st; rw [if_neg w, if_pos y]
      rw [e2] at g
      exact g
    · have e2 : qp_st a b k S = S := by
        unfold qp_st; rw [if_neg w, if_neg y]
      rw [e2] at g
      exact g _ _ _ _ _ _ _ _ _ _ _ I
  rw [ca]
  refine ⟨va, fun z => F _ _ _ _ _ _ _ _ _ _ _ I (fun y => y.1 ((qe_er0 he).mp z)), fun z => ⟨va, va, va, qy_take _ hb hk he z I (fun y v' I' => ?_) (fun y => ?_)⟩⟩
  · obtain ⟨bg, bd, b1, b2, b3, b4, b5, b6, b7, b8, b9⟩ := v'
    have e2 : qp_st a b k S = (qe_up S.1 (b * 72 + k) (S.1 (a * 72 + k)), S.2 + 1) := by
      unfold qp_st; rw [if_pos y]
    rw [e2] at g
    refine br_f qe_n10 (nm_r (nI_1 S.2) (qy_162 post J ha hb hk I' (fun w => ?_) (fun w => ?_)))
    · rw [qe_us, qe_un hne] at w
      exact absurd w (qe_irr _)
    · exact g _ _ _ _ _ _ _ _ _ _ _ I'
  · exact br_t rfl (F _ _ _ _ _ _ _ _ _ _ _ I y)
theorem qy_rpL (post : Int32 → SY → Prop) {a b : Nat} (ha : a < 4) (hb : b < 4) (hab : a ≠ b) (g : ∀ v', qy_R kh dn (qp_al a b s 72).1 f H v' → post (nI (qp_al a b s 72).2) v') :
    ∀ d k, k + d = 72 → ∀ (hg hd : Int32) (yk ys yv al m1 m2 m3 m4 m5 : Nat → Int32), qy_R kh dn (qp_al a b s k).1 f H (hg, hd, yk, ys, yv, al, m1, m2, m3, m4, m5) → wY_repair_51 post (nI a) (nI b) (d + 1) (nI (qp_al a b s k).2) (nI k) hg hd yk ys yv al m1 m2 m3 m4 m5 := by
  intro d
  induction d with
  | zero =>
    intro k hk hg hd yk ys yv al m1 m2 m3 m4 m5 I
    obtain rfl : k = 72 := by omega
    exact br_t (Int32.le_refl _) (g _ I)
  | succ d ih =>
    intro k hk hg hd yk ys yv al m1 m2 m3 m4 m5 I
    have i := ih (k + 1) (by omega)
    have K : wY_repair_78 post (wY_repair_51 post (nI a) (nI b) (d + 1)) (nI a) (nI b) (nI (qp_al a b s k).2) (nI k) (nI (qp_pt k)) hg hd yk ys yv al m1 m2 m3 m4 m5 := by
      refine qy_78 post _ ha hb hab (by omega) I (fun z => ?_) (fun z => ?_)
      · have e : qp_al a b s (k + 1) = qp_st a b k (qp_al a b s k) := if_pos z
        rw [e] at i
        exact i
      · have e : qp_al a b s (k + 1) = qp_al a b s k := if_neg z
        rw [e] at i
        exact i _ _ _ _ _ _ _ _ _ _ _ I
    refine br_f (nI_ge (b := 72) (by omega) (by decide)) (pk_le 64 k (fun c => ?_) (fun c => ?_))
    · have e : qp_pt k = k - 64 := if_neg (by omega)
      rw [e] at K
      rw [show (64 : Int32) = nI 64 from rfl, pk_sub c]
      exact K
    · have e : qp_pt k = k / 8 := if_pos c
      rw [e] at K
      rw [qa_8 (by omega)]
      exact ⟨qa_n8, K⟩
end
end
section
/-! the relation, the start, and the two ways of asking for a range -/
section
def i_Rel (_ : Nat) (u : SX) (v : SY) : Prop := ∃ (kh : Int32) (dn : Nat → Int32) (s f : Nat → qe_E) (H : List qh_H), H.length ≤ 12 ∧ qh_G H ∧ qx_R kh dn s f H u ∧ qy_R kh dn s f H v
theorem i_up {k : Nat} {u : SX} {v : SY} (h : i_Rel k u v) : i_Rel (k + 5) u v := h
theorem qv_b1 : vp_nar .boolean 1 = 1 := by decide
theorem qv_b0 : vp_nar .boolean 0 = 0 := by decide
def qv_al (k : Nat) : Nat → Int32 := fun j => if j < k then 1 else 0
theorem qv_als (k : Nat) : upd (qv_al k) k 1 = qv_al (k + 1) := by
  funext j
  by_cases c : j = k
  · subst c
    rw [pk_us]
    exact (if_pos (by omega)).symm
  · rw [pk_un c]
    by_cases d : j < k
    · exact (if_pos d).trans (if_pos (by omega)).symm
    · exact (if_neg d).trans (if_neg (by omega)).symm
theorem qv_in (post : SY → Prop) {hg hd : Int32} {yk ys yv m1 m2 m3 m4 m5 : Nat → Int32} (h : post (hg, hd, yk, ys, yv, qv_al 4, m1, m2, m3, m4, m5)) : ∀ d k, k + d = 4 → wY_init_93 post hg hd (d + 1) (nI k) yk ys yv (qv_al k) m1 m2 m3 m4 m5 := by
  intro d
  induction d with
  | zero =>
    intro k hk
    obtain rfl : k = 4 := by omega
    exact br_t (Int32.le_refl _) h
  | succ d ih =>
    intro k hk
    have i := ih (k + 1) (by omega)
    have vi : vp_in (nI k) 4 := vp_in_nI (by omega) (by omega)
    have ci : (nI k).toNatClampNeg = k := nI_clamp (by omega)
    refine br_f (nI_ge (b := 4) (by omega) (by decide)) ⟨vi, ?_⟩
    rw [ci, qv_b1]
    exact nm_r (qv_als k) (nm_r (nI_1 k) i)
theorem qv_0 (kh : Int32) : i_Rel 1 (kh, 0, (fun _ => 0), (fun _ => 0), (fun _ => 0), (fun _ => 0), (fun _ => 0), (fun _ => 0), (fun _ => 0), (fun _ => 0), (fun _ => 0), (fun _ => 0), (fun _ => 0), (fun _ => 0)) (kh, 0, (fun _ => 0), (fun _ => 0), (fun _ => 0), qv_al 4, (fun _ => 0), (fun _ => 0), (fun _ => 0), (fun _ => 0), (fun _ => 0)) := by
  refine ⟨kh, fun _ => 0, fun _ => qe_z, fun _ => qe_z, [], by decide, fun x hx => absurd hx List.not_mem_nil, ⟨_, _, _, _, _, rfl, trivial⟩, rfl, rfl, ⟨fun j _ => qe_erz, fun j _ => qe_erz⟩, fun j hj => Or.inl ⟨rfl, if_pos hj⟩, trivial⟩
theorem qv_al0 : qv_al 0 = fun _ => 0 := by
  funext j; exact if_neg (by omega)
theorem i_vc0 (k0 : Int32) : wpX_init (fun u => wpY_init (fun v => i_Rel 1 u v) k0) k0 := by
  refine br_c (fun z => br_t z ⟨5, ?_⟩) (fun z => br_f z ⟨5, ?_⟩)
  · have := qv_in (hg := 0) (hd := 0) (yk := fun _ => 0) (ys := fun _ => 0) (yv := fun _ => 0) (m1 := fun _ => 0) (m2 := fun _ => 0) (m3 := fun _ => 0) (m4 := fun _ => 0) (m5 := fun _ => 0) (fun v => i_Rel 1 (0, 0, (fun _ => 0), (fun _ => 0), (fun _ => 0), (fun _ => 0), (fun _ => 0), (fun _ => 0), (fun _ => 0), (fun _ => 0), (fun _ => 0), (fun _ => 0), (fun _ => 0), (fun _ => 0)) v) (qv_0 0) 4 0 rfl
    rw [qv_al0] at this
    exact this
  · have := qv_in (hg := 1) (hd := 0) (yk := fun _ => 0) (ys := fun _ => 0) (yv := fun _ => 0) (m1 := fun _ => 0) (m2 := fun _ => 0) (m3 := fun _ => 0) (m4 := fun _ => 0) (m5 := fun _ => 0) (fun v => i_Rel 1 (1, 0, (fun _ => 0), (fun _ => 0), (fun _ => 0), (fun _ => 0), (fun _ => 0), (fun _ => 0), (fun _ => 0), (fun _ => 0), (fun _ => 0), (fun _ => 0), (fun _ => 0), (fun _ => 0)) v) (qv_0 1) 4 0 rfl
    rw [qv_al0] at this
    exact this
theorem qx_pl1 (post : Int32 → Prop) {j : Nat} (h : j < 64) (g : post 1) : wpX_isPlace post (nI j) := br_f (nI_pos (by omega)) (br_f (nI_ge (b := 64) h (by decide)) g)
theorem qx_pa1 (post : Int32 → Prop) {j : Nat} (h : j < 8) (g : post 1) : wpX_isPartition post (nI j) := br_f (nI_pos (by omega)) (br_f (nI_ge (b := 8) h (by decide)) g)
theorem qx_nd1 (post : Int32 → Prop) {j : Nat} (h : j < 4) (g : post 1) : wpX_isNode post (nI j) := br_f (nI_pos (by omega)) (br_f (nI_ge (b := 4) h (by decide)) g)
theorem qa_out {x N : Int32} {A B : Prop} (h : x < 0 ∨ N ≤ x) (g : A) : (x < 0 → A) ∧ (¬ x < 0 → ((N ≤ x → A) ∧ (¬ N ≤ x → B))) := by
  refine br_c (fun _ => g) (fun z => ?_)
  rcases h with c | c
  · exact absurd c z
  · exact br_t c g
theorem qx_pl0 (post : Int32 → Prop) {x : Int32} (h : x < 0 ∨ 64 ≤ x) (g : post 0) : wpX_isPlace post x := qa_out h g
theorem qx_pa0 (post : Int32 → Prop) {x : Int32} (h : x < 0 ∨ 8 ≤ x) (g : post 0) : wpX_isPartition post x := qa_out h g
theorem qx_nd0 (post : Int32 → Prop) {x : Int32} (h : x < 0 ∨ 4 ≤ x) (g : post 0) : wpX_isNode post x := qa_out h g
theorem qx_lv1 (post : Int32 → Prop) {L : Nat} (h1 : 1 ≤ L) (h3 : L ≤ 3) (g : post 1) : wpX_isLevel post (nI L) := br_f (qa_L1 h1 h3) (br_f (qa_L3 h3) g)
theorem qx_lv0 (post : Int32 → Prop) {x : Int32} (h : x < 1 ∨ 3 < x) (g : post 0) : wpX_isLevel post x := by
  refine br_c (fun _ => g) (fun z => ?_)
  rcases h with c | c
  · exact absurd c z
  · exact br_t c g
/-- the reference's two questions after a level: refused -/
theorem qa_lb {x : Int32} {A B : Prop} (h : x < 1 ∨ 3 < x) (g : A) : (x < 1 → A) ∧ (¬ x < 1 → ((x ≤ 3 → B) ∧ (¬ x ≤ 3 → A))) := by
  refine br_c (fun _ => g) (fun z => ?_)
  rcases h with c | c
  · exact absurd c z
  · exact br_f (Int32.not_le.mpr c) g
theorem qa_lb' {x : Int32} {A B : Prop} (h : x < 1 ∨ 3 < x) (g : A) : (x < 1 → A) ∧ (¬ x < 1 → ((3 < x → A) ∧ (¬ 3 < x → B))) := by
  refine br_c (fun _ => g) (fun z => ?_)
  rcases h with c | c
  · exact absurd c z
  · exact br_t c g
theorem qa_rng (x : Int32) {n : Nat} (hn : n < 2 ^ 31) : (x < 0 ∨ nI n ≤ x) ∨ ∃ j : Nat, j < n ∧ x = nI j := by
  rcases pk_ix x hn with c | c | c
  · exact Or.inl (Or.inl c)
  · exact Or.inl (Or.inr c)
  · exact Or.inr c
theorem qa_lvl (x : Int32) : (x < 1 ∨ 3 < x) ∨ ∃ L : Nat, 1 ≤ L ∧ L ≤ 3 ∧ x = nI L := by
  rcases qa_lv x with c | c | c
  · exact Or.inl (Or.inl c)
  · exact Or.inl (Or.inr c)
  · exact Or.inr c
theorem qs_G {dn : Nat → Int32} {kh : Int32} {p sl : Nat} {e : qe_E} (hs : sl < 72) (he : ¬ e.1 = 0) {S : (Nat → qe_E) × List qh_H} (h : qh_G S.2) : ∀ r, qh_G (qs_al dn kh p sl e r S).2 := by
  intro r
  induction r with
  | zero => exact h
  | succ r ih =>
    show qh_G (qs_st dn kh p sl e r (qs_al dn kh p sl e r S)).2
    unfold qs_st
    split
    · exact ih
    · exact qh_addG ih ⟨by show (p + r) % 4 < 4; omega, hs, he⟩
end
end
section
/-! the methods that send and that read -/
section
theorem qx_sdp (post : Int32 → SX → Prop) {kh : Int32} {dn : Nat → Int32} {s f : Nat → qe_E} {sl L p : Nat} (ep : qp_pt sl = p) (hs : sl < 72) (hL : L < 4) (e : qe_E) {H : List qh_H} (hl : H.length ≤ 12) {u : SX} (R : qx_R kh dn s f H u)
    (h1 : L ≤ qr_ct dn p 3 → ∀ u', qx_R kh dn (qs_al dn kh p sl e 3 (s, H)).1 f (qs_al dn kh p sl e 3 (s, H)).2 u' → post (nI (qr_ct dn p 3)) u')
    (h0 : qr_ct dn p 3 < L → post (-2) u) : wpX_send post u (nI sl) e.1 e.2.1 e.2.2 (nI L) := by
  subst ep
  exact qx_sd post hs hL e hl R h1 h0
theorem i_vc_write {k : Nat} {u : SX} {v : SY} (I : i_Rel k u v) (hk : k + 5 ≤ 2561) (v1 : Int32) (v2 : Int32) (v3 : Int32) (v4 : Int32) : wpX_write (fun r u' => wpY_write (fun r' v' => r' = r ∧ i_Rel (k + 5) u' v') v v1 v2 v3 v4) u v1 v2 v3 v4 := by
  obtain ⟨kh, dn, s, f, H, hl, hG, ⟨n1, n2, n3, n4, n5, rfl, hH⟩, RY⟩ := I
  obtain ⟨hg, hd, yk, ys, yv, al, m1, m2, m3, m4, m5⟩ := v
  have RX : qx_R kh dn s f H (kh, nI H.length, dn, qx_K s, qx_T s, qx_V s, qx_K f, qx_T f, qx_V f, n1, n2, n3, n4, n5) := ⟨n1, n2, n3, n4, n5, rfl, hH⟩
  have rel : i_Rel (k + 5) (kh, nI H.length, dn, qx_K s, qx_T s, qx_V s, qx_K f, qx_T f, qx_V f, n1, n2, n3, n4, n5) (hg, hd, yk, ys, yv, al, m1, m2, m3, m4, m5) := ⟨kh, dn, s, f, H, hl, hG, RX, RY⟩
  unfold wpX_write wpY_write
  dsimp only
  rcases qa_rng v1 (n := 64) (by decide) with c | ⟨j, hj, rfl⟩
  · exact qx_pl0 _ c (br_t rfl (qy_am0 _ c (br_t rfl ⟨rfl, rel⟩)))
  · refine qx_pl1 _ hj (br_f qe_n10 ?_)
    rcases qa_lvl v4 with c | ⟨L, l1, l3, rfl⟩
    · exact qx_lv0 _ c (br_t rfl (qy_am1 (N := 64) _ hj (by decide) (br_f qe_n10 (qa_lb c ⟨rfl, rel⟩))))
    · have hc := qr_ctle dn (j / 8) 3
      have ep : qp_pt j = j / 8 := if_pos hj
      refine qx_lv1 _ l1 l3 (br_f qe_n10 (qx_sdp _ ep (by omega) (by omega) (1, v3, v2) hl RX (fun c u' R' => ?_) (fun c => ?_)))
      · obtain ⟨a1, a2, a3, a4, a5, rfl, hA⟩ := R'
        refine qy_am1 (N := 64) _ hj (by decide) (br_f qe_n10 (br_f (qa_L1 l1 l3) (br_t (qa_L3' l3) ⟨qa_n8, ?_⟩)))
        rw [qa_8 (by omega)]
        refine qy_uc _ (by omega) RY (pk_le L (qr_ct dn (j / 8) 3) (fun _ => ⟨qa_n8, qy_sd _ (by omega) (by omega) (e := (1, v3, v2)) (Or.inr (Or.inl ⟨hj, rfl, rfl⟩)) qe_n10 hl RY (fun v' RY' => ?_)⟩) (fun z => absurd c (by omega)))
        obtain ⟨bg, bd, b1, b2, b3, b4, b5, b6, b7, b8, b9⟩ := v'
        exact ⟨rfl, kh, dn, _, f, _, qs_len (S := (s, H)) hl 3, qs_G (S := (s, H)) (by omega) qe_n10 hG 3, ⟨a1, a2, a3, a4, a5, rfl, hA⟩, RY'⟩
      · refine qy_am1 (N := 64) _ hj (by decide) (br_f qe_n10 (br_f (qa_L1 l1 l3) (br_t (qa_L3' l3) ⟨qa_n8, ?_⟩)))
        rw [qa_8 (by omega)]
        exact qy_uc _ (by omega) RY (pk_le L (qr_ct dn (j / 8) 3) (fun z => absurd c (by omega)) (fun _ => ⟨rfl, rel⟩))
theorem i_vc_erase {k : Nat} {u : SX} {v : SY} (I : i_Rel k u v) (hk : k + 5 ≤ 2561) (v1 : Int32) (v2 : Int32) (v3 : Int32) : wpX_erase (fun r u' => wpY_erase (fun r' v' => r' = r ∧ i_Rel (k + 5) u' v') v v1 v2 v3) u v1 v2 v3 := by
  obtain ⟨kh, dn, s, f, H, hl, hG, ⟨n1, n2, n3, n4, n5, rfl, hH⟩, RY⟩ := I
  obtain ⟨hg, hd, yk, ys, yv, al, m1, m2, m3, m4, m5⟩ := v
  have RX : qx_R kh dn s f H (kh, nI H.length, dn, qx_K s, qx_T s, qx_V s, qx_K f, qx_T f, qx_V f, n1, n2, n3, n4, n5) := ⟨n1, n2, n3, n4, n5, rfl, hH⟩
  have rel : i_Rel (k + 5) (kh, nI H.length, dn, qx_K s, qx_T s, qx_V s, qx_K f, qx_T f, qx_V f, n1, n2, n3, n4, n5) (hg, hd, yk, ys, yv, al, m1, m2, m3, m4, m5) := ⟨kh, dn, s, f, H, hl, hG, RX, RY⟩
  unfold wpX_erase wpY_erase
  dsimp only
  rcases qa_rng v1 (n := 64) (by decide) with c | ⟨j, hj, rfl⟩
  · exact qx_pl0 _ c (br_t rfl (qy_am0 _ c (br_t rfl ⟨rfl, rel⟩)))
  · refine qx_pl1 _ hj (br_f qe_n10 ?_)
    rcases qa_lvl v3 with c | ⟨L, l1, l3, rfl⟩
    · exact qx_lv0 _ c (br_t rfl (qy_am1 (N := 64) _ hj (by decide) (br_f qe_n10 (qa_lb c ⟨rfl, rel⟩))))
    · have hc := qr_ctle dn (j / 8) 3
      have ep : qp_pt j = j / 8 := if_pos hj
      refine qx_lv1 _ l1 l3 (br_f qe_n10 (qx_sdp _ ep (by omega) (by omega) (2, v2, 0) hl RX (fun c u' R' => ?_) (fun c => ?_)))
      · obtain ⟨a1, a2, a3, a4, a5, rfl, hA⟩ := R'
        refine qy_am1 (N := 64) _ hj (by decide) (br_f qe_n10 (br_f (qa_L1 l1 l3) (br_t (qa_L3' l3) ⟨qa_n8, ?_⟩)))
        rw [qa_8 (by omega)]
        refine qy_uc _ (by omega) RY (pk_le L (qr_ct dn (j / 8) 3) (fun _ => ⟨qa_n8, qy_sd _ (by omega) (by omega) (e := (2, v2, 0)) (Or.inr (Or.inr (Or.inl ⟨hj, rfl, rfl, rfl⟩))) qe_n20 hl RY (fun v' RY' => ?_)⟩) (fun z => absurd c (by omega)))
        obtain ⟨bg, bd, b1, b2, b3, b4, b5, b6, b7, b8, b9⟩ := v'
        exact ⟨rfl, kh, dn, _, f, _, qs_len (S := (s, H)) hl 3, qs_G (S := (s, H)) (by omega) qe_n20 hG 3, ⟨a1, a2, a3, a4, a5, rfl, hA⟩, RY'⟩
      · refine qy_am1 (N := 64) _ hj (by decide) (br_f qe_n10 (br_f (qa_L1 l1 l3) (br_t (qa_L3' l3) ⟨qa_n8, ?_⟩)))
        rw [qa_8 (by omega)]
        exact qy_uc _ (by omega) RY (pk_le L (qr_ct dn (j / 8) 3) (fun z => absurd c (by omega)) (fun _ => ⟨rfl, rel⟩))
theorem i_vc_wipe {k : Nat} {u : SX} {v : SY} (I : i_Rel k u v) (hk : k + 5 ≤ 2561) (v1 : Int32) (v2 : Int32) (v3 : Int32) : wpX_wipe (fun r u' => wpY_wipe (fun r' v' => r' = r ∧ i_Rel (k + 5) u' v') v v1 v2 v3) u v1 v2 v3 := by
  obtain ⟨kh, dn, s, f, H, hl, hG, ⟨n1, n2, n3, n4, n5, rfl, hH⟩, RY⟩ := I
  obtain ⟨hg, hd, yk, ys, yv, al, m1, m2, m3, m4, m5⟩ := v
  have RX : qx_R kh dn s f H (kh, nI H.length, dn, qx_K s, qx_T s, qx_V s, qx_K f, qx_T f, qx_V f, n1, n2, n3, n4, n5) := ⟨n1, n2, n3, n4, n5, rfl, hH⟩
  have rel : i_Rel (k + 5) (kh, nI H.length, dn, qx_K s, qx_T s, qx_V s, qx_K f, qx_T f, qx_V f, n1, n2, n3, n4, n5) (hg, hd, yk, ys, yv, al, m1, m2, m3, m4, m5) := ⟨kh, dn, s, f, H, hl, hG, RX, RY⟩
  unfold wpX_wipe wpY_wipe
  dsimp only
  rcases qa_rng v1 (n := 8) (by decide) with c | ⟨j, hj, rfl⟩
  · exact qx_pa0 _ c (br_t rfl (qy_am0 _ c (br_t rfl ⟨rfl, rel⟩)))
  · refine qx_pa1 _ hj (br_f qe_n10 ?_)
    rcases qa_lvl v3 with c | ⟨L, l1, l3, rfl⟩
    · exact qx_lv0 _ c (br_t rfl (qy_am1 (N := 8) _ hj (by decide) (br_f qe_n10 (qa_lb c ⟨rfl, rel⟩))))
    · have hc := qr_ctle dn j 3
      have ep : qp_pt (64 + j) = j := by unfold qp_pt; rw [if_neg (by omega)]; omega
      rw [qa_64]
      refine qx_lv1 _ l1 l3 (br_f qe_n10 (qx_sdp _ ep (by omega) (by omega) (3, v2, 0) hl RX (fun c u' R' => ?_) (fun c => ?_)))
      · obtain ⟨a1, a2, a3, a4, a5, rfl, hA⟩ := R'
        refine qy_am1 (N := 8) _ hj (by decide) (br_f qe_n10 (br_f (qa_L1 l1 l3) (br_t (qa_L3' l3) ?_)))
        refine qy_uc _ (by omega) RY (pk_le L (qr_ct dn j 3) (fun _ => qy_sd _ (by omega) (by omega) (e := (3, v2, 0)) (Or.inr (Or.inr (Or.inr ⟨by omega, rfl, rfl, rfl⟩))) qe_n20 hl RY (fun v' RY' => ?_)) (fun z => absurd c (by omega)))
        obtain ⟨bg, bd, b1, b2, b3, b4, b5, b6, b7, b8, b9⟩ := v'
        exact ⟨rfl, kh, dn, _, f, _, qs_len (S := (s, H)) hl 3, qs_G (S := (s, H)) (by omega) qe_n30 hG 3, ⟨a1, a2, a3, a4, a5, rfl, hA⟩, RY'⟩
      · refine qy_am1 (N := 8) _ hj (by decide) (br_f qe_n10 (br_f (qa_L1 l1 l3) (br_t (qa_L3' l3) ?_)))
        exact qy_uc _ (by omega) RY (pk_le L (qr_ct dn j 3) (fun z => absurd c (by omega)) (fun _ => ⟨rfl, rel⟩))
theorem qy_rd0 (post : Int64 → SY → Prop) {V : SY} {x y : Int32} (h : (x < 0 ∨ 64 ≤ x) ∨ (y < 1 ∨ 3 < y)) (g : post (-1000000000000) V) : wpY_read post V x y := by
  obtain ⟨hg, hd, yk, ys, yv, al, m1, m2, m3, m4, m5⟩ := V
  unfold wpY_read
  dsimp only
  rcases qa_rng x (n := 64) (by decide) with c | ⟨j, hj, rfl⟩
  · exact qy_am0 _ c (br_t rfl g)
  · refine qy_am1 (N := 64) _ hj (by decide) (br_f qe_n10 ?_)
    rcases h with (c | c) | c
    · exact absurd c (nI_pos (by omega))
    · exact absurd c (nI_ge (b := 64) hj (by decide))
    · exact qa_lb' c g
theorem i_vc_read {k : Nat} {u : SX} {v : SY} (I : i_Rel k u v) (hk : k + 5 ≤ 2561) (v1 : Int32) (v2 : Int32) : wpX_read (fun r u' => wpY_read (fun r' v' => r' = r ∧ i_Rel (k + 5) u' v') v v1 v2) u v1 v2 := by
  obtain ⟨kh, dn, s, f, H, hl, hG, ⟨n1, n2, n3, n4, n5, rfl, hH⟩, RY⟩ := I
  have RX : qx_R kh dn s f H (kh, nI H.length, dn, qx_K s, qx_T s, qx_V s, qx_K f, qx_T f, qx_V f, n1, n2, n3, n4, n5) := ⟨n1, n2, n3, n4, n5, rfl, hH⟩
  have rel : i_Rel (k + 5) (kh, nI H.length, dn, qx_K s, qx_T s, qx_V s, qx_K f, qx_T f, qx_V f, n1, n2, n3, n4, n5) v := ⟨kh, dn, s, f, H, hl, hG, RX, RY⟩
  have G := (qy_G RY).1
  unfold wpX_read
  dsimp only
  rcases qa_rng v1 (n := 64) (by decide) with c | ⟨j, hj, rfl⟩
  · exact qx_pl0 _ c (br_t rfl (qy_rd0 _ (Or.inl c) ⟨rfl, rel⟩))
  · refine qx_pl1 _ hj (br_f qe_n10 ?_)
    rcases qa_lvl v2 with c | ⟨L, l1, l3, rfl⟩
    · exact qx_lv0 _ c (br_t rfl (qy_rd0 _ (Or.inr c) ⟨rfl, rel⟩))
    · have hc := qr_ctle dn (j / 8) 3
      refine qx_lv1 _ l1 l3 (br_f qe_n10 ⟨qa_n8, ?_⟩)
      rw [qa_8 (by omega)]
      refine qx_cu _ (by omega) (pk_le L (qr_ct dn (j / 8) 3) (fun c => qx_ask _ hj l1 c G ?_) (fun c => ?_))
      · exact qy_rd _ hj l1 l3 RY (fun _ v' RY' => ⟨rfl, kh, dn, _, f, H, hl, hG, ⟨n1, n2, n3, n4, n5, rfl, hH⟩, RY'⟩) (fun z => absurd c (by omega))
      · exact qy_rd _ hj l1 l3 RY (fun z => absurd c (by omega)) (fun _ => ⟨rfl, rel⟩)
theorem i_vc_sum {k : Nat} {u : SX} {v : SY} (I : i_Rel k u v) (hk : k + 5 ≤ 2561) (v1 : Int32) (v2 : Int32) : wpX_sum (fun r u' => wpY_sum (fun r' v' => r' = r ∧ i_Rel (k + 5) u' v') v v1 v2) u v1 v2 := by
  obtain ⟨kh, dn, s, f, H, hl, hG, ⟨n1, n2, n3, n4, n5, rfl, hH⟩, RY⟩ := I
  have G := (qy_G RY).1
  obtain ⟨hg, hd, yk, ys, yv, al, m1, m2, m3, m4, m5⟩ := v
  have RX : qx_R kh dn s f H (kh, nI H.length, dn, qx_K s, qx_T s, qx_V s, qx_K f, qx_T f, qx_V f, n1, n2, n3, n4, n5) := ⟨n1, n2, n3, n4, n5, rfl, hH⟩
  have rel : i_Rel (k + 5) (kh, nI H.length, dn, qx_K s, qx_T s, qx_V s, qx_K f, qx_T f, qx_V f, n1, n2, n3, n4, n5) (hg, hd, yk, ys, yv, al, m1, m2, m3, m4, m5) := ⟨kh, dn, s, f, H, hl, hG, RX, RY⟩
  unfold wpX_sum wpY_sum
  dsimp only
  rcases qa_rng v1 (n := 8) (by decide) with c | ⟨j, hj, rfl⟩
  · exact qx_pa0 _ c (br_t rfl (qy_am0 _ c (br_t rfl ⟨rfl, rel⟩)))
  · refine qx_pa1 _ hj (br_f qe_n10 ?_)
    rcases qa_lvl v2 with c | ⟨L, l1, l3, rfl⟩
    · exact qx_lv0 _ c (br_t rfl (qy_am1 (N := 8) _ hj (by decide) (br_f qe_n10 (qa_lb' c ⟨rfl, rel⟩))))
    · have hc := qr_ctle dn j 3
      refine qx_lv1 _ l1 l3 (br_f qe_n10 (qx_cu _ hj (pk_le L (qr_ct dn j 3) (fun c => ⟨9, qx_smL _ hj l1 c (qr_smG hj G) ?_ 8 0 rfl⟩) (fun c => ?_))))
      · refine qy_am1 (N := 8) _ hj (by decide) (br_f qe_n10 (br_f (qa_L1 l1 l3) (br_f (qa_L3 l3) ?_)))
        exact qy_uc _ hj RY (pk_le L (qr_ct dn j 3) (fun _ => ⟨9, qy_smL _ hj l1 l3 c (fun v' RY' => ⟨rfl, kh, dn, _, f, H, hl, hG, ⟨n1, n2, n3, n4, n5, rfl, hH⟩, RY'⟩) 8 0 rfl _ _ _ _ _ _ _ _ _ _ _ RY⟩) (fun z => absurd c (by omega)))
      · refine qy_am1 (N := 8) _ hj (by decide) (br_f qe_n10 (br_f (qa_L1 l1 l3) (br_f (qa_L3 l3) ?_)))
        exact qy_uc _ hj RY (pk_le L (qr_ct dn j 3) (fun z => absurd c (by omega)) (fun _ => ⟨rfl, rel⟩))
end
end
section
/-! the methods of a node -/
section
theorem qy_Ad {dn al : Nat → Int32} (h : qy_A dn al) (n : Nat) : qy_A (upd dn n 1) (upd al n 0) := by
  intro j hj
  by_cases c : j = n
  · subst c; rw [pk_us, pk_us]; exact Or.inr ⟨qe_n10, rfl⟩
  · rw [pk_un c, pk_un c]; exact h j hj
theorem qy_Au {dn al : Nat → Int32} (h : qy_A dn al) (n : Nat) : qy_A (upd dn n 0) (upd al n 1) := by
  intro j hj
  by_cases c : j = n
  · subst c; rw [pk_us, pk_us]; exact Or.inl ⟨rfl, rfl⟩
  · rw [pk_un c, pk_un c]; exact h j hj
theorem i_vc_down {k : Nat} {u : SX} {v : SY} (I : i_Rel k u v) (hk : k + 5 ≤ 2561) (v1 : Int32) : wpX_down (fun r u' => wpY_down (fun r' v' => r' = r ∧ i_Rel (k + 5) u' v') v v1) u v1 := by
  obtain ⟨kh, dn, s, f, H, hl, hG, ⟨n1, n2, n3, n4, n5, rfl, hH⟩, RY⟩ := I
  obtain ⟨hg, hd, yk, ys, yv, al, m1, m2, m3, m4, m5⟩ := v
  have RX : qx_R kh dn s f H (kh, nI H.length, dn, qx_K s, qx_T s, qx_V s, qx_K f, qx_T f, qx_V f, n1, n2, n3, n4, n5) := ⟨n1, n2, n3, n4, n5, rfl, hH⟩
  have rel : i_Rel (k + 5) (kh, nI H.length, dn, qx_K s, qx_T s, qx_V s, qx_K f, qx_T f, qx_V f, n1, n2, n3, n4, n5) (hg, hd, yk, ys, yv, al, m1, m2, m3, m4, m5) := ⟨kh, dn, s, f, H, hl, hG, RX, RY⟩
  obtain ⟨r1, r2, rE, rA, rH⟩ := RY
  unfold wpX_down wpY_down
  dsimp only
  rcases qa_rng v1 (n := 4) (by decide) with c | ⟨n, h4, rfl⟩
  · exact qx_nd0 _ c (br_t rfl (qy_am0 _ c (br_t rfl ⟨rfl, rel⟩)))
  · have vi : vp_in (nI n) 4 := vp_in_nI h4 (by omega)
    have cn : (nI n).toNatClampNeg = n := nI_clamp (by omega)
    rw [cn, qv_b1, qv_b0]
    refine qx_nd1 _ h4 (br_f qe_n10 ⟨vi, br_c (fun z => ⟨vi, nm_e ?_⟩) (fun z => ?_)⟩)
    · refine qy_am1 (N := 4) _ h4 (by decide) (br_f qe_n10 ⟨vi, br_f (qy_A0 rA h4 z) ⟨vi, nm_e ?_⟩⟩)
      exact ⟨rfl, kh, upd dn n 1, s, f, H, hl, hG, ⟨n1, n2, n3, n4, n5, rfl, hH⟩, r1, r2, rE, qy_Ad rA n, rH⟩
    · exact qy_am1 (N := 4) _ h4 (by decide) (br_f qe_n10 ⟨vi, br_t (qy_A1 rA h4 z) ⟨rfl, rel⟩⟩)
theorem i_vc_up {k : Nat} {u : SX} {v : SY} (I : i_Rel k u v) (hk : k + 5 ≤ 2561) (v1 : Int32) : wpX_up (fun r u' => wpY_up (fun r' v' => r' = r ∧ i_Rel (k + 5) u' v') v v1) u v1 := by
  obtain ⟨kh, dn, s, f, H, hl, hG, ⟨n1, n2, n3, n4, n5, rfl, hH⟩, RY⟩ := I
  obtain ⟨hg, hd, yk, ys, yv, al, m1, m2, m3, m4, m5⟩ := v
  have RX : qx_R kh dn s f H (kh, nI H.length, dn, qx_K s, qx_T s, qx_V s, qx_K f, qx_T f, qx_V f, n1, n2, n3, n4, n5) := ⟨n1, n2, n3, n4, n5, rfl, hH⟩
  have rel : i_Rel (k + 5) (kh, nI H.length, dn, qx_K s, qx_T s, qx_V s, qx_K f, qx_T f, qx_V f, n1, n2, n3, n4, n5) (hg, hd, yk, ys, yv, al, m1, m2, m3, m4, m5) := ⟨kh, dn, s, f, H, hl, hG, RX, RY⟩
  obtain ⟨r1, r2, rE, rA, rH⟩ := RY
  unfold wpX_up wpY_up
  dsimp only
  rcases qa_rng v1 (n := 4) (by decide) with c | ⟨n, h4, rfl⟩
  · exact qx_nd0 _ c (br_t rfl (qy_am0 _ c (br_t rfl ⟨rfl, rel⟩)))
  · have vi : vp_in (nI n) 4 := vp_in_nI h4 (by omega)
    have cn : (nI n).toNatClampNeg = n := nI_clamp (by omega)
    have hkp := qh_kpl n H
    rw [cn, qv_b1, qv_b0]
    refine qx_nd1 _ h4 (br_f qe_n10 ⟨vi, br_c (fun z => ?_) (fun z => ⟨vi, nm_e ?_⟩)⟩)
    · exact qy_am1 (N := 4) _ h4 (by decide) (br_f qe_n10 ⟨vi, br_f (qy_A0 rA h4 z) ⟨rfl, rel⟩⟩)
    · refine qx_dl (dn := upd dn n 0) _ h4 hl hG ⟨n1, n2, n3, n4, n5, rfl, hH⟩ (fun u' R' => ?_)
      obtain ⟨a1, a2, a3, a4, a5, rfl, hA⟩ := R'
      refine qy_am1 (N := 4) _ h4 (by decide) (br_f qe_n10 ⟨vi, br_t (qy_A1 rA h4 z) ⟨vi, nm_e ⟨H.length + 1, ?_⟩⟩⟩)
      have RY' : qy_R kh (upd dn n 0) s f ([] ++ H) (hg, hd, yk, ys, yv, upd al n 1, m1, m2, m3, m4, m5) := ⟨r1, r2, rE, qy_Au rA n, rH⟩
      refine qy_dlL (kh := kh) (dn := upd dn n 0) (f := f) _ h4 H [] 0 s hg hd yk ys yv (upd al n 1) m1 m2 m3 m4 m5 (by omega) (by show 0 + H.length ≤ 12; omega) hG RY' (fun v' I' => ?_)
      refine ⟨?_, kh, upd dn n 0, _, f, _, Nat.le_trans hkp hl, qh_kpG hG, ⟨a1, a2, a3, a4, a5, rfl, hA⟩, I'⟩
      rw [Nat.zero_add, pk_sub hkp]
theorem i_vc_crash {k : Nat} {u : SX} {v : SY} (I : i_Rel k u v) (hk : k + 5 ≤ 2561) (v1 : Int32) : wpX_crash (fun r u' => wpY_crash (fun r' v' => r' = r ∧ i_Rel (k + 5) u' v') v v1) u v1 := by
  obtain ⟨kh, dn, s, f, H, hl, hG, ⟨n1, n2, n3, n4, n5, rfl, hH⟩, RY⟩ := I
  obtain ⟨hg, hd, yk, ys, yv, al, m1, m2, m3, m4, m5⟩ := v
  have RX : qx_R kh dn s f H (kh, nI H.length, dn, qx_K s, qx_T s, qx_V s, qx_K f, qx_T f, qx_V f, n1, n2, n3, n4, n5) := ⟨n1, n2, n3, n4, n5, rfl, hH⟩
  have rel : i_Rel (k + 5) (kh, nI H.length, dn, qx_K s, qx_T s, qx_V s, qx_K f, qx_T f, qx_V f, n1, n2, n3, n4, n5) (hg, hd, yk, ys, yv, al, m1, m2, m3, m4, m5) := ⟨kh, dn, s, f, H, hl, hG, RX, RY⟩
  obtain ⟨r1, r2, rE, rA, rH⟩ := RY
  unfold wpX_crash wpY_crash
  dsimp only
  rcases qa_rng v1 (n := 4) (by decide) with c | ⟨n, h4, rfl⟩
  · exact qx_nd0 _ c (br_t rfl (qy_am0 _ c (br_t rfl ⟨rfl, rel⟩)))
  · have vi : vp_in (nI n) 4 := vp_in_nI h4 (by omega)
    have cn : (nI n).toNatClampNeg = n := nI_clamp (by omega)
    rw [cn, qv_b1, qv_b0]
    refine qx_nd1 _ h4 (br_f qe_n10 (qx_rf _ h4 ⟨vi, nm_e (qx_cn _ h4 ?_)⟩))
    refine qy_am1 (N := 4) _ h4 (by decide) (br_f qe_n10 ⟨vi, nm_e ?_⟩)
    have RY' : qy_R kh (upd dn n 1) s f H (hg, hd, yk, ys, yv, upd al n 0, m1, m2, m3, m4, m5) := ⟨r1, r2, rE, qy_Ad rA n, rH⟩
    refine qy_cr _ h4 RY' (fun v' I' => ?_)
    have R2 : i_Rel (k + 5) (kh, nI H.length, upd dn n 1, qx_K (qk_cp n f s), qx_T (qk_cp n f s), qx_V (qk_cp n f s), qx_K f, qx_T f, qx_V f, n1, n2, n3, n4, n5) v' := ⟨kh, upd dn n 1, _, f, H, hl, hG, ⟨n1, n2, n3, n4, n5, rfl, hH⟩, I'⟩
    obtain ⟨bg, bd, b1, b2, b3, b4, b5, b6, b7, b8, b9⟩ := v'
    exact qy_cn _ h4 I' ⟨rfl, R2⟩
theorem i_vc_flush {k : Nat} {u : SX} {v : SY} (I : i_Rel k u v) (hk : k + 5 ≤ 2561) (v1 : Int32) : wpX_flush (fun r u' => wpY_flush (fun r' v' => r' = r ∧ i_Rel (k + 5) u' v') v v1) u v1 := by
  obtain ⟨kh, dn, s, f, H, hl, hG, ⟨n1, n2, n3, n4, n5, rfl, hH⟩, RY⟩ := I
  have RX : qx_R kh dn s f H (kh, nI H.length, dn, qx_K s, qx_T s, qx_V s, qx_K f, qx_T f, qx_V f, n1, n2, n3, n4, n5) := ⟨n1, n2, n3, n4, n5, rfl, hH⟩
  have rel : i_Rel (k + 5) (kh, nI H.length, dn, qx_K s, qx_T s, qx_V s, qx_K f, qx_T f, qx_V f, n1, n2, n3, n4, n5) v := ⟨kh, dn, s, f, H, hl, hG, RX, RY⟩
  unfold wpX_flush
  dsimp only
  rcases qa_rng v1 (n := 4) (by decide) with c | ⟨n, h4, rfl⟩
  · refine qx_nd0 _ c (br_t rfl ?_)
    obtain ⟨hg, hd, yk, ys, yv, al, m1, m2, m3, m4, m5⟩ := v
    unfold wpY_flush
    dsimp only
    exact qy_am0 _ c (br_t rfl ⟨rfl, rel⟩)
  · have vi : vp_in (nI n) 4 := vp_in_nI h4 (by omega)
    have cn : (nI n).toNatClampNeg = n := nI_clamp (by omega)
    rw [cn]
    refine qx_nd1 _ h4 (br_f qe_n10 ⟨vi, br_c (fun z => qx_kf _ h4 (qx_cn _ h4 ?_)) (fun z => ?_)⟩)
    · exact qy_flush _ h4 z RY (fun v' I' => ⟨rfl, kh, dn, s, _, H, hl, hG, ⟨n1, n2, n3, n4, n5, rfl, hH⟩, I'⟩)
    · obtain ⟨hg, hd, yk, ys, yv, al, m1, m2, m3, m4, m5⟩ := v
      obtain ⟨r1, r2, rE, rA, rH⟩ := RY
      unfold wpY_flush
      dsimp only
      rw [cn]
      exact qy_am1 (N := 4) _ h4 (by decide) (br_f qe_n10 ⟨vi, br_t (qy_A1 rA h4 z) ⟨rfl, rel⟩⟩)
theorem i_vc_compact {k : Nat} {u : SX} {v : SY} (I : i_Rel k u v) (hk : k + 5 ≤ 2561) (v1 : Int32) (v2 : Int32) : wpX_compact (fun r u' => wpY_compact (fun r' v' => r' = r ∧ i_Rel (k + 5) u' v') v v1 v2) u v1 v2 := by
  obtain ⟨kh, dn, s, f, H, hl, hG, ⟨n1, n2, n3, n4, n5, rfl, hH⟩, RY⟩ := I
  obtain ⟨hg, hd, yk, ys, yv, al, m1, m2, m3, m4, m5⟩ := v
  have RX : qx_R kh dn s f H (kh, nI H.length, dn, qx_K s, qx_T s, qx_V s, qx_K f, qx_T f, qx_V f, n1, n2, n3, n4, n5) := ⟨n1, n2, n3, n4, n5, rfl, hH⟩
  have rel : i_Rel (k + 5) (kh, nI H.length, dn, qx_K s, qx_T s, qx_V s, qx_K f, qx_T f, qx_V f, n1, n2, n3, n4, n5) (hg, hd, yk, ys, yv, al, m1, m2, m3, m4, m5) := ⟨kh, dn, s, f, H, hl, hG, RX, RY⟩
  obtain ⟨r1, r2, rE, rA, rH⟩ := RY
  unfold wpX_compact wpY_compact
  dsimp only
  rcases qa_rng v1 (n := 4) (by decide) with c | ⟨n, h4, rfl⟩
  · exact qx_nd0 _ c (br_t rfl (qy_am0 _ c (br_t rfl ⟨rfl, rel⟩)))
  · have vi : vp_in (nI n) 4 := vp_in_nI h4 (by omega)
    have cn : (nI n).toNatClampNeg = n := nI_clamp (by omega)
    rw [cn]
    refine qx_nd1 _ h4 (br_f qe_n10 ⟨vi, br_c (fun z => ?_) (fun z => ?_)⟩)
    · refine qx_dh _ h4 (qx_dd (s := qk_1 n s) _ h4 (qx_dw (s := qk_2 n v2 s) _ h4 (qx_kf (s := qk_3 n v2 s) _ h4 (qx_cn (s := qk_3 n v2 s) _ h4 ?_))))
      refine qy_am1 (N := 4) _ h4 (by decide) (br_f qe_n10 ⟨vi, br_f (qy_A0 rA h4 z) ⟨65, ?_⟩⟩)
      refine qy_cpL (s := s) (f := f) _ h4 (fun yk ys yv E => ⟨9, ?_⟩) 64 0 rfl yk ys yv (by rw [qk_00]; exact rE)
      refine qy_cwL (s := qk_2 n v2 s) (f := f) _ h4 (fun yk ys yv E => ?_) 8 64 (Nat.le_refl 64) rfl yk ys yv (by rw [qk_0]; exact E)
      have RY' : qy_R kh dn (qk_3 n v2 s) f H (hg, hd, yk, ys, yv, al, m1, m2, m3, m4, m5) := ⟨r1, r2, E, rA, rH⟩
      exact qy_flush _ h4 z RY' (fun v' I' => ⟨rfl, kh, dn, _, _, H, hl, hG, ⟨n1, n2, n3, n4, n5, rfl, hH⟩, I'⟩)
    · exact qy_am1 (N := 4) _ h4 (by decide) (br_f qe_n10 ⟨vi, br_t (qy_A1 rA h4 z) ⟨rfl, rel⟩⟩)
theorem i_vc_repair {k : Nat} {u : SX} {v : SY} (I : i_Rel k u v) (hk : k + 5 ≤ 2561) (v1 : Int32) (v2 : Int32) : wpX_repair (fun r u' => wpY_repair (fun r' v' => r' = r ∧ i_Rel (k + 5) u' v') v v1 v2) u v1 v2 := by
  obtain ⟨kh, dn, s, f, H, hl, hG, ⟨n1, n2, n3, n4, n5, rfl, hH⟩, RY⟩ := I
  obtain ⟨hg, hd, yk, ys, yv, al, m1, m2, m3, m4, m5⟩ := v
  have RX : qx_R kh dn s f H (kh, nI H.length, dn, qx_K s, qx_T s, qx_V s, qx_K f, qx_T f, qx_V f, n1, n2, n3, n4, n5) := ⟨n1, n2, n3, n4, n5, rfl, hH⟩
  have rel : i_Rel (k + 5) (kh, nI H.length, dn, qx_K s, qx_T s, qx_V s, qx_K f, qx_T f, qx_V f, n1, n2, n3, n4, n5) (hg, hd, yk, ys, yv, al, m1, m2, m3, m4, m5) := ⟨kh, dn, s, f, H, hl, hG, RX, RY⟩
  have rA : qy_A dn al := RY.2.2.2.1
  unfold wpX_repair wpY_repair
  dsimp only
  rcases qa_rng v1 (n := 4) (by decide) with c | ⟨a, ha, rfl⟩
  · exact qx_nd0 _ c (br_t rfl (qy_am0 _ c (br_t rfl ⟨rfl, rel⟩)))
  · have va : vp_in (nI a) 4 := vp_in_nI ha (by omega)
    have ca : (nI a).toNatClampNeg = a := nI_clamp (by omega)
    rcases qa_rng v2 (n := 4) (by decide) with c | ⟨b, hb, rfl⟩
    · exact qx_nd1 _ ha (br_f qe_n10 (qx_nd0 _ c (br_t rfl (qy_am1 (N := 4) _ ha (by decide) (br_f qe_n10 (qy_am0 _ c (br_t rfl ⟨rfl, rel⟩)))))))
    · have vb : vp_in (nI b) 4 := vp_in_nI hb (by omega)
      have cb : (nI b).toNatClampNeg = b := nI_clamp (by omega)
      rw [ca, cb]
      refine qx_nd1 _ ha (br_f qe_n10 (qx_nd1 _ hb (br_f qe_n10 ?_)))
      refine pk_eq a b (fun z => ?_) (fun z => ⟨va, br_c (fun y => ⟨vb, br_c (fun x => ⟨73, ?_⟩) (fun x => ?_)⟩) (fun y => ?_)⟩)
      · exact qy_am1 (N := 4) _ ha (by decide) (br_f qe_n10 (qy_am1 (N := 4) _ hb (by decide) (br_f qe_n10 (pk_eq a b (fun _ => ⟨rfl, rel⟩) (fun w => absurd z w)))))
      · refine qx_rpL _ ha hb z ?_ 72 0 rfl
        refine qy_am1 (N := 4) _ ha (by decide) (br_f qe_n10 (qy_am1 (N := 4) _ hb (by decide) (br_f qe_n10 (pk_eq a b (fun w => absurd w z) (fun _ => ⟨va, br_f (qy_A0 rA ha y) ⟨vb, br_f (qy_A0 rA hb x) ⟨73, ?_⟩⟩⟩)))))
        exact qy_rpL _ ha hb z (fun v' I' => ⟨rfl, kh, dn, _, f, H, hl, hG, ⟨n1, n2, n3, n4, n5, rfl, hH⟩, I'⟩) 72 0 rfl _ _ _ _ _ _ _ _ _ _ _ RY
      · exact qy_am1 (N := 4) _ ha (by decide) (br_f qe_n10 (qy_am1 (N := 4) _ hb (by decide) (br_f qe_n10 (pk_eq a b (fun w => absurd w z) (fun _ => ⟨va, br_f (qy_A0 rA ha y) ⟨vb, br_t (qy_A1 rA hb x) ⟨rfl, rel⟩⟩⟩)))))
      · exact qy_am1 (N := 4) _ ha (by decide) (br_f qe_n10 (qy_am1 (N := 4) _ hb (by decide) (br_f qe_n10 (pk_eq a b (fun w => absurd w z) (fun _ => ⟨va, br_t (qy_A1 rA ha y) ⟨rfl, rel⟩⟩)))))
theorem i_vc_isUp {k : Nat} {u : SX} {v : SY} (I : i_Rel k u v) (hk : k + 5 ≤ 2561) (v1 : Int32) : wpX_isUp (fun r => wpY_isUp (fun r' => r' = r ∧ i_Rel (k + 5) u v) v v1) u v1 := by
  have rel : i_Rel (k + 5) u v := I
  obtain ⟨kh, dn, s, f, H, hl, hG, ⟨n1, n2, n3, n4, n5, rfl, hH⟩, RY⟩ := I
  obtain ⟨hg, hd, yk, ys, yv, al, m1, m2, m3, m4, m5⟩ := v
  have rA : qy_A dn al := RY.2.2.2.1
  unfold wpX_isUp wpY_isUp
  dsimp only
  rcases qa_rng v1 (n := 4) (by decide) with c | ⟨n, h4, rfl⟩
  · exact qx_nd0 _ c (br_t rfl (qy_am0 _ c (br_t rfl ⟨rfl, rel⟩)))
  · have vi : vp_in (nI n) 4 := vp_in_nI h4 (by omega)
    have cn : (nI n).toNatClampNeg = n := nI_clamp (by omega)
    rw [cn]
    refine qx_nd1 _ h4 (br_f qe_n10 ⟨vi, br_c (fun z => ?_) (fun z => ?_)⟩)
    · exact qy_am1 (N := 4) _ h4 (by decide) (br_f qe_n10 ⟨vi, br_f (qy_A0 rA h4 z) ⟨rfl, rel⟩⟩)
    · exact qy_am1 (N := 4) _ h4 (by decide) (br_f qe_n10 ⟨vi, br_t (qy_A1 rA h4 z) ⟨rfl, rel⟩⟩)
theorem i_vc_local {k : Nat} {u : SX} {v : SY} (I : i_Rel k u v) (hk : k + 5 ≤ 2561) (v1 : Int32) (v2 : Int32) : wpX_local (fun r => wpY_local (fun r' => r' = r ∧ i_Rel (k + 5) u v) v v1 v2) u v1 v2 := by
  have rel : i_Rel (k + 5) u v := I
  obtain ⟨kh, dn, s, f, H, hl, hG, ⟨n1, n2, n3, n4, n5, rfl, hH⟩, RY⟩ := I
  obtain ⟨hg, hd, yk, ys, yv, al, m1, m2, m3, m4, m5⟩ := v
  have rE : qy_E s f yk ys yv := RY.2.2.1
  unfold wpX_local wpY_local
  dsimp only
  rcases qa_rng v1 (n := 4) (by decide) with c | ⟨n, h4, rfl⟩
  · exact qx_nd0 _ c (br_t rfl (qy_am0 _ c (br_t rfl ⟨rfl, rel⟩)))
  · rcases qa_rng v2 (n := 64) (by decide) with c | ⟨j, hj, rfl⟩
    · exact qx_nd1 _ h4 (br_f qe_n10 (qx_pl0 _ c (br_t rfl (qy_am1 (N := 4) _ h4 (by decide) (br_f qe_n10 (qy_am0 _ c (br_t rfl ⟨rfl, rel⟩)))))))
    · refine qx_nd1 _ h4 (br_f qe_n10 (qx_pl1 _ hj (br_f qe_n10 (qx_lv _ h4 hj ?_))))
      refine qy_am1 (N := 4) _ h4 (by decide) (br_f qe_n10 (qy_am1 (N := 64) _ hj (by decide) (br_f qe_n10 (nm_r (qa_ix n j) ⟨qa_n8, ?_⟩))))
      rw [qa_w n j hj]
      have ve : vp_in (nI (n * 72 + j)) 576 := vp_in_nI (by omega) (by omega)
      have ce : (nI (n * 72 + j)).toNatClampNeg = n * 72 + j := nI_clamp (by omega)
      have vw : vp_in (nI (n * 72 + 64 + j / 8)) 576 := vp_in_nI (by omega) (by omega)
      have cw : (nI (n * 72 + 64 + j / 8)).toNatClampNeg = n * 72 + 64 + j / 8 := nI_clamp (by omega)
      have he := rE.1 (n * 72 + j) (by omega)
      have hw := rE.1 (n * 72 + 64 + j / 8) (by omega)
      have wm : ¬ (n * 72 + 64 + j / 8) % 72 < 64 := by omega
      unfold wpY_live
      dsimp only
      rw [ce, cw]
      refine ⟨ve, fun z => ⟨vw, fun y => br_f qe_n10 ⟨ve, ?_, rel⟩, fun y => ⟨vw, ve, fun x => br_t rfl ⟨?_, rel⟩, fun x => br_f qe_n10 ⟨ve, ?_, rel⟩⟩⟩, fun z => br_t rfl ⟨?_, rel⟩⟩
      · have k0 : ¬ yk (n * 72 + j) = 0 := by rw [z]; exact qe_n10
        rw [qr_lvt ((qe_er1 he).mp z) (fun q => absurd (((qe_er0 hw).mp y).symm.trans q.1) (by decide)), (qe_erst he k0).2]
      · have k0 : ¬ yk (n * 72 + j) = 0 := by rw [z]; exact qe_n10
        rw [qr_lvf]
        intro q
        refine q.2 ⟨?_, ?_⟩
        · rcases hw with p | p | p | p
          · exact absurd p.2 y
          · exact absurd p.1 wm
          · exact absurd p.1 wm
          · rw [p.2.1]
        · rw [← (qe_erst he k0).1, ← (qe_erst hw y).1]; exact x
      · have k0 : ¬ yk (n * 72 + j) = 0 := by rw [z]; exact qe_n10
        rw [qr_lvt ((qe_er1 he).mp z) (fun q => ?_), (qe_erst he k0).2]
        have q2 := q.2
        rw [← (qe_erst he k0).1, ← (qe_erst hw y).1] at q2
        exact x q2
      · rw [qr_lvf (fun q => z ((qe_er1 he).mpr q.1))]
theorem qy_ss (post : Int64 → Prop) {kh : Int32} {dn : Nat → Int32} {s f : Nat → qe_E} {H : List qh_H} {V : SY} (I : qy_R kh dn s f H V) {i : Nat} (hi : i < 288) (g : post (qk_ss (s i))) : wpY_stampAt post V (nI i) := by
  obtain ⟨hg, hd, yk, ys, yv, al, m1, m2, m3, m4, m5⟩ := V
  have rE : qy_E s f yk ys yv := I.2.2.1
  have he := rE.1 i hi
  have ve : vp_in (nI i) 576 := vp_in_nI (by omega) (by omega)
  have ce : (nI i).toNatClampNeg = i := nI_clamp (by omega)
  unfold wpY_stampAt
  dsimp only
  rw [ce]
  refine ⟨ve, fun z => ?_, fun z => ⟨ve, ?_⟩⟩
  · rw [qk_sst ((qe_er0 he).mp z)] at g
    exact g
  · rw [qk_ssf (fun y => z ((qe_er0 he).mpr y)), ← (qe_erst he z).1] at g
    exact g
theorem i_vc_stamp {k : Nat} {u : SX} {v : SY} (I : i_Rel k u v) (hk : k + 5 ≤ 2561) (v1 : Int32) (v2 : Int32) : wpX_stamp (fun r => wpY_stamp (fun r' => r' = r ∧ i_Rel (k + 5) u v) v v1 v2) u v1 v2 := by
  have rel : i_Rel (k + 5) u v := I
  obtain ⟨kh, dn, s, f, H, hl, hG, ⟨n1, n2, n3, n4, n5, rfl, hH⟩, RY⟩ := I
  obtain ⟨hg, hd, yk, ys, yv, al, m1, m2, m3, m4, m5⟩ := v
  unfold wpX_stamp wpY_stamp
  dsimp only
  rcases qa_rng v1 (n := 4) (by decide) with c | ⟨n, h4, rfl⟩
  · exact qx_nd0 _ c (br_t rfl (qy_am0 _ c (br_t rfl ⟨rfl, rel⟩)))
  · rcases qa_rng v2 (n := 64) (by decide) with c | ⟨j, hj, rfl⟩
    · exact qx_nd1 _ h4 (br_f qe_n10 (qx_pl0 _ c (br_t rfl (qy_am1 (N := 4) _ h4 (by decide) (br_f qe_n10 (qy_am0 _ c (br_t rfl ⟨rfl, rel⟩)))))))
    · refine qx_nd1 _ h4 (br_f qe_n10 (qx_pl1 _ hj (br_f qe_n10 (qx_ss _ h4 (by omega) ?_))))
      refine qy_am1 (N := 4) _ h4 (by decide) (br_f qe_n10 (qy_am1 (N := 64) _ hj (by decide) (br_f qe_n10 ?_)))
      rw [qa_ix]
      exact qy_ss _ RY (by omega) ⟨rfl, rel⟩
theorem i_vc_wiped {k : Nat} {u : SX} {v : SY} (I : i_Rel k u v) (hk : k + 5 ≤ 2561) (v1 : Int32) (v2 : Int32) : wpX_wiped (fun r => wpY_wiped (fun r' => r' = r ∧ i_Rel (k + 5) u v) v v1 v2) u v1 v2 := by
  have rel : i_Rel (k + 5) u v := I
  obtain ⟨kh, dn, s, f, H, hl, hG, ⟨n1, n2, n3, n4, n5, rfl, hH⟩, RY⟩ := I
  obtain ⟨hg, hd, yk, ys, yv, al, m1, m2, m3, m4, m5⟩ := v
  unfold wpX_wiped wpY_wiped
  dsimp only
  rcases qa_rng v1 (n := 4) (by decide) with c | ⟨n, h4, rfl⟩
  · exact qx_nd0 _ c (br_t rfl (qy_am0 _ c (br_t rfl ⟨rfl, rel⟩)))
  · rcases qa_rng v2 (n := 8) (by decide) with c | ⟨j, hj, rfl⟩
    · exact qx_nd1 _ h4 (br_f qe_n10 (qx_pa0 _ c (br_t rfl (qy_am1 (N := 4) _ h4 (by decide) (br_f qe_n10 (qy_am0 _ c (br_t rfl ⟨rfl, rel⟩)))))))
    · have e : nI n * 72 + 64 + nI j = nI (n * 72 + (64 + j)) := by
        rw [show (72 : Int32) = nI 72 from rfl, show (64 : Int32) = nI 64 from rfl, pk_mul, nI_add, nI_add, Nat.add_assoc]
      rw [qa_64, e]
      refine qx_nd1 _ h4 (br_f qe_n10 (qx_pa1 _ hj (br_f qe_n10 (qx_ss _ h4 (by omega) ?_))))
      refine qy_am1 (N := 4) _ h4 (by decide) (br_f qe_n10 (qy_am1 (N := 8) _ hj (by decide) (br_f qe_n10 ?_)))
      exact qy_ss _ RY (by omega) ⟨rfl, rel⟩
theorem i_vc_hints {k : Nat} {u : SX} {v : SY} (I : i_Rel k u v) (hk : k + 5 ≤ 2561) : wpX_hints (fun r => wpY_hints (fun r' => r' = r ∧ i_Rel (k + 5) u v) v) u := by
  have rel : i_Rel (k + 5) u v := I
  obtain ⟨kh, dn, s, f, H, hl, hG, ⟨n1, n2, n3, n4, n5, rfl, hH⟩, RY⟩ := I
  obtain ⟨hg, hd, yk, ys, yv, al, m1, m2, m3, m4, m5⟩ := v
  exact ⟨RY.2.1, rel⟩
end
end
