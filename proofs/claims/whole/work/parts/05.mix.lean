/-! slots in a range: pure -/
def qk_mix (lo hi : Nat) (F G : Nat → qe_E) : Nat → qe_E := fun j => if lo ≤ j ∧ j < hi then F j else G j
theorem qk_i {lo hi j : Nat} {F G : Nat → qe_E} (h : lo ≤ j) (k : j < hi) : qk_mix lo hi F G j = F j := if_pos ⟨h, k⟩
theorem qk_o {lo hi j : Nat} {F G : Nat → qe_E} (h : ¬ (lo ≤ j ∧ j < hi)) : qk_mix lo hi F G j = G j := if_neg h
theorem qk_0 {lo : Nat} {F G : Nat → qe_E} : qk_mix lo lo F G = G := by
  funext j; exact qk_o (by omega)
theorem qk_s {lo k : Nat} {F G : Nat → qe_E} (h : lo ≤ k) {e : qe_E} (he : e = F k) : qe_up (qk_mix lo k F G) k e = qk_mix lo (k + 1) F G := by
  subst he
  funext j
  by_cases c : j = k
  · subst c; rw [qe_us, qk_i h (by omega)]
  · rw [qe_un c]
    by_cases d : lo ≤ j ∧ j < k
    · rw [qk_i d.1 d.2, qk_i d.1 (by omega)]
    · rw [qk_o d, qk_o (by omega)]
theorem qk_st {lo k : Nat} {F G : Nat → qe_E} (h : lo ≤ k) (he : G k = F k) : qk_mix lo k F G = qk_mix lo (k + 1) F G := by
  rw [← qk_s h rfl, ← he]
  have : qk_mix lo k F G k = G k := qk_o (by omega)
  rw [← this]
  exact qe_uself.symm
theorem qk_F {lo hi : Nat} {F G : Nat → qe_E} (h : ∀ j, ¬ (lo ≤ j ∧ j < hi) → F j = G j) : qk_mix lo hi F G = F := by
  funext j
  by_cases d : lo ≤ j ∧ j < hi
  · exact qk_i d.1 d.2
  · rw [qk_o d, h j d]
theorem qk_G {lo hi : Nat} {F G : Nat → qe_E} (hF : qe_G F) (hG : qe_G G) : qe_G (qk_mix lo hi F G) := by
  intro j hj
  unfold qk_mix; split
  · exact hF j hj
  · exact hG j hj
/-- how many of the first k places of node n hold an entry -/
def qk_cn (s : Nat → qe_E) (n : Nat) : Nat → Nat
  | 0 => 0
  | k + 1 => if (s (n * 72 + k)).1 = 0 then qk_cn s n k else qk_cn s n k + 1
theorem qk_cnl (s : Nat → qe_E) (n k : Nat) : qk_cn s n k ≤ k := by
  induction k with
  | zero => exact Nat.le_refl 0
  | succ k ih => unfold qk_cn; split <;> omega
/-- compaction: what is hidden, dead and old, wiped and old -/
abbrev qk_hd (s : Nat → qe_E) (n pl : Nat) : Prop := (s (n * 72 + 64 + pl / 8)).1 = 3 ∧ (s (n * 72 + pl)).2.1 ≤ (s (n * 72 + 64 + pl / 8)).2.1
def qk_fh (n : Nat) (s : Nat → qe_E) : Nat → qe_E := fun j => if qk_hd s n (j - n * 72) then qe_z else s j
def qk_fd (b : Int32) (s : Nat → qe_E) : Nat → qe_E := fun j => if (s j).1 = 2 ∧ (s j).2.1 < b then qe_z else s j
def qk_fw (b : Int32) (s : Nat → qe_E) : Nat → qe_E := fun j => if (s j).1 = 3 ∧ (s j).2.1 < b then qe_z else s j
def qk_1 (n : Nat) (s : Nat → qe_E) : Nat → qe_E := qk_mix (n * 72) (n * 72 + 64) (qk_fh n s) s
def qk_2 (n : Nat) (b : Int32) (s : Nat → qe_E) : Nat → qe_E := qk_mix (n * 72) (n * 72 + 64) (qk_fd b (qk_1 n s)) (qk_1 n s)
def qk_3 (n : Nat) (b : Int32) (s : Nat → qe_E) : Nat → qe_E := qk_mix (n * 72 + 64) (n * 72 + 72) (qk_fw b (qk_2 n b s)) (qk_2 n b s)
abbrev qk_cp (n : Nat) (s f : Nat → qe_E) : Nat → qe_E := qk_mix (n * 72) (n * 72 + 72) s f
/-- the slot's partition; the two nodes both keep it -/
abbrev qp_pt (sl : Nat) : Nat := if sl < 64 then sl / 8 else sl - 64
abbrev qp_bo (a b sl : Nat) : Prop := (qp_pt sl + 3) % 4 ≠ a ∧ (qp_pt sl + 3) % 4 ≠ b
def qp_st (a b sl : Nat) (S : (Nat → qe_E) × Nat) : (Nat → qe_E) × Nat :=
  if qe_nw (S.1 (a * 72 + sl)) (S.1 (b * 72 + sl)) then (qe_up S.1 (b * 72 + sl) (S.1 (a * 72 + sl)), S.2 + 1)
  else if qe_nw (S.1 (b * 72 + sl)) (S.1 (a * 72 + sl)) then (qe_up S.1 (a * 72 + sl) (S.1 (b * 72 + sl)), S.2 + 1)
  else S
def qp_al (a b : Nat) (s : Nat → qe_E) : Nat → (Nat → qe_E) × Nat
  | 0 => (s, 0)
  | k + 1 => if qp_bo a b k then qp_st a b k (qp_al a b s k) else qp_al a b s k
theorem qp_le (a b : Nat) (s : Nat → qe_E) (k : Nat) : (qp_al a b s k).2 ≤ k := by
  induction k with
  | zero => exact Nat.le_refl 0
  | succ k ih =>
    unfold qp_al qp_st
    split
    · split
      · show (qp_al a b s k).2 + 1 ≤ k + 1; omega
      · split
        · show (qp_al a b s k).2 + 1 ≤ k + 1; omega
        · omega
    · omega
/-- the sum of a partition's cells, by reads one after another -/
def qr_sm (dn : Nat → Int32) (L p : Nat) (s : Nat → qe_E) : Nat → (Nat → qe_E) × Int64
  | 0 => (s, 0)
  | c + 1 => (qr_rd dn L (p * 8 + c) (qr_sm dn L p s c).1,
      if qr_av dn L (p * 8 + c) (qr_sm dn L p s c).1 = 1000000000000 then (qr_sm dn L p s c).2 else (qr_sm dn L p s c).2 + qr_av dn L (p * 8 + c) (qr_sm dn L p s c).1)
