/-! who is asked in a read, the newest of the asked, and the sharing of it: pure -/
abbrev qr_nd (p r : Nat) : Nat := (p + r) % 4
abbrev qr_ix (p sl r : Nat) : Nat := (p + r) % 4 * 72 + sl
theorem qr_ixne {p sl r q : Nat} (hr : r < 3) (hq : q < 3) (h : r ≠ q) : qr_ix p sl r ≠ qr_ix p sl q := by
  unfold qr_ix; omega
theorem qr_ixlt {p sl r : Nat} (h : sl < 72) : qr_ix p sl r < 288 := by
  unfold qr_ix; omega
theorem qr_ixp {p sl r : Nat} (h : sl < 72) : qr_ix p sl r % 72 = sl := by
  unfold qr_ix; omega
/-- how many replicas are up below rank r -/
def qr_ct (dn : Nat → Int32) (p : Nat) : Nat → Nat
  | 0 => 0
  | r + 1 => if dn (qr_nd p r) = 0 then qr_ct dn p r + 1 else qr_ct dn p r
/-- how many are asked below rank r -/
def qr_ac (dn : Nat → Int32) (p L : Nat) : Nat → Nat
  | 0 => 0
  | r + 1 => if dn (qr_nd p r) = 0 ∧ qr_ac dn p L r < L then qr_ac dn p L r + 1 else qr_ac dn p L r
abbrev qr_A (dn : Nat → Int32) (p L r : Nat) : Prop := dn (qr_nd p r) = 0 ∧ qr_ac dn p L r < L
def qr_la (dn : Nat → Int32) (p L : Nat) : Nat → Nat
  | 0 => 0
  | r + 1 => if qr_A dn p L r then r else qr_la dn p L r
theorem qr_ctle (dn : Nat → Int32) (p r : Nat) : qr_ct dn p r ≤ r := by
  induction r with
  | zero => exact Nat.le_refl 0
  | succ r ih => unfold qr_ct; split <;> omega
theorem qr_acle (dn : Nat → Int32) (p L r : Nat) : qr_ac dn p L r ≤ r := by
  induction r with
  | zero => exact Nat.le_refl 0
  | succ r ih => unfold qr_ac; split <;> omega
theorem qr_lale (dn : Nat → Int32) (p L r : Nat) : qr_la dn p L r ≤ r := by
  induction r with
  | zero => exact Nat.le_refl 0
  | succ r ih => unfold qr_la; split <;> omega
/-- the asked are those that are up, up to the last asked -/
theorem qr_last {dn : Nat → Int32} {p L : Nat} (h1 : 1 ≤ L) (hL : L ≤ qr_ct dn p 3) :
    qr_la dn p L 3 < 3 ∧ qr_A dn p L (qr_la dn p L 3) ∧ ∀ r, r < 3 → (qr_A dn p L r ↔ (dn (qr_nd p r) = 0 ∧ r ≤ qr_la dn p L 3)) := by
  have hc := qr_ctle dn p 3
  have hL3 : L = 1 ∨ L = 2 ∨ L = 3 := by omega
  by_cases k0 : dn (qr_nd p 0) = 0 <;> by_cases k1 : dn (qr_nd p 1) = 0 <;> by_cases k2 : dn (qr_nd p 2) = 0 <;>
    rcases hL3 with rfl | rfl | rfl <;>
    first
    | (exfalso; simp [qr_ct, k0, k1, k2] at hL; done)
    | (refine ⟨by simp [qr_la, qr_A, qr_ac, k0, k1, k2], by simp [qr_la, qr_A, qr_ac, k0, k1, k2], fun r hr => ?_⟩
       rcases (by omega : r = 0 ∨ r = 1 ∨ r = 2) with rfl | rfl | rfl <;> simp [qr_la, qr_A, qr_ac, k0, k1, k2])
/-- M is the newest of the asked below rank k (nothing, if they hold nothing) -/
def qr_IM (dn : Nat → Int32) (p L : Nat) (e : Nat → qe_E) (k : Nat) (M : qe_E) : Prop :=
  (∀ r, r < k → qr_A dn p L r → ¬ qe_nw (e r) M) ∧ (M = qe_z ∨ ∃ r, r < k ∧ qr_A dn p L r ∧ e r = M)
def qr_mx (dn : Nat → Int32) (p L : Nat) (e : Nat → qe_E) : Nat → qe_E
  | 0 => qe_z
  | r + 1 => if qr_A dn p L r then qe_jn (qr_mx dn p L e r) (e r) else qr_mx dn p L e r
theorem qr_IM0 {dn : Nat → Int32} {p L : Nat} {e : Nat → qe_E} : qr_IM dn p L e 0 qe_z := ⟨fun r h => absurd h (Nat.not_lt_zero r), Or.inl rfl⟩
theorem qr_IMn {dn : Nat → Int32} {p L : Nat} {e : Nat → qe_E} {k : Nat} {M : qe_E} (h : qr_IM dn p L e k M) (hA : ¬ qr_A dn p L k) : qr_IM dn p L e (k + 1) M := by
  refine ⟨fun r hr hB => ?_, ?_⟩
  · rcases Nat.lt_or_ge r k with c | c
    · exact h.1 r c hB
    · obtain rfl : r = k := by omega
      exact absurd hB hA
  · rcases h.2 with z | ⟨r, hr, hB, e1⟩
    · exact Or.inl z
    · exact Or.inr ⟨r, by omega, hB, e1⟩
/-- one more is asked: the join of it and of what was the newest, either way round -/
theorem qr_IMs {dn : Nat → Int32} {p L : Nat} {e : Nat → qe_E} {k : Nat} {M N : qe_E} (h : qr_IM dn p L e k M) (hA : qr_A dn p L k)
    (hN : (N = M ∧ ¬ qe_nw (e k) M) ∨ (N = e k ∧ ¬ qe_nw M (e k))) : qr_IM dn p L e (k + 1) N := by
  rcases hN with ⟨rfl, hn⟩ | ⟨rfl, hn⟩
  · refine ⟨fun r hr hB => ?_, ?_⟩
    · rcases Nat.lt_or_ge r k with c | c
      · exact h.1 r c hB
      · obtain rfl : r = k := by omega
        exact hn
    · rcases h.2 with z | ⟨r, hr, hB, e1⟩
      · exact Or.inl z
      · exact Or.inr ⟨r, by omega, hB, e1⟩
  · refine ⟨fun r hr hB => ?_, Or.inr ⟨k, by omega, hA, rfl⟩⟩
    rcases Nat.lt_or_ge r k with c | c
    · exact qe_ntr (h.1 r c hB) hn
    · obtain rfl : r = k := by omega
      exact qe_irr _
theorem qr_mxI (dn : Nat → Int32) (p L : Nat) (e : Nat → qe_E) (k : Nat) : qr_IM dn p L e k (qr_mx dn p L e k) := by
  induction k with
  | zero => exact qr_IM0
  | succ k ih =>
    unfold qr_mx
    split
    · next hA =>
      refine qr_IMs ih hA ?_
      by_cases h : qe_nw (e k) (qr_mx dn p L e k)
      · exact Or.inr ⟨qe_jt h, qe_asy h⟩
      · exact Or.inl ⟨qe_jf h, h⟩
    · next hA => exact qr_IMn ih hA
theorem qr_IMg {dn : Nat → Int32} {p L : Nat} {e : Nat → qe_E} {k : Nat} {M : qe_E} {P : Prop} (g : ∀ r, r < k → qe_gd P (e r)) (h : qr_IM dn p L e k M) : qe_gd P M := by
  rcases h.2 with rfl | ⟨r, hr, _, rfl⟩
  · exact Or.inl rfl
  · exact g r hr
theorem qr_IMu {dn : Nat → Int32} {p L : Nat} {e : Nat → qe_E} {k : Nat} {M N : qe_E} {P : Prop} (g : ∀ r, r < k → qe_gd P (e r)) (h : qr_IM dn p L e k M) (h' : qr_IM dn p L e k N) : M = N := by
  refine qe_geq (qr_IMg g h) (qr_IMg g h') ?_ ?_
  · rcases h.2 with rfl | ⟨r, hr, hA, rfl⟩
    · exact qe_nz _
    · exact h'.1 r hr hA
  · rcases h'.2 with rfl | ⟨r, hr, hA, rfl⟩
    · exact qe_nz _
    · exact h.1 r hr hA
/-- the asked below rank k hold M -/
def qr_sh (dn : Nat → Int32) (p L sl : Nat) (M : qe_E) (s : Nat → qe_E) : Nat → (Nat → qe_E)
  | 0 => s
  | r + 1 => if qr_A dn p L r then qe_up (qr_sh dn p L sl M s r) (qr_ix p sl r) M else qr_sh dn p L sl M s r
theorem qr_sht {dn : Nat → Int32} {p L sl : Nat} {M : qe_E} {s : Nat → qe_E} {r : Nat} (h : qr_A dn p L r) : qr_sh dn p L sl M s (r + 1) = qe_up (qr_sh dn p L sl M s r) (qr_ix p sl r) M := if_pos h
theorem qr_shf {dn : Nat → Int32} {p L sl : Nat} {M : qe_E} {s : Nat → qe_E} {r : Nat} (h : ¬ qr_A dn p L r) : qr_sh dn p L sl M s (r + 1) = qr_sh dn p L sl M s r := if_neg h
/-- a slot that is none of those of the asked below rank k stays -/
theorem qr_sho {dn : Nat → Int32} {p L sl : Nat} {M : qe_E} {s : Nat → qe_E} {j : Nat} : ∀ k, (∀ r, r < k → qr_A dn p L r → j ≠ qr_ix p sl r) → qr_sh dn p L sl M s k j = s j := by
  intro k
  induction k with
  | zero => intro _; rfl
  | succ k ih =>
    intro h
    by_cases hA : qr_A dn p L k
    · rw [qr_sht hA, qe_un (h k (by omega) hA)]
      exact ih (fun r hr => h r (by omega))
    · rw [qr_shf hA]
      exact ih (fun r hr => h r (by omega))
theorem qr_shi {dn : Nat → Int32} {p L sl : Nat} {M : qe_E} {s : Nat → qe_E} {q : Nat} : ∀ k, k ≤ 3 → q < k → qr_A dn p L q → qr_sh dn p L sl M s k (qr_ix p sl q) = M := by
  intro k
  induction k with
  | zero => intro _ h; exact absurd h (Nat.not_lt_zero q)
  | succ k ih =>
    intro hk hq hA
    by_cases e : q = k
    · subst e
      rw [qr_sht hA, qe_us]
    · have i := ih (by omega) (by omega) hA
      by_cases hB : qr_A dn p L k
      · rw [qr_sht hB, qe_un (qr_ixne (by omega) (by omega) e)]
        exact i
      · rw [qr_shf hB]
        exact i
/-- later ranks' slots are as they were -/
theorem qr_shl {dn : Nat → Int32} {p L sl : Nat} {M : qe_E} {s : Nat → qe_E} {k q : Nat} (hk : k ≤ q) (hq : q < 3) : qr_sh dn p L sl M s k (qr_ix p sl q) = s (qr_ix p sl q) :=
  qr_sho k (fun r hr _ => qr_ixne hq (by omega) (by omega))
/-- one round of a read over slot sl -/
def qr_one (dn : Nat → Int32) (p L sl : Nat) (s : Nat → qe_E) : Nat → qe_E := qr_sh dn p L sl (qr_mx dn p L (fun r => s (qr_ix p sl r)) 3) s 3
abbrev qr_M (dn : Nat → Int32) (p L sl : Nat) (s : Nat → qe_E) : qe_E := qr_mx dn p L (fun r => s (qr_ix p sl r)) 3
theorem qr_onei {dn : Nat → Int32} {p L sl : Nat} {s : Nat → qe_E} {q : Nat} (hq : q < 3) (hA : qr_A dn p L q) : qr_one dn p L sl s (qr_ix p sl q) = qr_M dn p L sl s := qr_shi 3 (by omega) hq hA
theorem qr_oneo {dn : Nat → Int32} {p L sl : Nat} {s : Nat → qe_E} {j : Nat} (h : j % 72 ≠ sl) (hs : sl < 72) : qr_one dn p L sl s j = s j :=
  qr_sho 3 (fun r _ _ e => h (by rw [e]; exact qr_ixp hs))
/-- entries are good: kinds 0 to 2 in places, 0 and 3 in wipes -/
def qe_G (s : Nat → qe_E) : Prop := ∀ j, j < 288 → qe_gd (j % 72 < 64) (s j)
theorem qe_Gup {s : Nat → qe_E} {i : Nat} {e : qe_E} (h : qe_G s) (he : qe_gd (i % 72 < 64) e) : qe_G (qe_up s i e) := by
  intro j hj
  unfold qe_up
  split
  · next z => rw [z]; exact he
  · exact h j hj
theorem qr_Gm {dn : Nat → Int32} {p L sl : Nat} {s : Nat → qe_E} (h : qe_G s) (hs : sl < 72) : qe_gd (sl < 64) (qr_M dn p L sl s) := by
  refine qr_IMg (fun r hr => ?_) (qr_mxI dn p L (fun r => s (qr_ix p sl r)) 3)
  have := h (qr_ix p sl r) (qr_ixlt hs)
  rw [qr_ixp hs] at this
  exact this
theorem qr_G1 {dn : Nat → Int32} {p L sl : Nat} {s : Nat → qe_E} (h : qe_G s) (hs : sl < 72) : qe_G (qr_one dn p L sl s) := by
  have hm := qr_Gm (dn := dn) (p := p) (L := L) h hs
  have : ∀ k, qe_G (qr_sh dn p L sl (qr_M dn p L sl s) s k) := by
    intro k
    induction k with
    | zero => exact h
    | succ k ih =>
      by_cases hA : qr_A dn p L k
      · rw [qr_sht hA]; exact qe_Gup ih (by rw [qr_ixp hs]; exact hm)
      · rw [qr_shf hA]; exact ih
  exact this 3
/-- the answer of a read: from the newest entry and the newest wipe -/
def qr_lv (e w : qe_E) : Int64 := if e.1 = 1 ∧ ¬ (w.1 = 3 ∧ e.2.1 ≤ w.2.1) then e.2.2.toInt64 else 1000000000000
def qr_rd (dn : Nat → Int32) (L : Nat) (pl : Nat) (s : Nat → qe_E) : Nat → qe_E := qr_one dn (pl / 8) L (64 + pl / 8) (qr_one dn (pl / 8) L pl s)
def qr_av (dn : Nat → Int32) (L : Nat) (pl : Nat) (s : Nat → qe_E) : Int64 := qr_lv (qr_M dn (pl / 8) L pl s) (qr_M dn (pl / 8) L (64 + pl / 8) (qr_one dn (pl / 8) L pl s))
theorem qr_Gr {dn : Nat → Int32} {L pl : Nat} {s : Nat → qe_E} (h : qe_G s) (hp : pl < 64) : qe_G (qr_rd dn L pl s) := qr_G1 (qr_G1 h (by omega)) (by omega)
