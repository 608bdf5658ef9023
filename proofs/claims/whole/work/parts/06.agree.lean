/-! the reference's two rounds of exchange come to the same sharing: pure -/
def qr_as (dn : Nat → Int32) (p L sl : Nat) (S : (Nat → qe_E) × qe_E) : Nat → (Nat → qe_E) × qe_E
  | 0 => S
  | k + 1 => if qr_A dn p L k then (qe_up (qr_as dn p L sl S k).1 (qr_ix p sl k) (qe_jn ((qr_as dn p L sl S k).1 (qr_ix p sl k)) (qr_as dn p L sl S k).2), qe_jn ((qr_as dn p L sl S k).1 (qr_ix p sl k)) (qr_as dn p L sl S k).2) else qr_as dn p L sl S k
theorem qr_ast {dn : Nat → Int32} {p L sl : Nat} {S : (Nat → qe_E) × qe_E} {k : Nat} (h : qr_A dn p L k) : qr_as dn p L sl S (k + 1) = (qe_up (qr_as dn p L sl S k).1 (qr_ix p sl k) (qe_jn ((qr_as dn p L sl S k).1 (qr_ix p sl k)) (qr_as dn p L sl S k).2), qe_jn ((qr_as dn p L sl S k).1 (qr_ix p sl k)) (qr_as dn p L sl S k).2) := if_pos h
theorem qr_asf {dn : Nat → Int32} {p L sl : Nat} {S : (Nat → qe_E) × qe_E} {k : Nat} (h : ¬ qr_A dn p L k) : qr_as dn p L sl S (k + 1) = qr_as dn p L sl S k := if_neg h
theorem qr_r1 {dn : Nat → Int32} {p L sl : Nat} {s : Nat → qe_E} {P : Prop} (g : ∀ r, r < 3 → qe_gd P (s (qr_ix p sl r))) : ∀ k, k ≤ 3 →
    (∀ j, (∀ r, r < k → qr_A dn p L r → j ≠ qr_ix p sl r) → (qr_as dn p L sl (s, qe_z) k).1 j = s j) ∧
    qr_IM dn p L (fun r => s (qr_ix p sl r)) k (qr_as dn p L sl (s, qe_z) k).2 ∧
    (∀ r, r < k → qr_A dn p L r → ¬ qe_nw ((qr_as dn p L sl (s, qe_z) k).1 (qr_ix p sl r)) (qr_as dn p L sl (s, qe_z) k).2 ∧ qe_gd P ((qr_as dn p L sl (s, qe_z) k).1 (qr_ix p sl r))) := by
  intro k
  induction k with
  | zero =>
    intro _
    exact ⟨fun _ _ => rfl, qr_IM0, fun r h => absurd h (Nat.not_lt_zero r)⟩
  | succ k ih =>
    intro hk
    obtain ⟨h1, h2, h3⟩ := ih (by omega)
    by_cases hA : qr_A dn p L k
    · rw [qr_ast hA]
      have ek : (qr_as dn p L sl (s, qe_z) k).1 (qr_ix p sl k) = s (qr_ix p sl k) := h1 _ (fun r hr _ => qr_ixne (by omega) (by omega) (by omega))
      rw [ek]
      have gB : qe_gd P (qr_as dn p L sl (s, qe_z) k).2 := qr_IMg (fun r hr => g r (by omega)) h2
      generalize hB : (qr_as dn p L sl (s, qe_z) k).2 = B at h2 h3 gB ⊢
      generalize hT : (qr_as dn p L sl (s, qe_z) k).1 = t at h1 h3 ek ⊢
      have hJ : (qe_jn (s (qr_ix p sl k)) B = B ∧ ¬ qe_nw (s (qr_ix p sl k)) B) ∨ (qe_jn (s (qr_ix p sl k)) B = s (qr_ix p sl k) ∧ ¬ qe_nw B (s (qr_ix p sl k))) := by
        by_cases c : qe_nw B (s (qr_ix p sl k))
        · exact Or.inl ⟨qe_jt c, qe_asy c⟩
        · exact Or.inr ⟨qe_jf c, c⟩
      have hBJ : ¬ qe_nw B (qe_jn (s (qr_ix p sl k)) B) := by
        rcases hJ with ⟨c, d⟩ | ⟨c, d⟩
        · rw [c]; exact qe_irr B
        · rw [c]; exact d
      refine ⟨fun j hj => ?_, qr_IMs h2 hA hJ, fun r hr hA' => ?_⟩
      · show qe_up t (qr_ix p sl k) _ j = s j
        rw [qe_un (hj k (by omega) hA)]
        exact h1 j (fun r hr => hj r (by omega))
      · show ¬ qe_nw (qe_up t (qr_ix p sl k) _ (qr_ix p sl r)) _ ∧ qe_gd P (qe_up t (qr_ix p sl k) _ (qr_ix p sl r))
        by_cases c : r = k
        · subst c
          rw [qe_us]
          exact ⟨qe_irr _, qe_jg gB (g r (by omega))⟩
        · rw [qe_un (qr_ixne (by omega) (by omega) c)]
          have := h3 r (by omega) hA'
          exact ⟨qe_ntr this.1 hBJ, this.2⟩
    · rw [qr_asf hA]
      refine ⟨fun j hj => h1 j (fun r hr => hj r (by omega)), qr_IMn h2 hA, fun r hr hA' => ?_⟩
      rcases Nat.lt_or_ge r k with c | c
      · exact h3 r c hA'
      · obtain rfl : r = k := by omega
        exact absurd hA' hA
theorem qr_r2 {dn : Nat → Int32} {p L sl : Nat} {t : Nat → qe_E} {M : qe_E} {P : Prop} (gM : qe_gd P M) (h : ∀ r, r < 3 → qr_A dn p L r → ¬ qe_nw (t (qr_ix p sl r)) M ∧ qe_gd P (t (qr_ix p sl r))) : ∀ k, k ≤ 3 → qr_as dn p L sl (t, M) k = (qr_sh dn p L sl M t k, M) := by
  intro k
  induction k with
  | zero => intro _; rfl
  | succ k ih =>
    intro hk
    have i := ih (by omega)
    by_cases hA : qr_A dn p L k
    · rw [qr_ast hA, qr_sht hA, i]
      show (qe_up (qr_sh dn p L sl M t k) (qr_ix p sl k) (qe_jn (qr_sh dn p L sl M t k (qr_ix p sl k)) M), qe_jn (qr_sh dn p L sl M t k (qr_ix p sl k)) M) = _
      rw [qr_shl (Nat.le_refl k) (by omega), qe_jm (h k (by omega) hA).2 gM (h k (by omega) hA).1]
    · rw [qr_asf hA, qr_shf hA, i]
/-- two rounds: what a read leaves, and the newest -/
theorem qr_two {dn : Nat → Int32} {p L sl : Nat} {s : Nat → qe_E} (G : qe_G s) (hs : sl < 72) : qr_as dn p L sl (qr_as dn p L sl (s, qe_z) 3) 3 = (qr_one dn p L sl s, qr_M dn p L sl s) := by
  have g : ∀ r, r < 3 → qe_gd (sl < 64) (s (qr_ix p sl r)) := by
    intro r _
    have := G (qr_ix p sl r) (qr_ixlt hs)
    rw [qr_ixp hs] at this
    exact this
  obtain ⟨h1, h2, h3⟩ := qr_r1 (dn := dn) (L := L) g 3 (Nat.le_refl 3)
  have eM : (qr_as dn p L sl (s, qe_z) 3).2 = qr_M dn p L sl s := qr_IMu g h2 (qr_mxI dn p L (fun r => s (qr_ix p sl r)) 3)
  have e0 : qr_as dn p L sl (s, qe_z) 3 = ((qr_as dn p L sl (s, qe_z) 3).1, qr_M dn p L sl s) := Prod.ext rfl eM
  rw [eM] at h3
  rw [e0, qr_r2 (qr_Gm G hs) h3 3 (Nat.le_refl 3)]
  refine Prod.ext ?_ rfl
  funext j
  show qr_sh dn p L sl (qr_M dn p L sl s) (qr_as dn p L sl (s, qe_z) 3).1 3 j = qr_sh dn p L sl (qr_M dn p L sl s) s 3 j
  by_cases c : ∃ r, r < 3 ∧ qr_A dn p L r ∧ j = qr_ix p sl r
  · obtain ⟨r, hr, hA, rfl⟩ := c
    rw [qr_shi 3 (Nat.le_refl 3) hr hA, qr_shi 3 (Nat.le_refl 3) hr hA]
  · have c' : ∀ r, r < 3 → qr_A dn p L r → j ≠ qr_ix p sl r := fun r hr hA e => c ⟨r, hr, hA, e⟩
    rw [qr_sho 3 c', qr_sho 3 c', h1 j c']
theorem qr_shc {dn : Nat → Int32} {p L sl : Nat} {M : qe_E} {s : Nat → qe_E} {l : Nat} (h : ∀ r, l < r → r < 3 → ¬ qr_A dn p L r) : ∀ k, l + 1 ≤ k → k ≤ 3 → qr_sh dn p L sl M s k = qr_sh dn p L sl M s (l + 1) := by
  intro k
  induction k with
  | zero => intro h1; omega
  | succ k ih =>
    intro h1 h2
    rcases Nat.lt_or_ge l k with c | c
    · rw [qr_shf (h k c (by omega)), ih (by omega) (by omega)]
    · obtain rfl : k = l := by omega
      rfl
