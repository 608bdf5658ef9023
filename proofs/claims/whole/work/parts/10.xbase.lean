/-! the component: entries and places -/
section
def qx_K (s : Nat → qe_E) : Nat → Int32 := fun j => (s j).1
def qx_T (s : Nat → qe_E) : Nat → Int32 := fun j => (s j).2.1
def qx_V (s : Nat → qe_E) : Nat → Int32 := fun j => (s j).2.2
theorem qx_uK (s : Nat → qe_E) (i : Nat) (k t v : Int32) : upd (qx_K s) i k = qx_K (qe_up s i (k, t, v)) := qe_u1 s i k t v
theorem qx_uT (s : Nat → qe_E) (i : Nat) (k t v : Int32) : upd (qx_T s) i t = qx_T (qe_up s i (k, t, v)) := qe_u2 s i k t v
theorem qx_uV (s : Nat → qe_E) (i : Nat) (k t v : Int32) : upd (qx_V s) i v = qx_V (qe_up s i (k, t, v)) := qe_u3 s i k t v
theorem qe_e (x y : Int32) : x = y ↔ x.toInt = y.toInt := Int32.toInt_inj.symm
theorem qe_c1 {k t v : Int32} {x : qe_E} (a : ¬ k = 0) (b : ¬ x.1 = 0) (c : ¬ t = x.2.1) : qe_nw (k, t, v) x ↔ ¬ t ≤ x.2.1 := by
  rw [qe_nwI, Int32.le_iff_toInt_le]
  rw [qe_e, qe_0I] at a b
  rw [qe_e] at c
  dsimp only
  omega
theorem qe_c2 {k t v : Int32} {x : qe_E} (a : ¬ k = 0) (b : ¬ x.1 = 0) (c : t = x.2.1) (d : ¬ k = x.1) : qe_nw (k, t, v) x ↔ ¬ k ≤ x.1 := by
  rw [qe_nwI, Int32.le_iff_toInt_le]
  rw [qe_e, qe_0I] at a b
  rw [qe_e] at c d
  dsimp only
  omega
theorem qe_c3 {k t v : Int32} {x : qe_E} (a : ¬ k = 0) (b : ¬ x.1 = 0) (c : t = x.2.1) (d : k = x.1) : qe_nw (k, t, v) x ↔ ¬ v ≤ x.2.2 := by
  rw [qe_nwI, Int32.le_iff_toInt_le]
  rw [qe_e, qe_0I] at a b
  rw [qe_e] at c d
  dsimp only
  omega
variable {kh hn : Int32} {dn : Nat → Int32} {s f : Nat → qe_E} {n1 n2 n3 n4 n5 : Nat → Int32}
theorem qx_new (post : Int32 → Prop) {i : Nat} (hi : i < 288) (k t v : Int32) (h1 : qe_nw (k, t, v) (s i) → post 1) (h0 : ¬ qe_nw (k, t, v) (s i) → post 0) : wpX_isNewerThanHeld post (kh, hn, dn, qx_K s, qx_T s, qx_V s, qx_K f, qx_T f, qx_V f, n1, n2, n3, n4, n5) (nI i) k t v := by
  have vi : vp_in (nI i) 288 := vp_in_nI hi (by omega)
  have cl : (nI i).toNatClampNeg = i := nI_clamp (by omega)
  unfold wpX_isNewerThanHeld
  dsimp only
  rw [cl]
  refine ⟨fun a => h0 (fun z => z.1 a), fun a => ⟨vi, fun b => h1 ⟨a, Or.inl b⟩, fun b => ⟨vi, fun c => ⟨vi, fun d => ⟨vi, fun e => h0 ?_, fun e => h1 ?_⟩, fun d => ⟨vi, fun e => h0 ?_, fun e => h1 ?_⟩⟩, fun c => ⟨vi, fun e => h0 ?_, fun e => h1 ?_⟩⟩⟩⟩
  · exact fun z => (qe_c3 a b c d).mp z e
  · exact (qe_c3 a b c d).mpr e
  · exact fun z => (qe_c2 a b c d).mp z e
  · exact (qe_c2 a b c d).mpr e
  · exact fun z => (qe_c1 a b c).mp z e
  · exact (qe_c1 a b c).mpr e
theorem qx_take (post : Int32 → SX → Prop) {a sl : Nat} (ha : a < 4) (hs : sl < 72) (k t v : Int32) (h1 : qe_nw (k, t, v) (s (a * 72 + sl)) → post 1 (kh, hn, dn, qx_K (qe_up s (a * 72 + sl) (k, t, v)), qx_T (qe_up s (a * 72 + sl) (k, t, v)), qx_V (qe_up s (a * 72 + sl) (k, t, v)), qx_K f, qx_T f, qx_V f, n1, n2, n3, n4, n5)) (h0 : ¬ qe_nw (k, t, v) (s (a * 72 + sl)) → post 0 (kh, hn, dn, qx_K s, qx_T s, qx_V s, qx_K f, qx_T f, qx_V f, n1, n2, n3, n4, n5)) : wpX_takeIn post (kh, hn, dn, qx_K s, qx_T s, qx_V s, qx_K f, qx_T f, qx_V f, n1, n2, n3, n4, n5) (nI a) (nI sl) k t v := by
  have hi : a * 72 + sl < 288 := by omega
  have vi : vp_in (nI (a * 72 + sl)) 288 := vp_in_nI hi (by omega)
  have cl : (nI (a * 72 + sl)).toNatClampNeg = a * 72 + sl := nI_clamp (by omega)
  unfold wpX_takeIn
  dsimp only
  refine nm_r (qa_ix a sl) ?_
  rw [cl]
  refine qx_new _ hi k t v (fun z => ?_) (fun z => ?_)
  · refine br_f qe_n10 ⟨vi, nm_r (qx_uK s _ k t v) ⟨vi, nm_r (qx_uT s _ k t v) ⟨vi, nm_r (qx_uV s _ k t v) ?_⟩⟩⟩
    exact h1 z
  · exact br_t rfl (h0 z)
theorem qx_takeJ (post : Int32 → SX → Prop) {a sl : Nat} (ha : a < 4) (hs : sl < 72) (e : qe_E) (h : ∀ r, post r (kh, hn, dn, qx_K (qe_tk s (a * 72 + sl) e), qx_T (qe_tk s (a * 72 + sl) e), qx_V (qe_tk s (a * 72 + sl) e), qx_K f, qx_T f, qx_V f, n1, n2, n3, n4, n5)) : wpX_takeIn post (kh, hn, dn, qx_K s, qx_T s, qx_V s, qx_K f, qx_T f, qx_V f, n1, n2, n3, n4, n5) (nI a) (nI sl) e.1 e.2.1 e.2.2 := by
  refine qx_take post ha hs e.1 e.2.1 e.2.2 (fun z => ?_) (fun z => ?_)
  · have := h 1
    rw [qe_tk, qe_jt z] at this
    exact this
  · have := h 0
    rw [qe_tk, qe_jf z, qe_uself] at this
    exact this
theorem qx_rep (post : Int32 → Prop) {p r : Nat} (hp : p < 100) (hr : r < 100) (h : post (nI (qr_nd p r))) : wpX_replicaAt post (nI p) (nI r) := by
  unfold wpX_replicaAt
  rw [qa_rep hp hr]
  exact ⟨qa_n4, h⟩
theorem qx_cuL (post : Int32 → Prop) {p : Nat} (hp : p < 8) (h : post (nI (qr_ct dn p 3))) : ∀ d r, r + d = 3 → wX_countUpReplicas_4 post (nI p) kh hn dn (qx_K s) (qx_T s) (qx_V s) (qx_K f) (qx_T f) (qx_V f) n1 n2 n3 n4 n5 (d + 1) (nI (qr_ct dn p r)) (nI r) := by
  intro d
  induction d with
  | zero =>
    intro r hr
    obtain rfl : r = 3 := by omega
    exact br_t (Int32.le_refl _) h
  | succ d ih =>
    intro r hr
    have i := ih (r + 1) (by omega)
    refine br_f (nI_ge (b := 3) (by omega) (by decide)) (qx_rep _ (by omega) (by omega) ?_)
    have cl : (nI (qr_nd p r)).toNatClampNeg = qr_nd p r := nI_clamp (by unfold qr_nd; omega)
    refine ⟨vp_in_nI (by unfold qr_nd; omega) (by omega), ?_⟩
    rw [cl]
    by_cases c : dn (qr_nd p r) = 0
    · have e : qr_ct dn p (r + 1) = qr_ct dn p r + 1 := if_pos c
      rw [e] at i
      exact br_t c (nm_r (nI_1 _) (nm_r (nI_1 r) i))
    · have e : qr_ct dn p (r + 1) = qr_ct dn p r := if_neg c
      rw [e] at i
      exact br_f c (nm_r (nI_1 r) i)
theorem qx_cu (post : Int32 → Prop) {p : Nat} (hp : p < 8) (h : post (nI (qr_ct dn p 3))) : wpX_countUpReplicas post (kh, hn, dn, qx_K s, qx_T s, qx_V s, qx_K f, qx_T f, qx_V f, n1, n2, n3, n4, n5) (nI p) := ⟨4, qx_cuL post hp h 3 0 rfl⟩
theorem qx_laL (post : Int32 → Prop) {p L : Nat} (hp : p < 8) (hL : L < 4) (h : post (nI (qr_la dn p L 3))) : ∀ d r, r + d = 3 → wX_lastAskedRank_8 post (nI p) (nI L) kh hn dn (qx_K s) (qx_T s) (qx_V s) (qx_K f) (qx_T f) (qx_V f) n1 n2 n3 n4 n5 (d + 1) (nI (qr_ac dn p L r)) (nI (qr_la dn p L r)) (nI r) := by
  intro d
  induction d with
  | zero =>
    intro r hr
    obtain rfl : r = 3 := by omega
    exact br_t (Int32.le_refl _) h
  | succ d ih =>
    intro r hr
    have i := ih (r + 1) (by omega)
    have ha := qr_acle dn p L r
    refine br_f (nI_ge (b := 3) (by omega) (by decide)) (pk_le L (qr_ac dn p L r) (fun c => ?_) (fun c => ?_))
    · have nA : ¬ qr_A dn p L r := fun z => by have := z.2; omega
      have e : qr_ac dn p L (r + 1) = qr_ac dn p L r := if_neg nA
      have e2 : qr_la dn p L (r + 1) = qr_la dn p L r := if_neg nA
      rw [e, e2] at i
      exact nm_r (nI_1 r) i
    · refine qx_rep _ (by omega) (by omega) ?_
      have cl : (nI (qr_nd p r)).toNatClampNeg = qr_nd p r := nI_clamp (by unfold qr_nd; omega)
      refine ⟨vp_in_nI (by unfold qr_nd; omega) (by omega), ?_⟩
      rw [cl]
      by_cases z : dn (qr_nd p r) = 0
      · have A : qr_A dn p L r := ⟨z, c⟩
        have e : qr_ac dn p L (r + 1) = qr_ac dn p L r + 1 := if_pos A
        have e2 : qr_la dn p L (r + 1) = r := if_pos A
        rw [e, e2] at i
        exact br_t z (nm_r (nI_1 _) (nm_r (nI_1 r) i))
      · have nA : ¬ qr_A dn p L r := fun y => z y.1
        have e : qr_ac dn p L (r + 1) = qr_ac dn p L r := if_neg nA
        have e2 : qr_la dn p L (r + 1) = qr_la dn p L r := if_neg nA
        rw [e, e2] at i
        exact br_f z (nm_r (nI_1 r) i)
theorem qx_la (post : Int32 → Prop) {p L : Nat} (hp : p < 8) (hL : L < 4) (h : post (nI (qr_la dn p L 3))) : wpX_lastAskedRank post (kh, hn, dn, qx_K s, qx_T s, qx_V s, qx_K f, qx_T f, qx_V f, n1, n2, n3, n4, n5) (nI p) (nI L) := ⟨4, qx_laL post hp hL h 3 0 rfl⟩
theorem qx_pt (post : Int32 → Prop) {sl : Nat} (hs : sl < 72) (h : post (nI (qp_pt sl))) : wpX_partitionOf post (nI sl) := by
  unfold wpX_partitionOf
  unfold qp_pt at h
  refine pk_le 64 sl (fun c => ?_) (fun c => ?_)
  · rw [if_neg (by omega)] at h
    rw [show (64 : Int32) = nI 64 from rfl, pk_sub c]
    exact h
  · rw [if_pos c] at h
    rw [qa_8 (by omega)]
    exact ⟨qa_n8, h⟩
end
