/-! the component: hints and sending -/
section
variable {kh hn : Int32} {dn : Nat → Int32} {s f : Nat → qe_E} {n1 n2 n3 n4 n5 : Nat → Int32}
theorem qx_mv (post : SX → Prop) {a b : Nat} (ha : a < 12) (hb : b < 12) (h : post (kh, hn, dn, qx_K s, qx_T s, qx_V s, qx_K f, qx_T f, qx_V f, upd n1 b (n1 a), upd n2 b (n2 a), upd n3 b (n3 a), upd n4 b (n4 a), upd n5 b (n5 a))) : wpX_moveHint post (kh, hn, dn, qx_K s, qx_T s, qx_V s, qx_K f, qx_T f, qx_V f, n1, n2, n3, n4, n5) (nI a) (nI b) := by
  have va : vp_in (nI a) 12 := vp_in_nI ha (by omega)
  have vb : vp_in (nI b) 12 := vp_in_nI hb (by omega)
  have ca : (nI a).toNatClampNeg = a := nI_clamp (by omega)
  have cb : (nI b).toNatClampNeg = b := nI_clamp (by omega)
  unfold wpX_moveHint
  dsimp only
  rw [ca, cb]
  exact ⟨va, vb, nm_e ⟨va, vb, nm_e ⟨va, vb, nm_e ⟨va, vb, nm_e ⟨va, vb, nm_e h⟩⟩⟩⟩⟩
theorem qx_doL (post : SX → Prop) (h : post (kh, 11, dn, qx_K s, qx_T s, qx_V s, qx_K f, qx_T f, qx_V f, qh_sg n1 0 11, qh_sg n2 0 11, qh_sg n3 0 11, qh_sg n4 0 11, qh_sg n5 0 11)) : ∀ d i, i + d = 11 →
    wX_dropOldestHint_2 post (d + 1) (nI (i + 1)) kh hn dn (qx_K s) (qx_T s) (qx_V s) (qx_K f) (qx_T f) (qx_V f) (qh_sg n1 0 i) (qh_sg n2 0 i) (qh_sg n3 0 i) (qh_sg n4 0 i) (qh_sg n5 0 i) := by
  intro d
  induction d with
  | zero =>
    intro i hi
    obtain rfl : i = 11 := by omega
    exact br_t (Int32.le_refl _) h
  | succ d ih =>
    intro i hi
    have k := ih (i + 1) (by omega)
    refine br_f (nI_ge (b := 12) (by omega) (by decide)) ?_
    rw [nI_pred]
    refine qx_mv _ (by omega) (by omega) ?_
    rw [qh_sgs (Nat.zero_le i), qh_sgs (Nat.zero_le i), qh_sgs (Nat.zero_le i), qh_sgs (Nat.zero_le i), qh_sgs (Nat.zero_le i)]
    exact nm_r (nI_1 (i + 1)) k
theorem qx_do (post : SX → Prop) (h : post (kh, 11, dn, qx_K s, qx_T s, qx_V s, qx_K f, qx_T f, qx_V f, qh_sg n1 0 11, qh_sg n2 0 11, qh_sg n3 0 11, qh_sg n4 0 11, qh_sg n5 0 11)) : wpX_dropOldestHint post (kh, hn, dn, qx_K s, qx_T s, qx_V s, qx_K f, qx_T f, qx_V f, n1, n2, n3, n4, n5) := by
  have k := qx_doL (hn := hn) post h 11 0 rfl
  rw [qh_sg0, qh_sg0, qh_sg0, qh_sg0, qh_sg0] at k
  exact ⟨12, k⟩
theorem qx_ad1 (post : SX → Prop) {c : Nat} (hc : c < 12) (x1 x2 x3 x4 x5 : Int32) (h : post (kh, nI (c + 1), dn, qx_K s, qx_T s, qx_V s, qx_K f, qx_T f, qx_V f, upd n1 c x1, upd n2 c x2, upd n3 c x3, upd n4 c x4, upd n5 c x5)) : wX_addHint_21 post x1 x2 x3 x4 x5 kh (nI c) dn (qx_K s) (qx_T s) (qx_V s) (qx_K f) (qx_T f) (qx_V f) n1 n2 n3 n4 n5 := by
  have va : vp_in (nI c) 12 := vp_in_nI hc (by omega)
  have ca : (nI c).toNatClampNeg = c := nI_clamp (by omega)
  unfold wX_addHint_21
  rw [ca]
  exact ⟨va, nm_e ⟨va, nm_e ⟨va, nm_e ⟨va, nm_e ⟨va, nm_e (nm_r (nI_1 c) h)⟩⟩⟩⟩⟩
theorem qx_add (post : SX → Prop) {H : List qh_H} (hl : H.length ≤ 12) (hH : qh_at (qh_p qh_fx n1 n2 n3 n4 n5) 0 H) (a sl : Nat) (e : qe_E)
    (h : ∀ m1 m2 m3 m4 m5 : Nat → Int32, qh_at (qh_p qh_fx m1 m2 m3 m4 m5) 0 (qh_add kh H (a, sl, e)) → post (kh, nI (qh_add kh H (a, sl, e)).length, dn, qx_K s, qx_T s, qx_V s, qx_K f, qx_T f, qx_V f, m1, m2, m3, m4, m5)) :
    wpX_addHint post (kh, nI H.length, dn, qx_K s, qx_T s, qx_V s, qx_K f, qx_T f, qx_V f, n1, n2, n3, n4, n5) (nI a) (nI sl) e.1 e.2.1 e.2.2 := by
  unfold wpX_addHint
  refine br_c (fun z => ?_) (fun z => ?_)
  · have ea : qh_add kh H (a, sl, e) = H := if_pos z
    rw [ea] at h
    exact h _ _ _ _ _ hH
  · have ea : qh_add kh H (a, sl, e) = qh_cut H ++ [(a, sl, e)] := if_neg z
    rw [ea] at h
    refine pk_lt H.length 12 (fun c => ?_) (fun c => ?_)
    · have ec : qh_cut H = H := if_neg (by omega)
      rw [ec] at h
      have k := h _ _ _ _ _ (qh_snoc (a := nI a) (b := nI sl) (c := e.1) (d := e.2.1) (e := e.2.2) rfl ⟨rfl, rfl, rfl, rfl, rfl⟩ hH)
      rw [List.length_append] at k
      exact qx_ad1 post c _ _ _ _ _ k
    · have ec : qh_cut H = H.tail := if_pos c
      rw [ec] at h
      cases H with
      | nil => exact absurd c (by decide)
      | cons y R =>
        have lR : R.length = 11 := by rw [List.length_cons] at hl c; omega
        refine qx_do _ ?_
        have hR := qh_del (P := []) (h := 0) (k := 11) rfl (by rw [lR]; rfl) hH
        have k := h _ _ _ _ _ (qh_snoc (a := nI a) (b := nI sl) (c := e.1) (d := e.2.1) (e := e.2.2) lR.symm ⟨rfl, rfl, rfl, rfl, rfl⟩ hR)
        rw [List.length_append, List.tail_cons, lR] at k
        exact qx_ad1 post (c := 11) (by omega) _ _ _ _ _ k
/-- what the component's state is, up to rows of hints beyond the list -/
def qx_R (kh : Int32) (dn : Nat → Int32) (s f : Nat → qe_E) (H : List qh_H) (u : SX) : Prop :=
  ∃ n1 n2 n3 n4 n5 : Nat → Int32, u = (kh, nI H.length, dn, qx_K s, qx_T s, qx_V s, qx_K f, qx_T f, qx_V f, n1, n2, n3, n4, n5) ∧ qh_at (qh_p qh_fx n1 n2 n3 n4 n5) 0 H
theorem qs_len {dn : Nat → Int32} {kh : Int32} {p sl : Nat} {e : qe_E} {S : (Nat → qe_E) × List qh_H} (h : S.2.length ≤ 12) : ∀ r, (qs_al dn kh p sl e r S).2.length ≤ 12 := by
  intro r
  induction r with
  | zero => exact h
  | succ r ih =>
    show (qs_st dn kh p sl e r (qs_al dn kh p sl e r S)).2.length ≤ 12
    unfold qs_st
    split
    · exact ih
    · exact qh_addl ih
theorem qx_sdL (post : Int32 → SX → Prop) {p sl : Nat} (hp : p < 8) (hs : sl < 72) (e : qe_E) (x : Int32) {S : (Nat → qe_E) × List qh_H} (hl : S.2.length ≤ 12)
    (h : ∀ u, qx_R kh dn (qs_al dn kh p sl e 3 S).1 f (qs_al dn kh p sl e 3 S).2 u → post x u) :
    ∀ d r, r + d = 3 → ∀ n1 n2 n3 n4 n5 : Nat → Int32, qh_at (qh_p qh_fx n1 n2 n3 n4 n5) 0 (qs_al dn kh p sl e r S).2 →
      wX_send_27 post (nI sl) e.1 e.2.1 e.2.2 (nI p) x (d + 1) (nI r) kh (nI (qs_al dn kh p sl e r S).2.length) dn (qx_K ((qs_al dn kh p sl e r S).1)) (qx_T ((qs_al dn kh p sl e r S).1)) (qx_V ((qs_al dn kh p sl e r S).1)) (qx_K f) (qx_T f) (qx_V f) n1 n2 n3 n4 n5 := by
  intro d
  induction d with
  | zero =>
    intro r hr n1 n2 n3 n4 n5 hH
    obtain rfl : r = 3 := by omega
    exact br_t (Int32.le_refl _) (h _ ⟨n1, n2, n3, n4, n5, rfl, hH⟩)
  | succ d ih =>
    intro r hr n1 n2 n3 n4 n5 hH
    have i := ih (r + 1) (by omega)
    have nr : qr_nd p r < 4 := by unfold qr_nd; omega
    have cl : (nI (qr_nd p r)).toNatClampNeg = qr_nd p r := nI_clamp (by omega)
    refine br_f (nI_ge (b := 3) (by omega) (by decide)) (qx_rep _ (by omega) (by omega) ?_)
    refine ⟨vp_in_nI nr (by omega), ?_⟩
    rw [cl]
    by_cases z : dn (qr_nd p r) = 0
    · have es : qs_al dn kh p sl e (r + 1) S = (qe_tk (qs_al dn kh p sl e r S).1 (qr_ix p sl r) e, (qs_al dn kh p sl e r S).2) := if_pos z
      rw [es] at i
      refine br_t z (qx_takeJ _ nr hs e (fun _ => ?_))
      exact nm_r (nI_1 r) (i _ _ _ _ _ hH)
    · have es : qs_al dn kh p sl e (r + 1) S = ((qs_al dn kh p sl e r S).1, qh_add kh (qs_al dn kh p sl e r S).2 (qr_nd p r, sl, e)) := if_neg z
      rw [es] at i
      refine br_f z (qx_add _ (qs_len hl r) hH (qr_nd p r) sl e (fun m1 m2 m3 m4 m5 hm => ?_))
      exact nm_r (nI_1 r) (i _ _ _ _ _ hm)
theorem qx_sd (post : Int32 → SX → Prop) {sl L : Nat} (hs : sl < 72) (hL : L < 4) (e : qe_E) {H : List qh_H} (hl : H.length ≤ 12) {u : SX} (R : qx_R kh dn s f H u)
    (h1 : L ≤ qr_ct dn (qp_pt sl) 3 → ∀ u', qx_R kh dn (qs_al dn kh (qp_pt sl) sl e 3 (s, H)).1 f (qs_al dn kh (qp_pt sl) sl e 3 (s, H)).2 u' → post (nI (qr_ct dn (qp_pt sl) 3)) u')
    (h0 : qr_ct dn (qp_pt sl) 3 < L → post (-2) u) : wpX_send post u (nI sl) e.1 e.2.1 e.2.2 (nI L) := by
  obtain ⟨n1, n2, n3, n4, n5, rfl, hH⟩ := R
  have hp : qp_pt sl < 8 := by unfold qp_pt; split <;> omega
  have hc := qr_ctle dn (qp_pt sl) 3
  unfold wpX_send
  refine qx_pt _ hs (qx_cu _ hp ?_)
  refine pk_le L (qr_ct dn (qp_pt sl) 3) (fun c => ?_) (fun c => ?_)
  · exact ⟨4, qx_sdL post hp hs e _ hl (h1 c) 3 0 rfl n1 n2 n3 n4 n5 hH⟩
  · exact h0 c
theorem qx_dlL (post : Int32 → SX → Prop) {n c : Nat} (hn4 : n < 4) (hc : c ≤ 12) : ∀ (R P : List qh_H) (i : Nat) (s : Nat → qe_E) (m1 m2 m3 m4 m5 : Nat → Int32), R.length + i = c → P.length ≤ i → qh_G R →
    qh_at (qh_p qh_fx m1 m2 m3 m4 m5) 0 P → qh_at (qh_p qh_fx m1 m2 m3 m4 m5) i R →
    (∀ u, qx_R kh dn (qh_dl n R s) f (P ++ qh_kp n R) u → post (nI c - nI (P ++ qh_kp n R).length) u) →
    wX_deliverHints_10 post (nI n) (nI c) (R.length + 1) (nI P.length) (nI i) kh hn dn (qx_K s) (qx_T s) (qx_V s) (qx_K f) (qx_T f) (qx_V f) m1 m2 m3 m4 m5 := by
  intro R
  induction R with
  | nil =>
    intro P i s m1 m2 m3 m4 m5 hi hP hG h1 h2 h
    obtain rfl : i = c := by rw [List.length_nil] at hi; omega
    rw [show P ++ qh_kp n [] = P from List.append_nil P] at h
    exact br_t (Int32.le_refl _) (h _ ⟨m1, m2, m3, m4, m5, rfl, h1⟩)
  | cons x R ih =>
    intro P i s m1 m2 m3 m4 m5 hi hP hG h1 h2 h
    rw [List.length_cons] at hi
    obtain ⟨⟨e1, e2, e3, e4, e5⟩, h3⟩ := h2
    have hx := hG x List.mem_cons_self
    have hGR : qh_G R := fun y hy => hG y (List.mem_cons_of_mem x hy)
    have vi : vp_in (nI i) 12 := vp_in_nI (by omega) (by omega)
    have ci : (nI i).toNatClampNeg = i := nI_clamp (by omega)
    refine br_f (nI_ge (by omega) (by omega)) ⟨vi, ?_⟩
    rw [ci, e1]
    refine pk_eq x.1 n (fun z => ?_) (fun z => ?_)
    · have ek : qh_kp n (x :: R) = qh_kp n R := if_pos z
      have ed : qh_dl n (x :: R) s = qh_dl n R (qe_tk s (n * 72 + x.2.1) x.2.2) := if_pos z
      rw [ek, ed] at h
      rw [e2, e3, e4, e5]
      refine ⟨vi, vi, vi, vi, qx_takeJ _ hn4 hx.2.1 x.2.2 (fun _ => ?_)⟩
      exact nm_r (nI_1 i) (ih P (i + 1) _ m1 m2 m3 m4 m5 (by omega) (by omega) hGR h1 h3 h)
    · have ek : qh_kp n (x :: R) = x :: qh_kp n R := if_neg z
      have ed : qh_dl n (x :: R) s = qh_dl n R s := if_neg z
      rw [ek, ed] at h
      have ea : P ++ x :: qh_kp n R = (P ++ [x]) ++ qh_kp n R := by rw [List.append_assoc]; rfl
      rw [ea] at h
      refine qx_mv _ (by omega) (by omega) ?_
      have q1 := qh_snoc (Φ := qh_fx) (x := x) (a := m1 i) (b := m2 i) (c := m3 i) (d := m4 i) (e := m5 i) (m := P.length) rfl ⟨e1, e2, e3, e4, e5⟩ h1
      have q2 : qh_at (qh_p qh_fx (upd m1 P.length (m1 i)) (upd m2 P.length (m2 i)) (upd m3 P.length (m3 i)) (upd m4 P.length (m4 i)) (upd m5 P.length (m5 i))) (i + 1) R := by
        refine qh_mono (fun j k1 k2 y hy => ?_) h3
        have : j ≠ P.length := by omega
        show qh_fx _ _ _ _ _ y
        rw [pk_un this, pk_un this, pk_un this, pk_un this, pk_un this]
        exact hy
      have k := ih (P ++ [x]) (i + 1) s _ _ _ _ _ (by omega) (by rw [List.length_append]; exact Nat.succ_le_succ hP) hGR q1 q2 h
      rw [List.length_append] at k
      exact nm_r (nI_1 P.length) (nm_r (nI_1 i) k)
theorem qx_dl (post : Int32 → SX → Prop) {n : Nat} (hn4 : n < 4) {H : List qh_H} (hl : H.length ≤ 12) (hG : qh_G H) {u : SX} (R : qx_R kh dn s f H u)
    (h : ∀ u', qx_R kh dn (qh_dl n H s) f (qh_kp n H) u' → post (nI H.length - nI (qh_kp n H).length) u') : wpX_deliverHints post u (nI n) := by
  obtain ⟨n1, n2, n3, n4, n5, rfl, hH⟩ := R
  exact ⟨H.length + 1, qx_dlL post hn4 hl H [] 0 s n1 n2 n3 n4 n5 rfl (Nat.le_refl 0) hG trivial hH h⟩
end
