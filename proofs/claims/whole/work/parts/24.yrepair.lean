/-! the reference: repair -/
section
variable {kh : Int32} {dn : Nat → Int32} {s f : Nat → qe_E} {H : List qh_H}
theorem qy_162 (post : Int32 → SY → Prop) (J : Int32 → Int32 → Int32 → Int32 → (Nat → Int32) → (Nat → Int32) → (Nat → Int32) → (Nat → Int32) → (Nat → Int32) → (Nat → Int32) → (Nat → Int32) → (Nat → Int32) → (Nat → Int32) → Prop)
    {a b c k : Nat} (ha : a < 4) (hb : b < 4) (hk : k < 72) {hg hd : Int32} {yk ys yv al m1 m2 m3 m4 m5 : Nat → Int32} (I : qy_R kh dn s f H (hg, hd, yk, ys, yv, al, m1, m2, m3, m4, m5))
    (h1 : qe_nw (s (b * 72 + k)) (s (a * 72 + k)) → ∀ (hg hd : Int32) (yk ys yv al m1 m2 m3 m4 m5 : Nat → Int32), qy_R kh dn (qe_up s (a * 72 + k) (s (b * 72 + k))) f H (hg, hd, yk, ys, yv, al, m1, m2, m3, m4, m5) → J (nI (c + 1)) (nI (k + 1)) hg hd yk ys yv al m1 m2 m3 m4 m5)
    (h0 : ¬ qe_nw (s (b * 72 + k)) (s (a * 72 + k)) → J (nI c) (nI (k + 1)) hg hd yk ys yv al m1 m2 m3 m4 m5) : wY_repair_162 post J (nI a) (nI b) (nI c) (nI k) (nI (b * 72 + k)) hg hd yk ys yv al m1 m2 m3 m4 m5 := by
  have vb : vp_in (nI (b * 72 + k)) 576 := vp_in_nI (by omega) (by omega)
  have cb : (nI (b * 72 + k)).toNatClampNeg = b * 72 + k := nI_clamp (by omega)
  have E : qy_E s f yk ys yv := I.2.2.1
  have he := E.1 (b * 72 + k) (by omega)
  have em : (b * 72 + k) % 72 = k := by omega
  rw [em] at he
  unfold wY_repair_162
  rw [cb]
  refine ⟨vb, fun z => nm_r (nI_1 k) (h0 (fun y => y.1 ((qe_er0 he).mp z))), fun z => ⟨vb, vb, vb, qy_take _ ha hk he z I (fun y v' I' => ?_) (fun y => ?_)⟩⟩
  · obtain ⟨bg, bd, b1, b2, b3, b4, b5, b6, b7, b8, b9⟩ := v'
    exact br_f qe_n10 (nm_r (nI_1 c) (nm_r (nI_1 k) (h1 y _ _ _ _ _ _ _ _ _ _ _ I')))
  · exact br_t rfl (nm_r (nI_1 k) (h0 y))
theorem qy_78 (post : Int32 → SY → Prop) (J : Int32 → Int32 → Int32 → Int32 → (Nat → Int32) → (Nat → Int32) → (Nat → Int32) → (Nat → Int32) → (Nat → Int32) → (Nat → Int32) → (Nat → Int32) → (Nat → Int32) → (Nat → Int32) → Prop)
    {a b k : Nat} (ha : a < 4) (hb : b < 4) (hab : a ≠ b) (hk : k < 72) {S : (Nat → qe_E) × Nat} {hg hd : Int32} {yk ys yv al m1 m2 m3 m4 m5 : Nat → Int32} (I : qy_R kh dn S.1 f H (hg, hd, yk, ys, yv, al, m1, m2, m3, m4, m5))
    (h1 : qp_bo a b k → ∀ (hg hd : Int32) (yk ys yv al m1 m2 m3 m4 m5 : Nat → Int32), qy_R kh dn (qp_st a b k S).1 f H (hg, hd, yk, ys, yv, al, m1, m2, m3, m4, m5) → J (nI (qp_st a b k S).2) (nI (k + 1)) hg hd yk ys yv al m1 m2 m3 m4 m5)
    (h0 : ¬ qp_bo a b k → J (nI S.2) (nI (k + 1)) hg hd yk ys yv al m1 m2 m3 m4 m5) : wY_repair_78 post J (nI a) (nI b) (nI S.2) (nI k) (nI (qp_pt k)) hg hd yk ys yv al m1 m2 m3 m4 m5 := by
  have hp : qp_pt k < 8 := by unfold qp_pt; split <;> omega
  have va : vp_in (nI (a * 72 + k)) 576 := vp_in_nI (by omega) (by omega)
  have ca : (nI (a * 72 + k)).toNatClampNeg = a * 72 + k := nI_clamp (by omega)
  have E : qy_E S.1 f yk ys yv := I.2.2.1
  have he := E.1 (a * 72 + k) (by omega)
  have em : (a * 72 + k) % 72 = k := by omega
  rw [em] at he
  have hne : a * 72 + k ≠ b * 72 + k := by omega
  unfold wY_repair_78
  refine ⟨qa_n4, nm_r (qa_rep (p := qp_pt k) (r := 3) (by omega) (by omega)) (nm_r (qa_ix a k) (nm_r (qa_ix b k) ?_))⟩
  have hq : (qp_pt k + 3) % 4 < 4 := by omega
  refine pk_eq ((qp_pt k + 3) % 4) a (fun z => nm_r (nI_1 k) (h0 (fun w => w.1 z))) (fun z1 => ?_)
  refine pk_eq ((qp_pt k + 3) % 4) b (fun z => nm_r (nI_1 k) (h0 (fun w => w.2 z))) (fun z2 => ?_)
  have g := h1 ⟨z1, z2⟩
  have F : ∀ (hg hd : Int32) (yk ys yv al m1 m2 m3 m4 m5 : Nat → Int32), qy_R kh dn S.1 f H (hg, hd, yk, ys, yv, al, m1, m2, m3, m4, m5) → ¬ qe_nw (S.1 (a * 72 + k)) (S.1 (b * 72 + k)) → wY_repair_162 post J (nI a) (nI b) (nI S.2) (nI k) (nI (b * 72 + k)) hg hd yk ys yv al m1 m2 m3 m4 m5 := by
    intro hg hd yk ys yv al m1 m2 m3 m4 m5 I w
    refine qy_162 post J ha hb hk I (fun y => ?_) (fun y => ?_)
    · have e2 : qp_st a b k S = (qe_up S.1 (a * 72 + k) (S.1 (b * 72 + k)), S.2 + 1) := by
        unfold qp_st; rw [if_neg w, if_pos y]
      rw [e2] at g
      exact g
    · have e2 : qp_st a b k S = S := by
        unfold qp_st; rw [if_neg w, if_neg y]
      rw [e2] at g
      exact g _ _ _ _ _ _ _ _ _ _ _ I
  rw [ca]
  refine ⟨va, fun z => F _ _ _ _ _ _ _ _ _ _ _ I (fun y => y.1 ((qe_er0 he).mp z)), fun z => ⟨va, va, va, qy_take _ hb hk he z I (fun y v' I' => ?_) (fun y => ?_)⟩⟩
  · obtain ⟨bg, bd, b1, b2, b3, b4, b5, b6, b7, b8, b9⟩ := v'
    have e2 : qp_st a b k S = (qe_up S.1 (b * 72 + k) (S.1 (a * 72 + k)), S.2 + 1) := by
      unfold qp_st; rw [if_pos y]
    rw [e2] at g
    refine br_f qe_n10 (nm_r (nI_1 S.2) (qy_162 post J ha hb hk I' (fun w => ?_) (fun w => ?_)))
    · rw [qe_us, qe_un hne] at w
      exact absurd w (qe_irr _)
    · exact g _ _ _ _ _ _ _ _ _ _ _ I'
  · exact br_t rfl (F _ _ _ _ _ _ _ _ _ _ _ I y)
theorem qy_rpL (post : Int32 → SY → Prop) {a b : Nat} (ha : a < 4) (hb : b < 4) (hab : a ≠ b) (g : ∀ v', qy_R kh dn (qp_al a b s 72).1 f H v' → post (nI (qp_al a b s 72).2) v') :
    ∀ d k, k + d = 72 → ∀ (hg hd : Int32) (yk ys yv al m1 m2 m3 m4 m5 : Nat → Int32), qy_R kh dn (qp_al a b s k).1 f H (hg, hd, yk, ys, yv, al, m1, m2, m3, m4, m5) → wY_repair_51 post (nI a) (nI b) (d + 1) (nI (qp_al a b s k).2) (nI k) hg hd yk ys yv al m1 m2 m3 m4 m5 := by
  intro d
  induction d with
  | zero =>
    intro k hk hg hd yk ys yv al m1 m2 m3 m4 m5 I
    obtain rfl : k = 72 := by omega
    exact br_t (Int32.le_refl _) (g _ I)
  | succ d ih =>
    intro k hk hg hd yk ys yv al m1 m2 m3 m4 m5 I
    have i := ih (k + 1) (by omega)
    have K : wY_repair_78 post (wY_repair_51 post (nI a) (nI b) (d + 1)) (nI a) (nI b) (nI (qp_al a b s k).2) (nI k) (nI (qp_pt k)) hg hd yk ys yv al m1 m2 m3 m4 m5 := by
      refine qy_78 post _ ha hb hab (by omega) I (fun z => ?_) (fun z => ?_)
      · have e : qp_al a b s (k + 1) = qp_st a b k (qp_al a b s k) := if_pos z
        rw [e] at i
        exact i
      · have e : qp_al a b s (k + 1) = qp_al a b s k := if_neg z
        rw [e] at i
        exact i _ _ _ _ _ _ _ _ _ _ _ I
    refine br_f (nI_ge (b := 72) (by omega) (by decide)) (pk_le 64 k (fun c => ?_) (fun c => ?_))
    · have e : qp_pt k = k - 64 := if_neg (by omega)
      rw [e] at K
      rw [show (64 : Int32) = nI 64 from rfl, pk_sub c]
      exact K
    · have e : qp_pt k = k / 8 := if_pos c
      rw [e] at K
      rw [qa_8 (by omega)]
      exact ⟨qa_n8, K⟩
end
