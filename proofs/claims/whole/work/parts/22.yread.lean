/-! the reference: reads -/
section
/-- the place of the best entry so far: -1, if it is nothing -/
def qy_B (sl : Nat) (t : Nat → qe_E) (B : qe_E) (best : Int32) : Prop :=
  (best = -1 ∧ B = qe_z) ∨ (∃ ib, ib < 288 ∧ ib % 72 = sl ∧ best = nI ib ∧ t ib = B ∧ ¬ B.1 = 0)
theorem qy_m1 : (-1 : Int32) < 0 := by decide
variable {kh : Int32} {dn : Nat → Int32} {s f : Nat → qe_E} {H : List qh_H}
theorem qy_ex (post : Int32 → SY → Prop) {n sl : Nat} (h4 : n < 4) (hs : sl < 72) {V : SY} (I : qy_R kh dn s f H V) {B : qe_E} {best : Int32} (hB : qy_B sl s B best)
    (g : ∀ v' best', qy_R kh dn (qe_up s (n * 72 + sl) (qe_jn (s (n * 72 + sl)) B)) f H v' → qy_B sl (qe_up s (n * 72 + sl) (qe_jn (s (n * 72 + sl)) B)) (qe_jn (s (n * 72 + sl)) B) best' → post best' v') :
    wpY_exchange post V (nI n) (nI sl) best := by
  have hi : n * 72 + sl < 288 := by omega
  have em : (n * 72 + sl) % 72 = sl := by omega
  have vi : vp_in (nI (n * 72 + sl)) 576 := vp_in_nI (by omega) (by omega)
  have ci : (nI (n * 72 + sl)).toNatClampNeg = n * 72 + sl := nI_clamp (by omega)
  rcases hB with ⟨rfl, rfl⟩ | ⟨ib, hb, eb, rfl, eB, nB⟩
  · obtain ⟨hg, hd, yk, ys, yv, al, m1, m2, m3, m4, m5⟩ := V
    have rE : qy_E s f yk ys yv := I.2.2.1
    have hx := rE.1 (n * 72 + sl) hi
    rw [qe_jf (qe_nz _), qe_uself] at g
    unfold wpY_exchange
    dsimp only
    refine nm_r (qa_ix n sl) (br_t qy_m1 ?_)
    unfold wY_exchange_46
    rw [ci]
    refine ⟨vi, fun z => ?_, fun z => ?_⟩
    · exact g _ _ I (Or.inl ⟨rfl, qe_gz (qe_erg hx) ((qe_er0 hx).mp z)⟩)
    · exact g _ _ I (Or.inr ⟨_, hi, em, rfl, rfl, fun y => z ((qe_er0 hx).mpr y)⟩)
  · obtain ⟨hg, hd, yk, ys, yv, al, m1, m2, m3, m4, m5⟩ := V
    have rE : qy_E s f yk ys yv := I.2.2.1
    have hx := rE.1 ib hb
    rw [eB, eb] at hx
    have vb : vp_in (nI ib) 576 := vp_in_nI (by omega) (by omega)
    have cb : (nI ib).toNatClampNeg = ib := nI_clamp (by omega)
    have kb : ¬ yk ib = 0 := fun z => nB ((qe_er0 hx).mp z)
    unfold wpY_exchange
    dsimp only
    refine nm_r (qa_ix n sl) (br_f (nI_pos (by omega)) ?_)
    rw [cb]
    refine ⟨vb, br_f kb ⟨vb, vb, vb, qy_take _ h4 hs hx kb I (fun z v' I' => ?_) (fun z => ?_)⟩⟩
    · rw [qe_jt z] at g
      obtain ⟨bg, bd, b1, b2, b3, b4, b5, b6, b7, b8, b9⟩ := v'
      have bE : qy_E (qe_up s (n * 72 + sl) B) f b1 b2 b3 := I'.2.2.1
      have bx := bE.1 (n * 72 + sl) hi
      rw [qe_us] at bx
      show wY_exchange_46 post (nI ib) (nI (n * 72 + sl)) bg bd b1 b2 b3 b4 b5 b6 b7 b8 b9
      unfold wY_exchange_46
      rw [ci]
      exact ⟨vi, br_f (fun y => nB ((qe_er0 bx).mp y)) (g _ _ I' (Or.inr ⟨_, hi, em, rfl, qe_us, nB⟩))⟩
    · rw [qe_jf z, qe_uself] at g
      have nz : ¬ (s (n * 72 + sl)).1 = 0 := fun y => z ⟨nB, Or.inl y⟩
      have hy := rE.1 (n * 72 + sl) hi
      show wY_exchange_46 post (nI ib) (nI (n * 72 + sl)) hg hd yk ys yv al m1 m2 m3 m4 m5
      unfold wY_exchange_46
      rw [ci]
      exact ⟨vi, br_f (fun y => nz ((qe_er0 hy).mp y)) (g _ _ I (Or.inr ⟨_, hi, em, rfl, rfl, nz⟩))⟩
theorem qy_agL (post : Int32 → SY → Prop) (J : Int32 → Int32 → Int32 → Int32 → (Nat → Int32) → (Nat → Int32) → (Nat → Int32) → (Nat → Int32) → (Nat → Int32) → (Nat → Int32) → (Nat → Int32) → (Nat → Int32) → (Nat → Int32) → Prop)
    {p sl L q : Nat} (hp : p < 8) (hs : sl < 72) (hL : L < 4) (S : (Nat → qe_E) × qe_E)
    (g : ∀ (best hg hd : Int32) (yk ys yv al m1 m2 m3 m4 m5 : Nat → Int32), qy_R kh dn (qr_as dn p L sl S 3).1 f H (hg, hd, yk, ys, yv, al, m1, m2, m3, m4, m5) → qy_B sl (qr_as dn p L sl S 3).1 (qr_as dn p L sl S 3).2 best → J best (nI (q + 1)) hg hd yk ys yv al m1 m2 m3 m4 m5) :
    ∀ d r, r + d = 3 → ∀ (best hg hd : Int32) (yk ys yv al m1 m2 m3 m4 m5 : Nat → Int32), qy_R kh dn (qr_as dn p L sl S r).1 f H (hg, hd, yk, ys, yv, al, m1, m2, m3, m4, m5) → qy_B sl (qr_as dn p L sl S r).1 (qr_as dn p L sl S r).2 best →
      wY_agree_18 post J (nI p) (nI sl) (nI L) (nI q) (d + 1) best (nI (qr_ac dn p L r)) (nI r) hg hd yk ys yv al m1 m2 m3 m4 m5 := by
  intro d
  induction d with
  | zero =>
    intro r hr best hg hd yk ys yv al m1 m2 m3 m4 m5 I hB
    obtain rfl : r = 3 := by omega
    exact br_t (Int32.le_refl _) (nm_r (nI_1 q) (g _ _ _ _ _ _ _ _ _ _ _ _ I hB))
  | succ d ih =>
    intro r hr best hg hd yk ys yv al m1 m2 m3 m4 m5 I hB
    have i := ih (r + 1) (by omega)
    have A : qy_A dn al := I.2.2.2.1
    have ha := qr_acle dn p L r
    have nr : qr_nd p r < 4 := by unfold qr_nd; omega
    have cl : (nI (qr_nd p r)).toNatClampNeg = qr_nd p r := nI_clamp (by omega)
    refine br_f (nI_ge (b := 3) (by omega) (by decide)) (qy_rep _ (by omega) (by omega) ?_)
    refine ⟨vp_in_nI nr (by omega), ?_⟩
    rw [cl]
    by_cases z : dn (qr_nd p r) = 0
    · refine br_f (qy_A0 A nr z) (pk_le L (qr_ac dn p L r) (fun c => ?_) (fun c => ?_))
      · have nA : ¬ qr_A dn p L r := fun y => by have := y.2; omega
        have e : qr_ac dn p L (r + 1) = qr_ac dn p L r := if_neg nA
        rw [e, qr_asf nA] at i
        exact nm_r (nI_1 r) (i _ _ _ _ _ _ _ _ _ _ _ _ I hB)
      · have yA : qr_A dn p L r := ⟨z, c⟩
        have e : qr_ac dn p L (r + 1) = qr_ac dn p L r + 1 := if_pos yA
        rw [e, qr_ast yA] at i
        refine nm_r (nI_1 _) (qy_ex _ nr hs I hB (fun v' best' I' hB' => ?_))
        obtain ⟨bg, bd, b1, b2, b3, b4, b5, b6, b7, b8, b9⟩ := v'
        exact nm_r (nI_1 r) (i _ _ _ _ _ _ _ _ _ _ _ _ I' hB')
    · have nA : ¬ qr_A dn p L r := fun y => z y.1
      have e : qr_ac dn p L (r + 1) = qr_ac dn p L r := if_neg nA
      rw [e, qr_asf nA] at i
      exact br_t (qy_A1 A nr z) (nm_r (nI_1 r) (i _ _ _ _ _ _ _ _ _ _ _ _ I hB))
theorem qy_ag (post : Int32 → SY → Prop) {p sl L : Nat} (hp : p < 8) (hs : sl < 72) (hL : L < 4) {V : SY} (I : qy_R kh dn s f H V)
    (g : ∀ v' best, qy_R kh dn (qr_one dn p L sl s) f H v' → qy_B sl (qr_one dn p L sl s) (qr_M dn p L sl s) best → post best v') : wpY_agree post V (nI p) (nI sl) (nI L) := by
  have G := (qy_G I).1
  have two := qr_two (dn := dn) (p := p) (L := L) G hs
  obtain ⟨hg, hd, yk, ys, yv, al, m1, m2, m3, m4, m5⟩ := V
  unfold wpY_agree
  refine ⟨3, br_f (by decide) ⟨4, ?_⟩⟩
  refine qy_agL post _ (q := 0) hp hs hL (s, qe_z) (fun best hg hd yk ys yv al m1 m2 m3 m4 m5 I hB => ?_) 3 0 rfl _ _ _ _ _ _ _ _ _ _ _ _ I (Or.inl ⟨rfl, rfl⟩)
  refine br_f (by decide) ⟨4, ?_⟩
  refine qy_agL post _ (q := 1) hp hs hL (qr_as dn p L sl (s, qe_z) 3) (fun best hg hd yk ys yv al m1 m2 m3 m4 m5 I hB => ?_) 3 0 rfl _ _ _ _ _ _ _ _ _ _ _ _ I hB
  rw [two] at I hB
  exact br_t (Int32.le_refl _) (g _ _ I hB)
theorem qa_lv (x : Int32) : x < 1 ∨ 3 < x ∨ ∃ L : Nat, 1 ≤ L ∧ L ≤ 3 ∧ x = nI L := by
  by_cases h : x < 1
  · exact Or.inl h
  · by_cases k : 3 < x
    · exact Or.inr (Or.inl k)
    · have h0 : ¬ x < 0 := fun z => h (Int32.lt_trans z (by decide))
      obtain ⟨j, hj, rfl⟩ := nI_of h0
      have a : ¬ j < 1 := fun z => h (nI_lt (b := 1) z (by decide))
      have b : ¬ 3 < j := fun z => k (nI_lt (a := 3) z hj)
      exact Or.inr (Or.inr ⟨j, by omega, by omega, rfl⟩)
theorem qa_L1 {L : Nat} (h : 1 ≤ L) (k : L ≤ 3) : ¬ nI L < 1 := nI_nlt (b := 1) h (by omega)
theorem qa_L3 {L : Nat} (k : L ≤ 3) : ¬ 3 < nI L := nI_nlt (a := 3) k (by decide)
theorem qa_L3' {L : Nat} (k : L ≤ 3) : nI L ≤ 3 := nI_le (b := 3) k (by decide)
theorem qy_am1 (post : Int32 → Prop) {V : SY} {j N : Nat} (h : j < N) (hN : N < 1000) (g : post 1) : wpY_among post V (nI j) (nI N) := by
  obtain ⟨hg, hd, yk, ys, yv, al, m1, m2, m3, m4, m5⟩ := V
  exact br_f (nI_pos (by omega)) (br_f (nI_ge h (by omega)) g)
theorem qy_am0 (post : Int32 → Prop) {V : SY} {x N : Int32} (h : x < 0 ∨ N ≤ x) (g : post 0) : wpY_among post V x N := by
  obtain ⟨hg, hd, yk, ys, yv, al, m1, m2, m3, m4, m5⟩ := V
  refine br_c (fun _ => g) (fun z => ?_)
  rcases h with c | c
  · exact absurd c z
  · exact br_t c g
theorem qy_rd (post : Int64 → SY → Prop) {pl L : Nat} (hpl : pl < 64) (h1 : 1 ≤ L) (h3 : L ≤ 3) {V : SY} (I : qy_R kh dn s f H V)
    (g1 : L ≤ qr_ct dn (pl / 8) 3 → ∀ v', qy_R kh dn (qr_rd dn L pl s) f H v' → post (qr_av dn L pl s) v') (g0 : qr_ct dn (pl / 8) 3 < L → post (-1000000000000) V) : wpY_read post V (nI pl) (nI L) := by
  have hc := qr_ctle dn (pl / 8) 3
  obtain ⟨hg, hd, yk, ys, yv, al, m1, m2, m3, m4, m5⟩ := V
  unfold wpY_read
  dsimp only
  refine qy_am1 (N := 64) _ hpl (by decide) (br_f qe_n10 (br_f (qa_L1 h1 h3) (br_f (qa_L3 h3) ⟨qa_n8, ?_⟩)))
  rw [qa_8 (by omega)]
  refine qy_uc _ (by omega) I (pk_le L _ (fun c => ⟨qa_n8, ?_⟩) (fun c => g0 c))
  refine qy_ag _ (by omega) (by omega) (by omega) I (fun v1 b1 I1 B1 => ?_)
  obtain ⟨bg, bd, b1', b2, b3, b4, b5, b6, b7, b8, b9⟩ := v1
  refine ⟨qa_n8, qa_n8, ?_⟩
  rw [qa_64]
  refine qy_ag _ (by omega) (by omega) (by omega) I1 (fun v2 b2 I2 B2 => ?_)
  have g := g1 c v2 I2
  unfold qr_av at g
  obtain ⟨dg, dd, d1, d2, d3, d4, d5, d6, d7, d8, d9⟩ := v2
  dsimp only
  have dE : qy_E (qr_one dn (pl / 8) L (64 + pl / 8) (qr_one dn (pl / 8) L pl s)) f d1 d2 d3 := I2.2.2.1
  generalize hMw : qr_M dn (pl / 8) L (64 + pl / 8) (qr_one dn (pl / 8) L pl s) = Mw at B2 g
  rcases B1 with ⟨rfl, eM⟩ | ⟨ib, hb, eb, rfl, eB, nB⟩
  · rw [eM, qr_lvf (fun z => qe_n01 z.1)] at g
    exact br_t qy_m1 g
  · have vb : vp_in (nI ib) 576 := vp_in_nI (by omega) (by omega)
    have cb : (nI ib).toNatClampNeg = ib := nI_clamp (by omega)
    have hx := dE.1 ib hb
    rw [qr_oneo (by omega) (by omega), eB, eb] at hx
    generalize qr_M dn (pl / 8) L pl s = Me at hx g nB
    refine br_f (nI_pos (by omega)) ?_
    rw [cb]
    refine ⟨vb, fun z => ?_, fun z => ?_⟩
    · have m1 : Me.1 = 1 := (qe_er1 hx).mp z
      have mv := qe_erst hx (by rw [z]; exact qe_n10)
      rcases B2 with ⟨rfl, eW⟩ | ⟨iw, hw, ew, rfl, eW, nW⟩
      · rw [qr_lvt m1 (by rw [eW]; exact fun y => absurd y.1 (by decide)), ← mv.2] at g
        exact br_t qy_m1 ⟨vb, g⟩
      · have vw : vp_in (nI iw) 576 := vp_in_nI (by omega) (by omega)
        have cw : (nI iw).toNatClampNeg = iw := nI_clamp (by omega)
        have hy := dE.1 iw hw
        rw [eW, ew] at hy
        have w3 : Mw.1 = 3 := by
          rcases qe_erg hy with q | q | q | q
          · rw [q] at nW; exact absurd rfl nW
          · omega
          · omega
          · exact q.2.1
        have wv := qe_erst hy (fun q => nW ((qe_er0 hy).mp q))
        refine br_f (nI_pos (by omega)) ?_
        rw [cw, wv.1, mv.1]
        refine ⟨vw, vb, fun q => ⟨vb, ?_⟩, fun q => ?_⟩
        · rw [qr_lvt m1 (fun y => absurd q (Int32.not_lt.mpr y.2)), ← mv.2] at g
          exact g
        · rw [qr_lvf (fun y => y.2 ⟨w3, Int32.not_lt.mp q⟩)] at g
          exact g
    · rw [qr_lvf (fun y => z ((qe_er1 hx).mpr y.1))] at g
      exact g
theorem qy_smL (post : Int64 → SY → Prop) {p L : Nat} (hp : p < 8) (h1 : 1 ≤ L) (h3 : L ≤ 3) (hL : L ≤ qr_ct dn p 3) (g : ∀ v', qy_R kh dn (qr_sm dn L p s 8).1 f H v' → post (qr_sm dn L p s 8).2 v') :
    ∀ d c, c + d = 8 → ∀ (hg hd : Int32) (yk ys yv al m1 m2 m3 m4 m5 : Nat → Int32), qy_R kh dn (qr_sm dn L p s c).1 f H (hg, hd, yk, ys, yv, al, m1, m2, m3, m4, m5) → wY_sum_38 post (nI p) (nI L) (d + 1) (qr_sm dn L p s c).2 (nI c) hg hd yk ys yv al m1 m2 m3 m4 m5 := by
  intro d
  induction d with
  | zero =>
    intro c hc hg hd yk ys yv al m1 m2 m3 m4 m5 I
    obtain rfl : c = 8 := by omega
    exact br_t (Int32.le_refl _) (g _ I)
  | succ d ih =>
    intro c hc hg hd yk ys yv al m1 m2 m3 m4 m5 I
    have i := ih (c + 1) (by omega)
    refine br_f (nI_ge (b := 8) (by omega) (by decide)) ?_
    rw [show nI p * 8 + nI c = nI (p * 8 + c) by rw [show (8 : Int32) = nI 8 from rfl, pk_mul, nI_add]]
    have ep : (p * 8 + c) / 8 = p := by omega
    refine qy_rd _ (by omega) h1 h3 I (fun _ v' I' => ?_) (fun z => absurd z (by rw [ep]; omega))
    obtain ⟨dg, dd, d1, d2, d3, d4, d5, d6, d7, d8, d9⟩ := v'
    have k := i _ _ _ _ _ _ _ _ _ _ _ I'
    refine br_c (fun z => ?_) (fun z => ?_)
    · have e : (qr_sm dn L p s (c + 1)).2 = (qr_sm dn L p s c).2 := if_pos z
      rw [e] at k
      exact nm_r (nI_1 c) k
    · have e : (qr_sm dn L p s (c + 1)).2 = (qr_sm dn L p s c).2 + qr_av dn L (p * 8 + c) (qr_sm dn L p s c).1 := if_neg z
      rw [e] at k
      exact nm_e (nm_r (nI_1 c) k)
end
