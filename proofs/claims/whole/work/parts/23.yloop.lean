/-! the reference: loops over a node's slots -/
section
variable {kh : Int32} {dn : Nat → Int32} {s f : Nat → qe_E} {H : List qh_H}
theorem qy_cnL (post : Int32 → Prop) {n : Nat} (h4 : n < 4) {hg hd : Int32} {yk ys yv al m1 m2 m3 m4 m5 : Nat → Int32} (E : qy_E s f yk ys yv) (h : post (nI (qk_cn s n 64))) : ∀ d k, k + d = 64 → wY_entries_4 post (nI n) hg hd yk ys yv al m1 m2 m3 m4 m5 (d + 1) (nI (qk_cn s n k)) (nI k) := by
  intro d
  induction d with
  | zero =>
    intro k hk
    obtain rfl : k = 64 := by omega
    exact br_t (Int32.le_refl _) h
  | succ d ih =>
    intro k hk
    have i := ih (k + 1) (by omega)
    have vi : vp_in (nI (n * 72 + k)) 576 := vp_in_nI (by omega) (by omega)
    have ci : (nI (n * 72 + k)).toNatClampNeg = n * 72 + k := nI_clamp (by omega)
    have e0 := qe_er0 (E.1 (n * 72 + k) (by omega))
    refine br_f (nI_ge (b := 64) (by omega) (by decide)) ?_
    rw [qa_ix, ci]
    refine ⟨vi, br_c (fun z => ?_) (fun z => ?_)⟩
    · have e : qk_cn s n (k + 1) = qk_cn s n k := if_pos (e0.mp z)
      rw [e] at i
      exact nm_r (nI_1 k) i
    · have e : qk_cn s n (k + 1) = qk_cn s n k + 1 := if_neg (fun y => z (e0.mpr y))
      rw [e] at i
      exact nm_r (nI_1 _) (nm_r (nI_1 k) i)
theorem qy_cn (post : Int32 → Prop) {n : Nat} (h4 : n < 4) {V : SY} (I : qy_R kh dn s f H V) (h : post (nI (qk_cn s n 64))) : wpY_entries post V (nI n) := by
  obtain ⟨hg, hd, yk, ys, yv, al, m1, m2, m3, m4, m5⟩ := V
  exact ⟨65, qy_cnL post h4 I.2.2.1 h 64 0 rfl⟩
theorem qa_4n (n k : Nat) : nI (4 + n) * 72 + nI k = nI (288 + (n * 72 + k)) := by
  rw [qa_ix]; exact congrArg nI (by omega)
theorem qy_crL (post : SY → Prop) {n : Nat} (h4 : n < 4) {hg hd : Int32} {al m1 m2 m3 m4 m5 : Nat → Int32} (h : ∀ yk ys yv, qy_E (qk_cp n f s) f yk ys yv → post (hg, hd, yk, ys, yv, al, m1, m2, m3, m4, m5)) :
    ∀ d k, k + d = 72 → ∀ yk ys yv, qy_E (qk_mix (n * 72) (n * 72 + k) f s) f yk ys yv → wY_copy_2 post (nI (4 + n)) (nI n) hg hd (d + 1) (nI k) yk ys yv al m1 m2 m3 m4 m5 := by
  intro d
  induction d with
  | zero =>
    intro k hk yk ys yv E
    obtain rfl : k = 72 := by omega
    exact br_t (Int32.le_refl _) (h _ _ _ E)
  | succ d ih =>
    intro k hk yk ys yv E
    have va : vp_in (nI (288 + (n * 72 + k))) 576 := vp_in_nI (by omega) (by omega)
    have ca : (nI (288 + (n * 72 + k))).toNatClampNeg = 288 + (n * 72 + k) := nI_clamp (by omega)
    have vb : vp_in (nI (n * 72 + k)) 576 := vp_in_nI (by omega) (by omega)
    have cb : (nI (n * 72 + k)).toNatClampNeg = n * 72 + k := nI_clamp (by omega)
    have he := E.2 (n * 72 + k) (by omega)
    have U := qy_up E (i := n * 72 + k) (by omega) he
    rw [qk_s (by omega) rfl] at U
    refine br_f (nI_ge (b := 72) (by omega) (by decide)) ?_
    rw [qa_4n, qa_ix, ca, cb]
    exact ⟨va, vb, nm_r (congrArg (upd yk (n * 72 + k)) (qy_nb (qe_erk he))) ⟨va, vb, nm_e ⟨va, vb, nm_e (nm_r (nI_1 k) (ih (k + 1) (by omega) _ _ _ U))⟩⟩⟩
theorem qy_cr (post : SY → Prop) {n : Nat} (h4 : n < 4) {V : SY} (I : qy_R kh dn s f H V) (g : ∀ v', qy_R kh dn (qk_cp n f s) f H v' → post v') : wpY_copy post V (4 + nI n) (nI n) := by
  obtain ⟨hg, hd, yk, ys, yv, al, m1, m2, m3, m4, m5⟩ := V
  obtain ⟨r1, r2, rE, rA, rH⟩ := I
  have k := qy_crL (hg := hg) (hd := hd) (al := al) (m1 := m1) (m2 := m2) (m3 := m3) (m4 := m4) (m5 := m5) post h4 (fun yk ys yv E => g _ ⟨r1, r2, E, rA, rH⟩) 72 0 rfl yk ys yv (by rw [qk_00]; exact rE)
  unfold wpY_copy
  dsimp only
  rw [show (4 : Int32) + nI n = nI (4 + n) from nI_add 4 n]
  exact ⟨73, k⟩
theorem qy_flL (post : SY → Prop) {n : Nat} (h4 : n < 4) {hg hd : Int32} {al m1 m2 m3 m4 m5 : Nat → Int32} (h : ∀ yk ys yv, qy_E s (qk_cp n s f) yk ys yv → post (hg, hd, yk, ys, yv, al, m1, m2, m3, m4, m5)) :
    ∀ d k, k + d = 72 → ∀ yk ys yv, qy_E s (qk_mix (n * 72) (n * 72 + k) s f) yk ys yv → wY_copy_2 post (nI n) (nI (4 + n)) hg hd (d + 1) (nI k) yk ys yv al m1 m2 m3 m4 m5 := by
  intro d
  induction d with
  | zero =>
    intro k hk yk ys yv E
    obtain rfl : k = 72 := by omega
    exact br_t (Int32.le_refl _) (h _ _ _ E)
  | succ d ih =>
    intro k hk yk ys yv E
    have va : vp_in (nI (288 + (n * 72 + k))) 576 := vp_in_nI (by omega) (by omega)
    have ca : (nI (288 + (n * 72 + k))).toNatClampNeg = 288 + (n * 72 + k) := nI_clamp (by omega)
    have vb : vp_in (nI (n * 72 + k)) 576 := vp_in_nI (by omega) (by omega)
    have cb : (nI (n * 72 + k)).toNatClampNeg = n * 72 + k := nI_clamp (by omega)
    have he := E.1 (n * 72 + k) (by omega)
    have U := qy_upf E (i := n * 72 + k) (by omega) he
    rw [qk_s (by omega) rfl] at U
    refine br_f (nI_ge (b := 72) (by omega) (by decide)) ?_
    rw [qa_4n, qa_ix, ca, cb]
    exact ⟨vb, va, nm_r (congrArg (upd yk (288 + (n * 72 + k))) (qy_nb (qe_erk he))) ⟨vb, va, nm_e ⟨vb, va, nm_e (nm_r (nI_1 k) (ih (k + 1) (by omega) _ _ _ U))⟩⟩⟩
theorem qy_fl (post : SY → Prop) {n : Nat} (h4 : n < 4) {V : SY} (I : qy_R kh dn s f H V) (g : ∀ v', qy_R kh dn s (qk_cp n s f) H v' → post v') : wpY_copy post V (nI n) (4 + nI n) := by
  obtain ⟨hg, hd, yk, ys, yv, al, m1, m2, m3, m4, m5⟩ := V
  obtain ⟨r1, r2, rE, rA, rH⟩ := I
  have k := qy_flL (hg := hg) (hd := hd) (al := al) (m1 := m1) (m2 := m2) (m3 := m3) (m4 := m4) (m5 := m5) post h4 (fun yk ys yv E => g _ ⟨r1, r2, E, rA, rH⟩) 72 0 rfl yk ys yv (by rw [qk_00]; exact rE)
  unfold wpY_copy
  dsimp only
  rw [show (4 : Int32) + nI n = nI (4 + n) from nI_add 4 n]
  exact ⟨73, k⟩
/-- flush of a node that is up -/
theorem qy_flush (post : Int32 → SY → Prop) {n : Nat} (h4 : n < 4) (hu : dn n = 0) {V : SY} (I : qy_R kh dn s f H V) (g : ∀ v', qy_R kh dn s (qk_cp n s f) H v' → post (nI (qk_cn s n 64)) v') : wpY_flush post V (nI n) := by
  obtain ⟨hg, hd, yk, ys, yv, al, m1, m2, m3, m4, m5⟩ := V
  have A : qy_A dn al := I.2.2.2.1
  have cn : (nI n).toNatClampNeg = n := nI_clamp (by omega)
  unfold wpY_flush
  dsimp only
  refine qy_am1 (N := 4) _ h4 (by decide) (br_f qe_n10 ⟨vp_in_nI h4 (by omega), ?_⟩)
  rw [cn]
  refine br_f (qy_A0 A h4 hu) (qy_fl _ h4 I (fun v' I' => ?_))
  have k := g v' I'
  obtain ⟨bg, bd, b1, b2, b3, b4, b5, b6, b7, b8, b9⟩ := v'
  exact qy_cn _ h4 I' k
/-- compaction, the wipes -/
theorem qy_cwL (post : Int32 → SY → Prop) {n : Nat} {b : Int32} (h4 : n < 4) {hg hd : Int32} {al m1 m2 m3 m4 m5 : Nat → Int32} (h : ∀ yk ys yv, qy_E (qk_mix (n * 72 + 64) (n * 72 + 72) (qk_fw b s) s) f yk ys yv → wpY_flush (fun r u => post r u) (hg, hd, yk, ys, yv, al, m1, m2, m3, m4, m5) (nI n)) :
    ∀ d k, 64 ≤ k → k + d = 72 → ∀ yk ys yv, qy_E (qk_mix (n * 72 + 64) (n * 72 + k) (qk_fw b s) s) f yk ys yv → wY_compact_132 post (nI n) b hg hd (d + 1) (nI (n * 72 + k)) yk ys yv al m1 m2 m3 m4 m5 := by
  intro d
  induction d with
  | zero =>
    intro k h64 hk yk ys yv E
    obtain rfl : k = 72 := by omega
    refine br_t ?_ (h _ _ _ E)
    rw [show (72 : Int32) = nI 72 from rfl, pk_mul, nI_add]
    exact Int32.le_refl _
  | succ d ih =>
    intro k h64 hk yk ys yv E
    have i := ih (k + 1) (by omega) (by omega)
    have vb : vp_in (nI (n * 72 + k)) 576 := vp_in_nI (by omega) (by omega)
    have cb : (nI (n * 72 + k)).toNatClampNeg = n * 72 + k := nI_clamp (by omega)
    have he := E.1 (n * 72 + k) (by omega)
    rw [qk_o (by omega)] at he
    have em : ¬ (n * 72 + k) % 72 < 64 := by omega
    refine br_f ?_ ?_
    · rw [show (72 : Int32) = nI 72 from rfl, pk_mul, nI_add]
      exact nI_ge (by omega) (by omega)
    rw [cb]
    have e1 : nI (n * 72 + k) + 1 = nI (n * 72 + (k + 1)) := nI_1 _
    refine ⟨vb, fun z => ?_, fun z => ⟨vb, nm_r (congrArg (upd yk (n * 72 + k)) qy_b0) ?_⟩⟩
    · have ef : s (n * 72 + k) = qk_fw b s (n * 72 + k) := by
        unfold qk_fw
        rw [if_neg]
        intro y
        have k0 : ¬ yk (n * 72 + k) = 0 := fun w => absurd (((qe_er0 he).mp w).symm.trans y.1) (by decide)
        rw [← (qe_erst he k0).1] at y
        exact absurd y.2 (Int32.not_lt.mpr z)
      rw [qk_st (by omega) ef] at E
      exact nm_r e1 (i _ _ _ E)
    · have ef : qe_z = qk_fw b s (n * 72 + k) := by
        unfold qk_fw
        rcases he with w | w | w | w
        · rw [w.1]; split <;> rfl
        · exact absurd w.1 em
        · exact absurd w.1 em
        · rw [w.2.1, if_pos ⟨rfl, Int32.not_le.mp z⟩]
      have U := qy_z E (i := n * 72 + k) (by omega)
      rw [qk_s (by omega) ef] at U
      exact nm_r e1 (i _ _ _ U)
theorem qk_1e {n k : Nat} (hk : k < 64) : qk_1 n s (n * 72 + k) = if qk_hd s n k then qe_z else s (n * 72 + k) := by
  have ek : n * 72 + k - n * 72 = k := by omega
  unfold qk_1
  rw [qk_i (by omega) (by omega)]
  unfold qk_fh
  rw [ek]
theorem qk_2e {n k : Nat} {b : Int32} (hk : k < 64) : qk_2 n b s (n * 72 + k) = if (qk_1 n s (n * 72 + k)).1 = 2 ∧ (qk_1 n s (n * 72 + k)).2.1 < b then qe_z else qk_1 n s (n * 72 + k) := by
  unfold qk_2
  rw [qk_i (by omega) (by omega)]
  rfl
theorem qk_2o {n : Nat} {b : Int32} : qk_mix (n * 72) (n * 72 + 64) (qk_2 n b s) s = qk_2 n b s := by
  refine qk_F (fun j hj => ?_)
  unfold qk_2
  rw [qk_o hj]
  unfold qk_1
  exact qk_o hj
/-- compaction, the second test of a place -/
theorem qy_c88 (post : Int32 → SY → Prop) (J : Int32 → (Nat → Int32) → (Nat → Int32) → (Nat → Int32) → (Nat → Int32) → (Nat → Int32) → (Nat → Int32) → (Nat → Int32) → (Nat → Int32) → (Nat → Int32) → Prop)
    {n k : Nat} {b : Int32} (h4 : n < 4) (hk : k < 64) {g : Nat → qe_E} (hm : g = qk_mix (n * 72) (n * 72 + k) (qk_2 n b s) s) {hg hd : Int32} {yk ys yv al m1 m2 m3 m4 m5 : Nat → Int32} (E : qy_E (qe_up g (n * 72 + k) (qk_1 n s (n * 72 + k))) f yk ys yv)
    (h : ∀ yk ys yv, qy_E (qk_mix (n * 72) (n * 72 + (k + 1)) (qk_2 n b s) s) f yk ys yv → J (nI (k + 1)) yk ys yv al m1 m2 m3 m4 m5) : wY_compact_88 post J (nI n) b (nI k) (nI (n * 72 + k)) hg hd yk ys yv al m1 m2 m3 m4 m5 := by
  have vb : vp_in (nI (n * 72 + k)) 576 := vp_in_nI (by omega) (by omega)
  have cb : (nI (n * 72 + k)).toNatClampNeg = n * 72 + k := nI_clamp (by omega)
  have he := E.1 (n * 72 + k) (by omega)
  rw [qe_us] at he
  have em : (n * 72 + k) % 72 < 64 := by omega
  have e2 := qk_2e (s := s) (n := n) (b := b) hk
  have es : qe_up (qk_mix (n * 72) (n * 72 + k) (qk_2 n b s) s) (n * 72 + k) (qk_2 n b s (n * 72 + k)) = qk_mix (n * 72) (n * 72 + (k + 1)) (qk_2 n b s) s := qk_s (by omega) rfl
  have keep : qk_2 n b s (n * 72 + k) = qk_1 n s (n * 72 + k) → J (nI (k + 1)) yk ys yv al m1 m2 m3 m4 m5 := by
    intro w
    refine h _ _ _ ?_
    rw [← es, w, ← hm]
    exact E
  unfold wY_compact_88
  rw [cb]
  refine ⟨vb, fun z => ⟨vb, fun y => nm_r (nI_1 k) (keep ?_), fun y => ⟨vb, nm_r (congrArg (upd yk (n * 72 + k)) qy_b0) (nm_r (nI_1 k) (h _ _ _ ?_))⟩⟩, fun z => nm_r (nI_1 k) (keep ?_)⟩
  · have k0 : ¬ yk (n * 72 + k) = 0 := by rw [z]; exact qe_n20
    rw [e2, if_neg]
    intro w
    rw [← (qe_erst he k0).1] at w
    exact absurd w.2 (Int32.not_lt.mpr y)
  · have k0 : ¬ yk (n * 72 + k) = 0 := by rw [z]; exact qe_n20
    have e3 : qk_2 n b s (n * 72 + k) = qe_z := by
      rw [e2, if_pos]
      refine ⟨?_, ?_⟩
      · rcases he with w | w | w | w
        · exact absurd (z.symm.trans w.2) qe_n20
        · exact absurd (z.symm.trans w.2.2) qe_n21
        · rw [w.2.1]
        · exact absurd em w.1
      · rw [← (qe_erst he k0).1]; exact Int32.not_le.mp y
    have U := qy_z E (i := n * 72 + k) (by omega)
    rw [← es, e3, ← hm]
    have eu : qe_up (qe_up g (n * 72 + k) (qk_1 n s (n * 72 + k))) (n * 72 + k) qe_z = qe_up g (n * 72 + k) qe_z := by
      funext j
      by_cases c : j = n * 72 + k
      · rw [c, qe_us, qe_us]
      · rw [qe_un c, qe_un c, qe_un c]
    rw [eu] at U
    exact U
  · rw [e2, if_neg]
    intro w
    rcases he with q | q | q | q
    · rw [q.1] at w; exact absurd w.1 (by decide)
    · rw [q.2.1] at w; exact absurd w.1 (by decide : ¬ (1 : Int32) = 2)
    · exact z q.2.2.1
    · exact absurd em q.1
theorem qy_cpL (post : Int32 → SY → Prop) {n : Nat} {b : Int32} (h4 : n < 4) {hg hd : Int32} {al m1 m2 m3 m4 m5 : Nat → Int32} (h : ∀ yk ys yv, qy_E (qk_2 n b s) f yk ys yv → ∃ n132, wY_compact_132 post (nI n) b hg hd n132 (nI (n * 72 + 64)) yk ys yv al m1 m2 m3 m4 m5) :
    ∀ d k, k + d = 64 → ∀ yk ys yv, qy_E (qk_mix (n * 72) (n * 72 + k) (qk_2 n b s) s) f yk ys yv → wY_compact_25 post (nI n) b hg hd (d + 1) (nI k) yk ys yv al m1 m2 m3 m4 m5 := by
  intro d
  induction d with
  | zero =>
    intro k hk yk ys yv E
    obtain rfl : k = 64 := by omega
    rw [qk_2o] at E
    refine br_t (Int32.le_refl _) (nm_r (e' := nI (n * 72 + 64)) ?_ (h _ _ _ E))
    rw [show (72 : Int32) = nI 72 from rfl, show (64 : Int32) = nI 64 from rfl, pk_mul, nI_add]
  | succ d ih =>
    intro k hk yk ys yv E
    have i := ih (k + 1) (by omega)
    have vb : vp_in (nI (n * 72 + k)) 576 := vp_in_nI (by omega) (by omega)
    have cb : (nI (n * 72 + k)).toNatClampNeg = n * 72 + k := nI_clamp (by omega)
    have vw : vp_in (nI (n * 72 + 64 + k / 8)) 576 := vp_in_nI (by omega) (by omega)
    have cw : (nI (n * 72 + 64 + k / 8)).toNatClampNeg = n * 72 + 64 + k / 8 := nI_clamp (by omega)
    have he := E.1 (n * 72 + k) (by omega)
    have hw := E.1 (n * 72 + 64 + k / 8) (by omega)
    rw [qk_o (by omega)] at he hw
    have em : (n * 72 + k) % 72 < 64 := by omega
    have wm : ¬ (n * 72 + 64 + k / 8) % 72 < 64 := by omega
    have e1 := qk_1e (s := s) (n := n) (k := k) (by omega)
    have keep : qk_1 n s (n * 72 + k) = s (n * 72 + k) → qy_E (qe_up (qk_mix (n * 72) (n * 72 + k) (qk_2 n b s) s) (n * 72 + k) (qk_1 n s (n * 72 + k))) f yk ys yv := by
      intro w
      have ee : qk_mix (n * 72) (n * 72 + k) (qk_2 n b s) s (n * 72 + k) = s (n * 72 + k) := qk_o (by omega)
      rw [w, ← ee, qe_uself]
      exact E
    refine br_f (nI_ge (b := 64) (by omega) (by decide)) (nm_r (qa_ix n k) ⟨qa_n8, nm_r (qa_w n k (by omega)) ?_⟩)
    rw [cb, cw]
    refine ⟨vw, fun z => ?_, fun z => ⟨vw, vb, fun y => ?_, fun y => ⟨vb, nm_r (congrArg (upd yk (n * 72 + k)) qy_b0) ?_⟩⟩⟩
    · refine qy_c88 post _ h4 (by omega) rfl (keep ?_) i
      rw [e1, if_neg]
      intro q
      exact absurd (((qe_er0 hw).mp z).symm.trans q.1) (by decide)
    · refine qy_c88 post _ h4 (by omega) rfl (keep ?_) i
      rw [e1]
      by_cases k0 : yk (n * 72 + k) = 0
      · have ez := qe_gz (qe_erg he) ((qe_er0 he).mp k0)
        split
        · exact ez.symm
        · rfl
      · rw [if_neg]
        intro q
        have q2 := q.2
        rw [← (qe_erst he k0).1, ← (qe_erst hw z).1] at q2
        exact absurd y (Int32.not_lt.mpr q2)
    · have ez : qk_1 n s (n * 72 + k) = qe_z := by
        rw [e1]
        by_cases k0 : yk (n * 72 + k) = 0
        · have ez := qe_gz (qe_erg he) ((qe_er0 he).mp k0)
          split
          · rfl
          · exact ez
        · rw [if_pos]
          refine ⟨?_, ?_⟩
          · rcases hw with q | q | q | q
            · exact absurd q.2 z
            · exact absurd q.1 wm
            · exact absurd q.1 wm
            · rw [q.2.1]
          · rw [← (qe_erst he k0).1, ← (qe_erst hw z).1]; exact Int32.not_lt.mp y
      refine qy_c88 post _ h4 (by omega) rfl ?_ i
      rw [ez]
      exact qy_z E (by omega)
end
