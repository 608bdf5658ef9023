/-! the reference: its state, taking in, counting -/
section
def qy_E (s f : Nat → qe_E) (yk ys yv : Nat → Int32) : Prop :=
  (∀ j, j < 288 → qe_er (j % 72 < 64) (s j) (yk j) (ys j) (yv j)) ∧ (∀ j, j < 288 → qe_er (j % 72 < 64) (f j) (yk (288 + j)) (ys (288 + j)) (yv (288 + j)))
def qy_A (dn al : Nat → Int32) : Prop := ∀ j, j < 4 → (dn j = 0 ∧ al j = 1) ∨ (¬ dn j = 0 ∧ al j = 0)
theorem qy_A0 {dn al : Nat → Int32} (h : qy_A dn al) {j : Nat} (hj : j < 4) (z : dn j = 0) : ¬ al j = 0 := by
  rcases h j hj with c | c
  · rw [c.2]; exact qe_n10
  · exact absurd z c.1
theorem qy_A1 {dn al : Nat → Int32} (h : qy_A dn al) {j : Nat} (hj : j < 4) (z : ¬ dn j = 0) : al j = 0 := by
  rcases h j hj with c | c
  · exact absurd c.1 z
  · exact c.2
def qy_R (kh : Int32) (dn : Nat → Int32) (s f : Nat → qe_E) (H : List qh_H) (v : SY) : Prop := match v with
  | (hg, hd, yk, ys, yv, al, m1, m2, m3, m4, m5) => hg = kh ∧ hd = nI H.length ∧ qy_E s f yk ys yv ∧ qy_A dn al ∧ qh_at (qh_p qh_fy m1 m2 m3 m4 m5) 0 H
theorem qy_G {kh : Int32} {dn : Nat → Int32} {s f : Nat → qe_E} {H : List qh_H} {v : SY} (R : qy_R kh dn s f H v) : qe_G s ∧ qe_G f := by
  obtain ⟨hg, hd, yk, ys, yv, al, m1, m2, m3, m4, m5⟩ := v
  obtain ⟨_, _, rE, _, _⟩ := R
  exact ⟨fun j hj => qe_erg (rE.1 j hj), fun j hj => qe_erg (rE.2 j hj)⟩
theorem qy_up {s f : Nat → qe_E} {yk ys yv : Nat → Int32} (h : qy_E s f yk ys yv) {i : Nat} (hi : i < 288) {e : qe_E} {k t v : Int32} (he : qe_er (i % 72 < 64) e k t v) : qy_E (qe_up s i e) f (upd yk i k) (upd ys i t) (upd yv i v) := by
  refine ⟨fun j hj => ?_, fun j hj => ?_⟩
  · by_cases c : j = i
    · subst c
      rw [qe_us, pk_us, pk_us, pk_us]
      exact he
    · rw [qe_un c, pk_un c, pk_un c, pk_un c]
      exact h.1 j hj
  · have c : 288 + j ≠ i := by omega
    rw [pk_un c, pk_un c, pk_un c]
    exact h.2 j hj
theorem qy_upf {s f : Nat → qe_E} {yk ys yv : Nat → Int32} (h : qy_E s f yk ys yv) {i : Nat} (hi : i < 288) {e : qe_E} {k t v : Int32} (he : qe_er (i % 72 < 64) e k t v) : qy_E s (qe_up f i e) (upd yk (288 + i) k) (upd ys (288 + i) t) (upd yv (288 + i) v) := by
  refine ⟨fun j hj => ?_, fun j hj => ?_⟩
  · have c : j ≠ 288 + i := by omega
    rw [pk_un c, pk_un c, pk_un c]
    exact h.1 j hj
  · by_cases c : j = i
    · subst c
      rw [qe_us, pk_us, pk_us, pk_us]
      exact he
    · have c' : 288 + j ≠ 288 + i := by omega
      rw [qe_un c, pk_un c', pk_un c', pk_un c']
      exact h.2 j hj
theorem qy_z {s f : Nat → qe_E} {yk ys yv : Nat → Int32} (h : qy_E s f yk ys yv) {i : Nat} (hi : i < 288) : qy_E (qe_up s i qe_z) f (upd yk i 0) ys yv := by
  refine ⟨fun j hj => ?_, fun j hj => ?_⟩
  · by_cases c : j = i
    · subst c
      rw [qe_us, pk_us]
      exact qe_erz
    · rw [qe_un c, pk_un c]
      exact h.1 j hj
  · have c : 288 + j ≠ i := by omega
    rw [pk_un c]
    exact h.2 j hj
theorem qe_erk {p : Prop} {x : qe_E} {k s v : Int32} (h : qe_er p x k s v) : k = 0 ∨ k = 1 ∨ k = 2 := by
  rcases h with h | h | h | h
  · exact Or.inl h.2
  · exact Or.inr (Or.inl h.2.2)
  · exact Or.inr (Or.inr h.2.2.1)
  · exact Or.inr (Or.inr h.2.2.1)
theorem qy_b0 : vp_nar .byte 0 = 0 := by rw [vp_nar_byte]; decide
theorem qy_b1 : vp_nar .byte 1 = 1 := by rw [vp_nar_byte]; decide
theorem qy_b2 : vp_nar .byte 2 = 2 := by rw [vp_nar_byte]; decide
theorem qy_i0 : (0 : Int32).toInt8.toInt32 = 0 := by decide
theorem qy_i1 : (1 : Int32).toInt8.toInt32 = 1 := by decide
theorem qy_i2 : (2 : Int32).toInt8.toInt32 = 2 := by decide
theorem qy_nb {k : Int32} (h : k = 0 ∨ k = 1 ∨ k = 2) : vp_nar .byte k = k := by
  rcases h with rfl | rfl | rfl
  · exact qy_b0
  · exact qy_b1
  · exact qy_b2
theorem qy_nbc {k : Int32} (h : k = 0 ∨ k = 1 ∨ k = 2) : vp_nar .byte k.toInt8.toInt32 = k := by
  rcases h with rfl | rfl | rfl
  · rw [qy_i0]; exact qy_b0
  · rw [qy_i1]; exact qy_b1
  · rw [qy_i2]; exact qy_b2
variable {kh : Int32} {dn : Nat → Int32} {s f : Nat → qe_E} {H : List qh_H}
theorem qy_take (post : Int32 → SY → Prop) {a sl : Nat} (ha : a < 4) (hs : sl < 72) {e : qe_E} {k t v : Int32} (he : qe_er (sl < 64) e k t v) (hk : ¬ k = 0) {V : SY} (R : qy_R kh dn s f H V)
    (h1 : qe_nw e (s (a * 72 + sl)) → ∀ v', qy_R kh dn (qe_up s (a * 72 + sl) e) f H v' → post 1 v') (h0 : ¬ qe_nw e (s (a * 72 + sl)) → post 0 V) : wpY_take post V (nI a) (nI sl) k t v := by
  obtain ⟨hg, hd, yk, ys, yv, al, m1, m2, m3, m4, m5⟩ := V
  obtain ⟨r1, r2, rE, rA, rH⟩ := R
  have hi : a * 72 + sl < 288 := by omega
  have em : (a * 72 + sl) % 72 = sl := by omega
  have hx := rE.1 (a * 72 + sl) hi
  have he' : qe_er ((a * 72 + sl) % 72 < 64) e k t v := by rw [em]; exact he
  have N := qe_nwY hx he' hk
  have vi : vp_in (nI (a * 72 + sl)) 576 := vp_in_nI (by omega) (by omega)
  have ci : (nI (a * 72 + sl)).toNatClampNeg = a * 72 + sl := nI_clamp (by omega)
  have P1 : qe_nw e (s (a * 72 + sl)) → wY_take_113 post k t v (nI (a * 72 + sl)) 1 hg hd yk ys yv al m1 m2 m3 m4 m5 := by
    intro z
    unfold wY_take_113
    rw [ci]
    exact br_f qe_n10 ⟨vi, nm_r (congrArg (upd yk (a * 72 + sl)) (qy_nbc (qe_erk he))) ⟨vi, nm_e ⟨vi, nm_e (h1 z _ ⟨r1, r2, qy_up rE hi he', rA, rH⟩)⟩⟩⟩
  have P0 : ¬ qe_nw e (s (a * 72 + sl)) → wY_take_113 post k t v (nI (a * 72 + sl)) 0 hg hd yk ys yv al m1 m2 m3 m4 m5 := fun z => br_t rfl (h0 z)
  have T : ∀ z0, (yk (a * 72 + sl) = 0 → wY_take_113 post k t v (nI (a * 72 + sl)) z0 hg hd yk ys yv al m1 m2 m3 m4 m5) → (¬ yk (a * 72 + sl) = 0 → ¬ t = ys (a * 72 + sl) → wY_take_113 post k t v (nI (a * 72 + sl)) z0 hg hd yk ys yv al m1 m2 m3 m4 m5) → wY_take_35 post k t v (nI (a * 72 + sl)) z0 hg hd yk ys yv al m1 m2 m3 m4 m5 := by
    intro z0 g1 g2
    unfold wY_take_35
    rw [ci]
    refine ⟨vi, g1, fun z => ⟨vi, fun y => ⟨fun w => ⟨vi, fun x => P1 (N.mpr (Or.inr (Or.inr ⟨y, x, Or.inl w⟩))), fun x => P0 (fun q => ?_)⟩, fun w => ⟨vi, fun x => ⟨vi, fun q => P0 (fun q' => ?_), fun q => P1 (N.mpr (Or.inr (Or.inr ⟨y, x, Or.inr (Int32.not_le.mp q)⟩)))⟩, fun x => P0 (fun q => ?_)⟩⟩, g2 z⟩⟩
    · rcases N.mp q with c | c | c
      · exact z c
      · rw [y] at c; exact Int32.lt_irrefl c
      · exact x c.2.1
    · rcases N.mp q' with c | c | c
      · exact z c
      · rw [y] at c; exact Int32.lt_irrefl c
      · rcases c.2.2 with d | d
        · exact w d
        · exact Int32.not_le.mpr d q
    · rcases N.mp q with c | c | c
      · exact z c
      · rw [y] at c; exact Int32.lt_irrefl c
      · exact x c.2.1
  unfold wpY_take
  dsimp only
  refine nm_r (qa_ix a sl) ?_
  rw [ci]
  refine ⟨vi, fun z => T 1 (fun y => P1 (N.mpr (Or.inl y))) (fun y => absurd z y), fun z => ⟨vi, fun y => T 0 (fun x => absurd x z) (fun _ x => P0 (fun q => ?_)), fun y => T 1 (fun x => absurd x z) (fun _ _ => P1 (N.mpr (Or.inr (Or.inl (Int32.not_le.mp y)))))⟩⟩
  rcases N.mp q with c | c | c
  · exact z c
  · exact Int32.not_le.mpr c y
  · exact x c.1
theorem qy_takeJ (post : Int32 → SY → Prop) {a sl : Nat} (ha : a < 4) (hs : sl < 72) {e : qe_E} {k t v : Int32} (he : qe_er (sl < 64) e k t v) (hk : ¬ k = 0) {V : SY} (R : qy_R kh dn s f H V)
    (h : ∀ r v', qy_R kh dn (qe_tk s (a * 72 + sl) e) f H v' → post r v') : wpY_take post V (nI a) (nI sl) k t v := by
  refine qy_take post ha hs he hk R (fun z v' hv => ?_) (fun z => ?_)
  · refine h 1 v' ?_
    rw [qe_tk, qe_jt z]
    exact hv
  · refine h 0 V ?_
    rw [qe_tk, qe_jf z, qe_uself]
    exact R
theorem qy_rep (post : Int32 → Prop) {p r : Nat} (hp : p < 100) (hr : r < 100) {V : SY} (h : post (nI (qr_nd p r))) : wpY_replica post V (nI p) (nI r) := by
  obtain ⟨hg, hd, yk, ys, yv, al, m1, m2, m3, m4, m5⟩ := V
  unfold wpY_replica
  dsimp only
  rw [qa_rep hp hr]
  exact ⟨qa_n4, h⟩
theorem qy_ucL (post : Int32 → Prop) {p : Nat} (hp : p < 8) {hg hd : Int32} {yk ys yv al m1 m2 m3 m4 m5 : Nat → Int32} (A : qy_A dn al) (h : post (nI (qr_ct dn p 3))) : ∀ d r, r + d = 3 → wY_upCount_4 post (nI p) hg hd yk ys yv al m1 m2 m3 m4 m5 (d + 1) (nI (qr_ct dn p r)) (nI r) := by
  intro d
  induction d with
  | zero =>
    intro r hr
    obtain rfl : r = 3 := by omega
    exact br_t (Int32.le_refl _) h
  | succ d ih =>
    intro r hr
    have i := ih (r + 1) (by omega)
    have nr : qr_nd p r < 4 := by unfold qr_nd; omega
    refine br_f (nI_ge (b := 3) (by omega) (by decide)) (qy_rep _ (by omega) (by omega) ?_)
    have cl : (nI (qr_nd p r)).toNatClampNeg = qr_nd p r := nI_clamp (by omega)
    refine ⟨vp_in_nI nr (by omega), ?_⟩
    rw [cl]
    by_cases c : dn (qr_nd p r) = 0
    · have e : qr_ct dn p (r + 1) = qr_ct dn p r + 1 := if_pos c
      rw [e] at i
      exact br_f (qy_A0 A nr c) (nm_r (nI_1 _) (nm_r (nI_1 r) i))
    · have e : qr_ct dn p (r + 1) = qr_ct dn p r := if_neg c
      rw [e] at i
      exact br_t (qy_A1 A nr c) (nm_r (nI_1 r) i)
theorem qy_uc (post : Int32 → Prop) {p : Nat} (hp : p < 8) {V : SY} (R : qy_R kh dn s f H V) (h : post (nI (qr_ct dn p 3))) : wpY_upCount post V (nI p) := by
  obtain ⟨hg, hd, yk, ys, yv, al, m1, m2, m3, m4, m5⟩ := V
  exact ⟨4, qy_ucL post hp R.2.2.2.1 h 3 0 rfl⟩
end
