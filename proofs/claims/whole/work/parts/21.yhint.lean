/-! the reference: hints and sending -/
section
variable {kh : Int32} {dn : Nat → Int32} {s f : Nat → qe_E} {H : List qh_H}
theorem qy_dhL (post : SY → Prop) {c h : Nat} (hc : c ≤ 11) {hg : Int32} {yk ys yv al m1 m2 m3 m4 m5 : Nat → Int32} (g : post (hg, nI c, yk, ys, yv, al, qh_sg m1 h c, qh_sg m2 h c, qh_sg m3 h c, qh_sg m4 h c, qh_sg m5 h c)) :
    ∀ d k, k + d = c → h ≤ k → wY_dropHint_12 post hg (nI c) (d + 1) (nI k) yk ys yv al (qh_sg m1 h k) (qh_sg m2 h k) (qh_sg m3 h k) (qh_sg m4 h k) (qh_sg m5 h k) := by
  intro d
  induction d with
  | zero =>
    intro k hk hh
    obtain rfl : k = c := by omega
    exact br_t (Int32.le_refl _) g
  | succ d ih =>
    intro k hk hh
    have i := ih (k + 1) (by omega) (by omega)
    have v0 : vp_in (nI k) 12 := vp_in_nI (by omega) (by omega)
    have v1 : vp_in (nI (k + 1)) 12 := vp_in_nI (by omega) (by omega)
    have c0 : (nI k).toNatClampNeg = k := nI_clamp (by omega)
    have c1 : (nI (k + 1)).toNatClampNeg = k + 1 := nI_clamp (by omega)
    refine br_f (nI_ge (by omega) (by omega)) ?_
    rw [nI_1, c0, c1]
    refine ⟨v1, v0, nm_r (qh_sgs hh) ⟨v1, v0, nm_r (qh_sgs hh) ⟨v1, v0, nm_r (qh_sgs hh) ⟨v1, v0, nm_r (qh_sgs hh) ⟨v1, v0, nm_r (qh_sgs hh) ?_⟩⟩⟩⟩⟩
    exact nm_e i
theorem qy_dh (post : SY → Prop) {P R : List qh_H} {x : qh_H} (hl : (P ++ x :: R).length ≤ 12) {V : SY} (I : qy_R kh dn s f (P ++ x :: R) V) (g : ∀ v', qy_R kh dn s f (P ++ R) v' → post v') : wpY_dropHint post V (nI P.length) := by
  obtain ⟨hg, hd, yk, ys, yv, al, m1, m2, m3, m4, m5⟩ := V
  obtain ⟨r1, r2, rE, rA, rH⟩ := I
  have e1 : (P ++ x :: R).length = P.length + R.length + 1 := by rw [List.length_append, List.length_cons]; omega
  have e2 : (P ++ R).length = P.length + R.length := List.length_append
  rw [e1] at r2 hl
  unfold wpY_dropHint
  dsimp only
  refine nm_r (e' := nI (P.length + R.length)) (by rw [r2]; exact nI_pred _) ?_
  have hH := qh_del (h := P.length) (k := P.length + R.length) rfl rfl rH
  have k := qy_dhL (hg := hg) (yk := yk) (ys := ys) (yv := yv) (al := al) post (c := P.length + R.length) (h := P.length) (by omega) (g _ ⟨r1, by rw [e2], rE, rA, hH⟩) R.length P.length rfl (Nat.le_refl _)
  rw [qh_sg0, qh_sg0, qh_sg0, qh_sg0, qh_sg0] at k
  exact ⟨_, k⟩
theorem qy_h1 (post : SY → Prop) (hl : H.length ≤ 11) {a sl : Nat} {e : qe_E} {k t v : Int32} (he : qe_er (sl < 64) e k t v) {hg hd : Int32} {yk ys yv al m1 m2 m3 m4 m5 : Nat → Int32} (I : qy_R kh dn s f H (hg, hd, yk, ys, yv, al, m1, m2, m3, m4, m5))
    (g : ∀ v', qy_R kh dn s f (H ++ [(a, sl, e)]) v' → post v') : wY_hint_22 post (nI a) (nI sl) k t v hg hd yk ys yv al m1 m2 m3 m4 m5 := by
  obtain ⟨r1, r2, rE, rA, rH⟩ := I
  subst r2
  have va : vp_in (nI H.length) 12 := vp_in_nI (by omega) (by omega)
  have ca : (nI H.length).toNatClampNeg = H.length := nI_clamp (by omega)
  unfold wY_hint_22
  rw [ca]
  have q := qh_snoc (Φ := qh_fy) (x := (a, sl, e)) (a := nI a) (b := nI sl) (c := k) (d := t) (e := v) rfl ⟨rfl, rfl, he⟩ rH
  refine ⟨va, nm_e ⟨va, nm_e ⟨va, nm_e ⟨va, nm_e ⟨va, nm_e (nm_r (nI_1 H.length) (g _ ⟨r1, ?_, rE, rA, q⟩))⟩⟩⟩⟩⟩
  rw [List.length_append]
  rfl
theorem qy_hint (post : SY → Prop) (hl : H.length ≤ 12) {a sl : Nat} {e : qe_E} {k t v : Int32} (he : qe_er (sl < 64) e k t v) {V : SY} (I : qy_R kh dn s f H V)
    (g : ∀ v', qy_R kh dn s f (qh_add kh H (a, sl, e)) v' → post v') : wpY_hint post V (nI a) (nI sl) k t v := by
  obtain ⟨hg, hd, yk, ys, yv, al, m1, m2, m3, m4, m5⟩ := V
  have r1 : hg = kh := I.1
  have r2 : hd = nI H.length := I.2.1
  unfold wpY_hint
  dsimp only
  refine br_c (fun z => ?_) (fun z => ?_)
  · rw [r1] at z
    have ea : qh_add kh H (a, sl, e) = H := if_pos z
    rw [ea] at g
    exact g _ I
  · rw [r1] at z
    have ea : qh_add kh H (a, sl, e) = qh_cut H ++ [(a, sl, e)] := if_neg z
    rw [ea] at g
    refine pk_eq H.length 12 (fun c => ?_) (fun c => ?_) r2
    · have ec : qh_cut H = H.tail := if_pos (by omega)
      rw [ec] at g
      cases H with
      | nil => exact absurd c (by decide)
      | cons y R =>
        have lR : R.length = 11 := by rw [List.length_cons] at c; omega
        refine qy_dh (P := []) (x := y) (R := R) _ hl I (fun v' I' => ?_)
        obtain ⟨bg, bd, b1, b2, b3, b4, b5, b6, b7, b8, b9⟩ := v'
        exact qy_h1 post (by show R.length ≤ 11; omega) he I' g
    · have ec : qh_cut H = H := if_neg (by omega)
      rw [ec] at g
      exact qy_h1 post (by omega) he I g
theorem qy_sdL (post : Int32 → SY → Prop) {p sl : Nat} (hp : p < 8) (hs : sl < 72) {e : qe_E} {k t v : Int32} (he : qe_er (sl < 64) e k t v) (hk : ¬ k = 0) {S : (Nat → qe_E) × List qh_H} (hl : S.2.length ≤ 12)
    (g : ∀ v', qy_R kh dn (qs_al dn kh p sl e 3 S).1 f (qs_al dn kh p sl e 3 S).2 v' → post (nI (qr_ct dn p 3)) v') :
    ∀ d r, r + d = 3 → ∀ (hg hd : Int32) (yk ys yv al m1 m2 m3 m4 m5 : Nat → Int32), qy_R kh dn (qs_al dn kh p sl e r S).1 f (qs_al dn kh p sl e r S).2 (hg, hd, yk, ys, yv, al, m1, m2, m3, m4, m5) →
      wY_send_3 post (nI p) (nI sl) k t v (d + 1) (nI r) hg hd yk ys yv al m1 m2 m3 m4 m5 := by
  intro d
  induction d with
  | zero =>
    intro r hr hg hd yk ys yv al m1 m2 m3 m4 m5 I
    obtain rfl : r = 3 := by omega
    exact br_t (Int32.le_refl _) (qy_uc _ hp I (g _ I))
  | succ d ih =>
    intro r hr hg hd yk ys yv al m1 m2 m3 m4 m5 I
    have i := ih (r + 1) (by omega)
    have A : qy_A dn al := I.2.2.2.1
    have nr : qr_nd p r < 4 := by unfold qr_nd; omega
    have cl : (nI (qr_nd p r)).toNatClampNeg = qr_nd p r := nI_clamp (by omega)
    refine br_f (nI_ge (b := 3) (by omega) (by decide)) (qy_rep _ (by omega) (by omega) ?_)
    refine ⟨vp_in_nI nr (by omega), ?_⟩
    rw [cl]
    by_cases z : dn (qr_nd p r) = 0
    · have es : qs_al dn kh p sl e (r + 1) S = (qe_tk (qs_al dn kh p sl e r S).1 (qr_ix p sl r) e, (qs_al dn kh p sl e r S).2) := if_pos z
      rw [es] at i
      refine br_f (qy_A0 A nr z) (qy_takeJ _ nr hs he hk I (fun r' v' I' => ?_))
      obtain ⟨bg, bd, b1, b2, b3, b4, b5, b6, b7, b8, b9⟩ := v'
      exact nm_r (nI_1 r) (i _ _ _ _ _ _ _ _ _ _ _ I')
    · have es : qs_al dn kh p sl e (r + 1) S = ((qs_al dn kh p sl e r S).1, qh_add kh (qs_al dn kh p sl e r S).2 (qr_nd p r, sl, e)) := if_neg z
      rw [es] at i
      refine br_t (qy_A1 A nr z) (qy_hint _ (qs_len hl r) he I (fun v' I' => ?_))
      obtain ⟨bg, bd, b1, b2, b3, b4, b5, b6, b7, b8, b9⟩ := v'
      exact nm_r (nI_1 r) (i _ _ _ _ _ _ _ _ _ _ _ I')
theorem qy_sd (post : Int32 → SY → Prop) {p sl : Nat} (hp : p < 8) (hs : sl < 72) {e : qe_E} {k t v : Int32} (he : qe_er (sl < 64) e k t v) (hk : ¬ k = 0) (hl : H.length ≤ 12) {V : SY} (I : qy_R kh dn s f H V)
    (g : ∀ v', qy_R kh dn (qs_al dn kh p sl e 3 (s, H)).1 f (qs_al dn kh p sl e 3 (s, H)).2 v' → post (nI (qr_ct dn p 3)) v') : wpY_send post V (nI p) (nI sl) k t v := by
  obtain ⟨hg, hd, yk, ys, yv, al, m1, m2, m3, m4, m5⟩ := V
  exact ⟨4, qy_sdL post hp hs he hk (S := (s, H)) hl g 3 0 rfl hg hd yk ys yv al m1 m2 m3 m4 m5 I⟩
theorem qy_dlL (post : Int32 → SY → Prop) {n : Nat} (h4 : n < 4) : ∀ (R P : List qh_H) (c : Nat) (s : Nat → qe_E) (hg hd : Int32) (yk ys yv al m1 m2 m3 m4 m5 : Nat → Int32), c + R.length ≤ 12 → P.length + R.length ≤ 12 → qh_G R → qy_R kh dn s f (P ++ R) (hg, hd, yk, ys, yv, al, m1, m2, m3, m4, m5) →
    (∀ v', qy_R kh dn (qh_dl n R s) f (P ++ qh_kp n R) v' → post (nI (c + (R.length - (qh_kp n R).length)) + 1) v') →
    wY_up_33 post (nI n) (R.length + 1) (nI c) (nI P.length) hg hd yk ys yv al m1 m2 m3 m4 m5 := by
  intro R
  induction R with
  | nil =>
    intro P c s hg hd yk ys yv al m1 m2 m3 m4 m5 hc hP hG I g
    have r2 : hd = nI (P ++ []).length := I.2.1
    rw [List.append_nil] at r2 I
    rw [show P ++ qh_kp n [] = P from List.append_nil P] at g
    refine br_t (by rw [r2]; exact Int32.le_refl _) (g _ I)
  | cons x R ih =>
    intro P c s hg hd yk ys yv al m1 m2 m3 m4 m5 hc hP hG I g
    rw [List.length_cons] at hc hP
    have hx := hG x List.mem_cons_self
    have hGR : qh_G R := fun y hy => hG y (List.mem_cons_of_mem x hy)
    have el : (P ++ x :: R).length = P.length + (R.length + 1) := by rw [List.length_append, List.length_cons]
    have r2 : hd = nI (P.length + (R.length + 1)) := by rw [← el]; exact I.2.1
    have hat := ((qh_app P (x :: R) 0).mp I.2.2.2.2).2
    rw [Nat.zero_add] at hat
    obtain ⟨⟨e1, e2, e3⟩, _⟩ := hat
    have vi : vp_in (nI P.length) 12 := vp_in_nI (by omega) (by omega)
    have ci : (nI P.length).toNatClampNeg = P.length := nI_clamp (by omega)
    refine br_f (by rw [r2]; exact nI_ge (by omega) (by omega)) ⟨vi, ?_⟩
    rw [ci, e1]
    refine pk_eq x.1 n (fun z => ?_) (fun z => ?_)
    · have ek : qh_kp n (x :: R) = qh_kp n R := if_pos z
      have ed : qh_dl n (x :: R) s = qh_dl n R (qe_tk s (n * 72 + x.2.1) x.2.2) := if_pos z
      rw [ek, ed] at g
      rw [e2]
      have hk0 : ¬ m3 P.length = 0 := fun y => hx.2.2 ((qe_er0 e3).mp y)
      refine ⟨vi, vi, vi, vi, qy_takeJ _ h4 hx.2.1 e3 hk0 I (fun r' v' I' => ?_)⟩
      obtain ⟨bg, bd, b1, b2, b3, b4, b5, b6, b7, b8, b9⟩ := v'
      refine qy_dh _ (by rw [el]; omega) I' (fun v' I' => ?_)
      obtain ⟨dg, dd, d1, d2, d3, d4, d5, d6, d7, d8, d9⟩ := v'
      refine nm_r (nI_1 c) (ih P (c + 1) _ dg dd d1 d2 d3 d4 d5 d6 d7 d8 d9 (by omega) (by omega) hGR I' ?_)
      have := qh_kpl n R
      rw [List.length_cons] at g
      have en : c + (R.length + 1 - (qh_kp n R).length) = c + 1 + (R.length - (qh_kp n R).length) := by omega
      rw [en] at g
      exact g
    · have ek : qh_kp n (x :: R) = x :: qh_kp n R := if_neg z
      have ed : qh_dl n (x :: R) s = qh_dl n R s := if_neg z
      rw [ek, ed] at g
      have ea : P ++ x :: qh_kp n R = (P ++ [x]) ++ qh_kp n R := by rw [List.append_assoc]; rfl
      have eb : P ++ x :: R = (P ++ [x]) ++ R := by rw [List.append_assoc]; rfl
      rw [ea, List.length_cons, List.length_cons, Nat.add_sub_add_right] at g
      rw [eb] at I
      have lp : (P ++ [x]).length = P.length + 1 := by rw [List.length_append]; rfl
      have k := ih (P ++ [x]) c s hg hd yk ys yv al m1 m2 m3 m4 m5 (by omega) (by rw [lp]; omega) hGR I g
      rw [lp] at k
      exact nm_r (nI_1 P.length) k
end
