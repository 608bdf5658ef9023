/-! the methods of a node -/
section
theorem qy_Ad {dn al : Nat → Int32} (h : qy_A dn al) (n : Nat) : qy_A (upd dn n 1) (upd al n 0) := by
  intro j hj
  by_cases c : j = n
  · subst c; rw [pk_us, pk_us]; exact Or.inr ⟨qe_n10, rfl⟩
  · rw [pk_un c, pk_un c]; exact h j hj
theorem qy_Au {dn al : Nat → Int32} (h : qy_A dn al) (n : Nat) : qy_A (upd dn n 0) (upd al n 1) := by
  intro j hj
  by_cases c : j = n
  · subst c; rw [pk_us, pk_us]; exact Or.inl ⟨rfl, rfl⟩
  · rw [pk_un c, pk_un c]; exact h j hj
theorem i_vc_down {k : Nat} {u : SX} {v : SY} (I : i_Rel k u v) (hk : k + 5 ≤ 2561) (v1 : Int32) : wpX_down (fun r u' => wpY_down (fun r' v' => r' = r ∧ i_Rel (k + 5) u' v') v v1) u v1 := by
  obtain ⟨kh, dn, s, f, H, hl, hG, ⟨n1, n2, n3, n4, n5, rfl, hH⟩, RY⟩ := I
  obtain ⟨hg, hd, yk, ys, yv, al, m1, m2, m3, m4, m5⟩ := v
  have RX : qx_R kh dn s f H (kh, nI H.length, dn, qx_K s, qx_T s, qx_V s, qx_K f, qx_T f, qx_V f, n1, n2, n3, n4, n5) := ⟨n1, n2, n3, n4, n5, rfl, hH⟩
  have rel : i_Rel (k + 5) (kh, nI H.length, dn, qx_K s, qx_T s, qx_V s, qx_K f, qx_T f, qx_V f, n1, n2, n3, n4, n5) (hg, hd, yk, ys, yv, al, m1, m2, m3, m4, m5) := ⟨kh, dn, s, f, H, hl, hG, RX, RY⟩
  obtain ⟨r1, r2, rE, rA, rH⟩ := RY
  unfold wpX_down wpY_down
  dsimp only
  rcases qa_rng v1 (n := 4) (by decide) with c | ⟨n, h4, rfl⟩
  · exact qx_nd0 _ c (br_t rfl (qy_am0 _ c (br_t rfl ⟨rfl, rel⟩)))
  · have vi : vp_in (nI n) 4 := vp_in_nI h4 (by omega)
    have cn : (nI n).toNatClampNeg = n := nI_clamp (by omega)
    rw [cn, qv_b1, qv_b0]
    refine qx_nd1 _ h4 (br_f qe_n10 ⟨vi, br_c (fun z => ⟨vi, nm_e ?_⟩) (fun z => ?_)⟩)
    · refine qy_am1 (N := 4) _ h4 (by decide) (br_f qe_n10 ⟨vi, br_f (qy_A0 rA h4 z) ⟨vi, nm_e ?_⟩⟩)
      exact ⟨rfl, kh, upd dn n 1, s, f, H, hl, hG, ⟨n1, n2, n3, n4, n5, rfl, hH⟩, r1, r2, rE, qy_Ad rA n, rH⟩
    · exact qy_am1 (N := 4) _ h4 (by decide) (br_f qe_n10 ⟨vi, br_t (qy_A1 rA h4 z) ⟨rfl, rel⟩⟩)
theorem i_vc_up {k : Nat} {u : SX} {v : SY} (I : i_Rel k u v) (hk : k + 5 ≤ 2561) (v1 : Int32) : wpX_up (fun r u' => wpY_up (fun r' v' => r' = r ∧ i_Rel (k + 5) u' v') v v1) u v1 := by
  obtain ⟨kh, dn, s, f, H, hl, hG, ⟨n1, n2, n3, n4, n5, rfl, hH⟩, RY⟩ := I
  obtain ⟨hg, hd, yk, ys, yv, al, m1, m2, m3, m4, m5⟩ := v
  have RX : qx_R kh dn s f H (kh, nI H.length, dn, qx_K s, qx_T s, qx_V s, qx_K f, qx_T f, qx_V f, n1, n2, n3, n4, n5) := ⟨n1, n2, n3, n4, n5, rfl, hH⟩
  have rel : i_Rel (k + 5) (kh, nI H.length, dn, qx_K s, qx_T s, qx_V s, qx_K f, qx_T f, qx_V f, n1, n2, n3, n4, n5) (hg, hd, yk, ys, yv, al, m1, m2, m3, m4, m5) := ⟨kh, dn, s, f, H, hl, hG, RX, RY⟩
  obtain ⟨r1, r2, rE, rA, rH⟩ := RY
  unfold wpX_up wpY_up
  dsimp only
  rcases qa_rng v1 (n := 4) (by decide) with c | ⟨n, h4, rfl⟩
  · exact qx_nd0 _ c (br_t rfl (qy_am0 _ c (br_t rfl ⟨rfl, rel⟩)))
  · have vi : vp_in (nI n) 4 := vp_in_nI h4 (by omega)
    have cn : (nI n).toNatClampNeg = n := nI_clamp (by omega)
    have hkp := qh_kpl n H
    rw [cn, qv_b1, qv_b0]
    refine qx_nd1 _ h4 (br_f qe_n10 ⟨vi, br_c (fun z => ?_) (fun z => ⟨vi, nm_e ?_⟩)⟩)
    · exact qy_am1 (N := 4) _ h4 (by decide) (br_f qe_n10 ⟨vi, br_f (qy_A0 rA h4 z) ⟨rfl, rel⟩⟩)
    · refine qx_dl (dn := upd dn n 0) _ h4 hl hG ⟨n1, n2, n3, n4, n5, rfl, hH⟩ (fun u' R' => ?_)
      obtain ⟨a1, a2, a3, a4, a5, rfl, hA⟩ := R'
      refine qy_am1 (N := 4) _ h4 (by decide) (br_f qe_n10 ⟨vi, br_t (qy_A1 rA h4 z) ⟨vi, nm_e ⟨H.length + 1, ?_⟩⟩⟩)
      have RY' : qy_R kh (upd dn n 0) s f ([] ++ H) (hg, hd, yk, ys, yv, upd al n 1, m1, m2, m3, m4, m5) := ⟨r1, r2, rE, qy_Au rA n, rH⟩
      refine qy_dlL (kh := kh) (dn := upd dn n 0) (f := f) _ h4 H [] 0 s hg hd yk ys yv (upd al n 1) m1 m2 m3 m4 m5 (by omega) (by show 0 + H.length ≤ 12; omega) hG RY' (fun v' I' => ?_)
      refine ⟨?_, kh, upd dn n 0, _, f, _, Nat.le_trans hkp hl, qh_kpG hG, ⟨a1, a2, a3, a4, a5, rfl, hA⟩, I'⟩
      rw [Nat.zero_add, pk_sub hkp]
theorem i_vc_crash {k : Nat} {u : SX} {v : SY} (I : i_Rel k u v) (hk : k + 5 ≤ 2561) (v1 : Int32) : wpX_crash (fun r u' => wpY_crash (fun r' v' => r' = r ∧ i_Rel (k + 5) u' v') v v1) u v1 := by
  obtain ⟨kh, dn, s, f, H, hl, hG, ⟨n1, n2, n3, n4, n5, rfl, hH⟩, RY⟩ := I
  obtain ⟨hg, hd, yk, ys, yv, al, m1, m2, m3, m4, m5⟩ := v
  have RX : qx_R kh dn s f H (kh, nI H.length, dn, qx_K s, qx_T s, qx_V s, qx_K f, qx_T f, qx_V f, n1, n2, n3, n4, n5) := ⟨n1, n2, n3, n4, n5, rfl, hH⟩
  have rel : i_Rel (k + 5) (kh, nI H.length, dn, qx_K s, qx_T s, qx_V s, qx_K f, qx_T f, qx_V f, n1, n2, n3, n4, n5) (hg, hd, yk, ys, yv, al, m1, m2, m3, m4, m5) := ⟨kh, dn, s, f, H, hl, hG, RX, RY⟩
  obtain ⟨r1, r2, rE, rA, rH⟩ := RY
  unfold wpX_crash wpY_crash
  dsimp only
  rcases qa_rng v1 (n := 4) (by decide) with c | ⟨n, h4, rfl⟩
  · exact qx_nd0 _ c (br_t rfl (qy_am0 _ c (br_t rfl ⟨rfl, rel⟩)))
  · have vi : vp_in (nI n) 4 := vp_in_nI h4 (by omega)
    have cn : (nI n).toNatClampNeg = n := nI_clamp (by omega)
    rw [cn, qv_b1, qv_b0]
    refine qx_nd1 _ h4 (br_f qe_n10 (qx_rf _ h4 ⟨vi, nm_e (qx_cn _ h4 ?_)⟩))
    refine qy_am1 (N := 4) _ h4 (by decide) (br_f qe_n10 ⟨vi, nm_e ?_⟩)
    have RY' : qy_R kh (upd dn n 1) s f H (hg, hd, yk, ys, yv, upd al n 0, m1, m2, m3, m4, m5) := ⟨r1, r2, rE, qy_Ad rA n, rH⟩
    refine qy_cr _ h4 RY' (fun v' I' => ?_)
    have R2 : i_Rel (k + 5) (kh, nI H.length, upd dn n 1, qx_K (qk_cp n f s), qx_T (qk_cp n f s), qx_V (qk_cp n f s), qx_K f, qx_T f, qx_V f, n1, n2, n3, n4, n5) v' := ⟨kh, upd dn n 1, _, f, H, hl, hG, ⟨n1, n2, n3, n4, n5, rfl, hH⟩, I'⟩
    obtain ⟨bg, bd, b1, b2, b3, b4, b5, b6, b7, b8, b9⟩ := v'
    exact qy_cn _ h4 I' ⟨rfl, R2⟩
theorem i_vc_flush {k : Nat} {u : SX} {v : SY} (I : i_Rel k u v) (hk : k + 5 ≤ 2561) (v1 : Int32) : wpX_flush (fun r u' => wpY_flush (fun r' v' => r' = r ∧ i_Rel (k + 5) u' v') v v1) u v1 := by
  obtain ⟨kh, dn, s, f, H, hl, hG, ⟨n1, n2, n3, n4, n5, rfl, hH⟩, RY⟩ := I
  have RX : qx_R kh dn s f H (kh, nI H.length, dn, qx_K s, qx_T s, qx_V s, qx_K f, qx_T f, qx_V f, n1, n2, n3, n4, n5) := ⟨n1, n2, n3, n4, n5, rfl, hH⟩
  have rel : i_Rel (k + 5) (kh, nI H.length, dn, qx_K s, qx_T s, qx_V s, qx_K f, qx_T f, qx_V f, n1, n2, n3, n4, n5) v := ⟨kh, dn, s, f, H, hl, hG, RX, RY⟩
  unfold wpX_flush
  dsimp only
  rcases qa_rng v1 (n := 4) (by decide) with c | ⟨n, h4, rfl⟩
  · refine qx_nd0 _ c (br_t rfl ?_)
    obtain ⟨hg, hd, yk, ys, yv, al, m1, m2, m3, m4, m5⟩ := v
    unfold wpY_flush
    dsimp only
    exact qy_am0 _ c (br_t rfl ⟨rfl, rel⟩)
  · have vi : vp_in (nI n) 4 := vp_in_nI h4 (by omega)
    have cn : (nI n).toNatClampNeg = n := nI_clamp (by omega)
    rw [cn]
    refine qx_nd1 _ h4 (br_f qe_n10 ⟨vi, br_c (fun z => qx_kf _ h4 (qx_cn _ h4 ?_)) (fun z => ?_)⟩)
    · exact qy_flush _ h4 z RY (fun v' I' => ⟨rfl, kh, dn, s, _, H, hl, hG, ⟨n1, n2, n3, n4, n5, rfl, hH⟩, I'⟩)
    · obtain ⟨hg, hd, yk, ys, yv, al, m1, m2, m3, m4, m5⟩ := v
      obtain ⟨r1, r2, rE, rA, rH⟩ := RY
      unfold wpY_flush
      dsimp only
      rw [cn]
      exact qy_am1 (N := 4) _ h4 (by decide) (br_f qe_n10 ⟨vi, br_t (qy_A1 rA h4 z) ⟨rfl, rel⟩⟩)
theorem i_vc_compact {k : Nat} {u : SX} {v : SY} (I : i_Rel k u v) (hk : k + 5 ≤ 2561) (v1 : Int32) (v2 : Int32) : wpX_compact (fun r u' => wpY_compact (fun r' v' => r' = r ∧ i_Rel (k + 5) u' v') v v1 v2) u v1 v2 := by
  obtain ⟨kh, dn, s, f, H, hl, hG, ⟨n1, n2, n3, n4, n5, rfl, hH⟩, RY⟩ := I
  obtain ⟨hg, hd, yk, ys, yv, al, m1, m2, m3, m4, m5⟩ := v
  have RX : qx_R kh dn s f H (kh, nI H.length, dn, qx_K s, qx_T s, qx_V s, qx_K f, qx_T f, qx_V f, n1, n2, n3, n4, n5) := ⟨n1, n2, n3, n4, n5, rfl, hH⟩
  have rel : i_Rel (k + 5) (kh, nI H.length, dn, qx_K s, qx_T s, qx_V s, qx_K f, qx_T f, qx_V f, n1, n2, n3, n4, n5) (hg, hd, yk, ys, yv, al, m1, m2, m3, m4, m5) := ⟨kh, dn, s, f, H, hl, hG, RX, RY⟩
  obtain ⟨r1, r2, rE, rA, rH⟩ := RY
  unfold wpX_compact wpY_compact
  dsimp only
  rcases qa_rng v1 (n := 4) (by decide) with c | ⟨n, h4, rfl⟩
  · exact qx_nd0 _ c (br_t rfl (qy_am0 _ c (br_t rfl ⟨rfl, rel⟩)))
  · have vi : vp_in (nI n) 4 := vp_in_nI h4 (by omega)
    have cn : (nI n).toNatClampNeg = n := nI_clamp (by omega)
    rw [cn]
    refine qx_nd1 _ h4 (br_f qe_n10 ⟨vi, br_c (fun z => ?_) (fun z => ?_)⟩)
    · refine qx_dh _ h4 (qx_dd (s := qk_1 n s) _ h4 (qx_dw (s := qk_2 n v2 s) _ h4 (qx_kf (s := qk_3 n v2 s) _ h4 (qx_cn (s := qk_3 n v2 s) _ h4 ?_))))
      refine qy_am1 (N := 4) _ h4 (by decide) (br_f qe_n10 ⟨vi, br_f (qy_A0 rA h4 z) ⟨65, ?_⟩⟩)
      refine qy_cpL (s := s) (f := f) _ h4 (fun yk ys yv E => ⟨9, ?_⟩) 64 0 rfl yk ys yv (by rw [qk_00]; exact rE)
      refine qy_cwL (s := qk_2 n v2 s) (f := f) _ h4 (fun yk ys yv E => ?_) 8 64 (Nat.le_refl 64) rfl yk ys yv (by rw [qk_0]; exact E)
      have RY' : qy_R kh dn (qk_3 n v2 s) f H (hg, hd, yk, ys, yv, al, m1, m2, m3, m4, m5) := ⟨r1, r2, E, rA, rH⟩
      exact qy_flush _ h4 z RY' (fun v' I' => ⟨rfl, kh, dn, _, _, H, hl, hG, ⟨n1, n2, n3, n4, n5, rfl, hH⟩, I'⟩)
    · exact qy_am1 (N := 4) _ h4 (by decide) (br_f qe_n10 ⟨vi, br_t (qy_A1 rA h4 z) ⟨rfl, rel⟩⟩)
theorem i_vc_repair {k : Nat} {u : SX} {v : SY} (I : i_Rel k u v) (hk : k + 5 ≤ 2561) (v1 : Int32) (v2 : Int32) : wpX_repair (fun r u' => wpY_repair (fun r' v' => r' = r ∧ i_Rel (k + 5) u' v') v v1 v2) u v1 v2 := by
  obtain ⟨kh, dn, s, f, H, hl, hG, ⟨n1, n2, n3, n4, n5, rfl, hH⟩, RY⟩ := I
  obtain ⟨hg, hd, yk, ys, yv, al, m1, m2, m3, m4, m5⟩ := v
  have RX : qx_R kh dn s f H (kh, nI H.length, dn, qx_K s, qx_T s, qx_V s, qx_K f, qx_T f, qx_V f, n1, n2, n3, n4, n5) := ⟨n1, n2, n3, n4, n5, rfl, hH⟩
  have rel : i_Rel (k + 5) (kh, nI H.length, dn, qx_K s, qx_T s, qx_V s, qx_K f, qx_T f, qx_V f, n1, n2, n3, n4, n5) (hg, hd, yk, ys, yv, al, m1, m2, m3, m4, m5) := ⟨kh, dn, s, f, H, hl, hG, RX, RY⟩
  have rA : qy_A dn al := RY.2.2.2.1
  unfold wpX_repair wpY_repair
  dsimp only
  rcases qa_rng v1 (n := 4) (by decide) with c | ⟨a, ha, rfl⟩
  · exact qx_nd0 _ c (br_t rfl (qy_am0 _ c (br_t rfl ⟨rfl, rel⟩)))
  · have va : vp_in (nI a) 4 := vp_in_nI ha (by omega)
    have ca : (nI a).toNatClampNeg = a := nI_clamp (by omega)
    rcases qa_rng v2 (n := 4) (by decide) with c | ⟨b, hb, rfl⟩
    · exact qx_nd1 _ ha (br_f qe_n10 (qx_nd0 _ c (br_t rfl (qy_am1 (N := 4) _ ha (by decide) (br_f qe_n10 (qy_am0 _ c (br_t rfl ⟨rfl, rel⟩)))))))
    · have vb : vp_in (nI b) 4 := vp_in_nI hb (by omega)
      have cb : (nI b).toNatClampNeg = b := nI_clamp (by omega)
      rw [ca, cb]
      refine qx_nd1 _ ha (br_f qe_n10 (qx_nd1 _ hb (br_f qe_n10 ?_)))
      refine pk_eq a b (fun z => ?_) (fun z => ⟨va, br_c (fun y => ⟨vb, br_c (fun x => ⟨73, ?_⟩) (fun x => ?_)⟩) (fun y => ?_)⟩)
      · exact qy_am1 (N := 4) _ ha (by decide) (br_f qe_n10 (qy_am1 (N := 4) _ hb (by decide) (br_f qe_n10 (pk_eq a b (fun _ => ⟨rfl, rel⟩) (fun w => absurd z w)))))
      · refine qx_rpL _ ha hb z ?_ 72 0 rfl
        refine qy_am1 (N := 4) _ ha (by decide) (br_f qe_n10 (qy_am1 (N := 4) _ hb (by decide) (br_f qe_n10 (pk_eq a b (fun w => absurd w z) (fun _ => ⟨va, br_f (qy_A0 rA ha y) ⟨vb, br_f (qy_A0 rA hb x) ⟨73, ?_⟩⟩⟩)))))
        exact qy_rpL _ ha hb z (fun v' I' => ⟨rfl, kh, dn, _, f, H, hl, hG, ⟨n1, n2, n3, n4, n5, rfl, hH⟩, I'⟩) 72 0 rfl _ _ _ _ _ _ _ _ _ _ _ RY
      · exact qy_am1 (N := 4) _ ha (by decide) (br_f qe_n10 (qy_am1 (N := 4) _ hb (by decide) (br_f qe_n10 (pk_eq a b (fun w => absurd w z) (fun _ => ⟨va, br_f (qy_A0 rA ha y) ⟨vb, br_t (qy_A1 rA hb x) ⟨rfl, rel⟩⟩⟩)))))
      · exact qy_am1 (N := 4) _ ha (by decide) (br_f qe_n10 (qy_am1 (N := 4) _ hb (by decide) (br_f qe_n10 (pk_eq a b (fun w => absurd w z) (fun _ => ⟨va, br_t (qy_A1 rA ha y) ⟨rfl, rel⟩⟩)))))
theorem i_vc_isUp {k : Nat} {u : SX} {v : SY} (I : i_Rel k u v) (hk : k + 5 ≤ 2561) (v1 : Int32) : wpX_isUp (fun r => wpY_isUp (fun r' => r' = r ∧ i_Rel (k + 5) u v) v v1) u v1 := by
  have rel : i_Rel (k + 5) u v := I
  obtain ⟨kh, dn, s, f, H, hl, hG, ⟨n1, n2, n3, n4, n5, rfl, hH⟩, RY⟩ := I
  obtain ⟨hg, hd, yk, ys, yv, al, m1, m2, m3, m4, m5⟩ := v
  have rA : qy_A dn al := RY.2.2.2.1
  unfold wpX_isUp wpY_isUp
  dsimp only
  rcases qa_rng v1 (n := 4) (by decide) with c | ⟨n, h4, rfl⟩
  · exact qx_nd0 _ c (br_t rfl (qy_am0 _ c (br_t rfl ⟨rfl, rel⟩)))
  · have vi : vp_in (nI n) 4 := vp_in_nI h4 (by omega)
    have cn : (nI n).toNatClampNeg = n := nI_clamp (by omega)
    rw [cn]
    refine qx_nd1 _ h4 (br_f qe_n10 ⟨vi, br_c (fun z => ?_) (fun z => ?_)⟩)
    · exact qy_am1 (N := 4) _ h4 (by decide) (br_f qe_n10 ⟨vi, br_f (qy_A0 rA h4 z) ⟨rfl, rel⟩⟩)
    · exact qy_am1 (N := 4) _ h4 (by decide) (br_f qe_n10 ⟨vi, br_t (qy_A1 rA h4 z) ⟨rfl, rel⟩⟩)
theorem i_vc_local {k : Nat} {u : SX} {v : SY} (I : i_Rel k u v) (hk : k + 5 ≤ 2561) (v1 : Int32) (v2 : Int32) : wpX_local (fun r => wpY_local (fun r' => r' = r ∧ i_Rel (k + 5) u v) v v1 v2) u v1 v2 := by
  have rel : i_Rel (k + 5) u v := I
  obtain ⟨kh, dn, s, f, H, hl, hG, ⟨n1, n2, n3, n4, n5, rfl, hH⟩, RY⟩ := I
  obtain ⟨hg, hd, yk, ys, yv, al, m1, m2, m3, m4, m5⟩ := v
  have rE : qy_E s f yk ys yv := RY.2.2.1
  unfold wpX_local wpY_local
  dsimp only
  rcases qa_rng v1 (n := 4) (by decide) with c | ⟨n, h4, rfl⟩
  · exact qx_nd0 _ c (br_t rfl (qy_am0 _ c (br_t rfl ⟨rfl, rel⟩)))
  · rcases qa_rng v2 (n := 64) (by decide) with c | ⟨j, hj, rfl⟩
    · exact qx_nd1 _ h4 (br_f qe_n10 (qx_pl0 _ c (br_t rfl (qy_am1 (N := 4) _ h4 (by decide) (br_f qe_n10 (qy_am0 _ c (br_t rfl ⟨rfl, rel⟩)))))))
    · refine qx_nd1 _ h4 (br_f qe_n10 (qx_pl1 _ hj (br_f qe_n10 (qx_lv _ h4 hj ?_))))
      refine qy_am1 (N := 4) _ h4 (by decide) (br_f qe_n10 (qy_am1 (N := 64) _ hj (by decide) (br_f qe_n10 (nm_r (qa_ix n j) ⟨qa_n8, ?_⟩))))
      rw [qa_w n j hj]
      have ve : vp_in (nI (n * 72 + j)) 576 := vp_in_nI (by omega) (by omega)
      have ce : (nI (n * 72 + j)).toNatClampNeg = n * 72 + j := nI_clamp (by omega)
      have vw : vp_in (nI (n * 72 + 64 + j / 8)) 576 := vp_in_nI (by omega) (by omega)
      have cw : (nI (n * 72 + 64 + j / 8)).toNatClampNeg = n * 72 + 64 + j / 8 := nI_clamp (by omega)
      have he := rE.1 (n * 72 + j) (by omega)
      have hw := rE.1 (n * 72 + 64 + j / 8) (by omega)
      have wm : ¬ (n * 72 + 64 + j / 8) % 72 < 64 := by omega
      unfold wpY_live
      dsimp only
      rw [ce, cw]
      refine ⟨ve, fun z => ⟨vw, fun y => br_f qe_n10 ⟨ve, ?_, rel⟩, fun y => ⟨vw, ve, fun x => br_t rfl ⟨?_, rel⟩, fun x => br_f qe_n10 ⟨ve, ?_, rel⟩⟩⟩, fun z => br_t rfl ⟨?_, rel⟩⟩
      · have k0 : ¬ yk (n * 72 + j) = 0 := by rw [z]; exact qe_n10
        rw [qr_lvt ((qe_er1 he).mp z) (fun q => absurd (((qe_er0 hw).mp y).symm.trans q.1) (by decide)), (qe_erst he k0).2]
      · have k0 : ¬ yk (n * 72 + j) = 0 := by rw [z]; exact qe_n10
        rw [qr_lvf]
        intro q
        refine q.2 ⟨?_, ?_⟩
        · rcases hw with p | p | p | p
          · exact absurd p.2 y
          · exact absurd p.1 wm
          · exact absurd p.1 wm
          · rw [p.2.1]
        · rw [← (qe_erst he k0).1, ← (qe_erst hw y).1]; exact x
      · have k0 : ¬ yk (n * 72 + j) = 0 := by rw [z]; exact qe_n10
        rw [qr_lvt ((qe_er1 he).mp z) (fun q => ?_), (qe_erst he k0).2]
        have q2 := q.2
        rw [← (qe_erst he k0).1, ← (qe_erst hw y).1] at q2
        exact x q2
      · rw [qr_lvf (fun q => z ((qe_er1 he).mpr q.1))]
theorem qy_ss (post : Int64 → Prop) {kh : Int32} {dn : Nat → Int32} {s f : Nat → qe_E} {H : List qh_H} {V : SY} (I : qy_R kh dn s f H V) {i : Nat} (hi : i < 288) (g : post (qk_ss (s i))) : wpY_stampAt post V (nI i) := by
  obtain ⟨hg, hd, yk, ys, yv, al, m1, m2, m3, m4, m5⟩ := V
  have rE : qy_E s f yk ys yv := I.2.2.1
  have he := rE.1 i hi
  have ve : vp_in (nI i) 576 := vp_in_nI (by omega) (by omega)
  have ce : (nI i).toNatClampNeg = i := nI_clamp (by omega)
  unfold wpY_stampAt
  dsimp only
  rw [ce]
  refine ⟨ve, fun z => ?_, fun z => ⟨ve, ?_⟩⟩
  · rw [qk_sst ((qe_er0 he).mp z)] at g
    exact g
  · rw [qk_ssf (fun y => z ((qe_er0 he).mpr y)), ← (qe_erst he z).1] at g
    exact g
theorem i_vc_stamp {k : Nat} {u : SX} {v : SY} (I : i_Rel k u v) (hk : k + 5 ≤ 2561) (v1 : Int32) (v2 : Int32) : wpX_stamp (fun r => wpY_stamp (fun r' => r' = r ∧ i_Rel (k + 5) u v) v v1 v2) u v1 v2 := by
  have rel : i_Rel (k + 5) u v := I
  obtain ⟨kh, dn, s, f, H, hl, hG, ⟨n1, n2, n3, n4, n5, rfl, hH⟩, RY⟩ := I
  obtain ⟨hg, hd, yk, ys, yv, al, m1, m2, m3, m4, m5⟩ := v
  unfold wpX_stamp wpY_stamp
  dsimp only
  rcases qa_rng v1 (n := 4) (by decide) with c | ⟨n, h4, rfl⟩
  · exact qx_nd0 _ c (br_t rfl (qy_am0 _ c (br_t rfl ⟨rfl, rel⟩)))
  · rcases qa_rng v2 (n := 64) (by decide) with c | ⟨j, hj, rfl⟩
    · exact qx_nd1 _ h4 (br_f qe_n10 (qx_pl0 _ c (br_t rfl (qy_am1 (N := 4) _ h4 (by decide) (br_f qe_n10 (qy_am0 _ c (br_t rfl ⟨rfl, rel⟩)))))))
    · refine qx_nd1 _ h4 (br_f qe_n10 (qx_pl1 _ hj (br_f qe_n10 (qx_ss _ h4 (by omega) ?_))))
      refine qy_am1 (N := 4) _ h4 (by decide) (br_f qe_n10 (qy_am1 (N := 64) _ hj (by decide) (br_f qe_n10 ?_)))
      rw [qa_ix]
      exact qy_ss _ RY (by omega) ⟨rfl, rel⟩
theorem i_vc_wiped {k : Nat} {u : SX} {v : SY} (I : i_Rel k u v) (hk : k + 5 ≤ 2561) (v1 : Int32) (v2 : Int32) : wpX_wiped (fun r => wpY_wiped (fun r' => r' = r ∧ i_Rel (k + 5) u v) v v1 v2) u v1 v2 := by
  have rel : i_Rel (k + 5) u v := I
  obtain ⟨kh, dn, s, f, H, hl, hG, ⟨n1, n2, n3, n4, n5, rfl, hH⟩, RY⟩ := I
  obtain ⟨hg, hd, yk, ys, yv, al, m1, m2, m3, m4, m5⟩ := v
  unfold wpX_wiped wpY_wiped
  dsimp only
  rcases qa_rng v1 (n := 4) (by decide) with c | ⟨n, h4, rfl⟩
  · exact qx_nd0 _ c (br_t rfl (qy_am0 _ c (br_t rfl ⟨rfl, rel⟩)))
  · rcases qa_rng v2 (n := 8) (by decide) with c | ⟨j, hj, rfl⟩
    · exact qx_nd1 _ h4 (br_f qe_n10 (qx_pa0 _ c (br_t rfl (qy_am1 (N := 4) _ h4 (by decide) (br_f qe_n10 (qy_am0 _ c (br_t rfl ⟨rfl, rel⟩)))))))
    · have e : nI n * 72 + 64 + nI j = nI (n * 72 + (64 + j)) := by
        rw [show (72 : Int32) = nI 72 from rfl, show (64 : Int32) = nI 64 from rfl, pk_mul, nI_add, nI_add, Nat.add_assoc]
      rw [qa_64, e]
      refine qx_nd1 _ h4 (br_f qe_n10 (qx_pa1 _ hj (br_f qe_n10 (qx_ss _ h4 (by omega) ?_))))
      refine qy_am1 (N := 4) _ h4 (by decide) (br_f qe_n10 (qy_am1 (N := 8) _ hj (by decide) (br_f qe_n10 ?_)))
      exact qy_ss _ RY (by omega) ⟨rfl, rel⟩
theorem i_vc_hints {k : Nat} {u : SX} {v : SY} (I : i_Rel k u v) (hk : k + 5 ≤ 2561) : wpX_hints (fun r => wpY_hints (fun r' => r' = r ∧ i_Rel (k + 5) u v) v) u := by
  have rel : i_Rel (k + 5) u v := I
  obtain ⟨kh, dn, s, f, H, hl, hG, ⟨n1, n2, n3, n4, n5, rfl, hH⟩, RY⟩ := I
  obtain ⟨hg, hd, yk, ys, yv, al, m1, m2, m3, m4, m5⟩ := v
  exact ⟨RY.2.1, rel⟩
end
