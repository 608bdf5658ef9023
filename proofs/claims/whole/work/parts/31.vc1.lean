/-! the methods that send and that read -/
section
theorem qx_sdp (post : Int32 → SX → Prop) {kh : Int32} {dn : Nat → Int32} {s f : Nat → qe_E} {sl L p : Nat} (ep : qp_pt sl = p) (hs : sl < 72) (hL : L < 4) (e : qe_E) {H : List qh_H} (hl : H.length ≤ 12) {u : SX} (R : qx_R kh dn s f H u)
    (h1 : L ≤ qr_ct dn p 3 → ∀ u', qx_R kh dn (qs_al dn kh p sl e 3 (s, H)).1 f (qs_al dn kh p sl e 3 (s, H)).2 u' → post (nI (qr_ct dn p 3)) u')
    (h0 : qr_ct dn p 3 < L → post (-2) u) : wpX_send post u (nI sl) e.1 e.2.1 e.2.2 (nI L) := by
  subst ep
  exact qx_sd post hs hL e hl R h1 h0
theorem i_vc_write {k : Nat} {u : SX} {v : SY} (I : i_Rel k u v) (hk : k + 5 ≤ 2561) (v1 : Int32) (v2 : Int32) (v3 : Int32) (v4 : Int32) : wpX_write (fun r u' => wpY_write (fun r' v' => r' = r ∧ i_Rel (k + 5) u' v') v v1 v2 v3 v4) u v1 v2 v3 v4 := by
  obtain ⟨kh, dn, s, f, H, hl, hG, ⟨n1, n2, n3, n4, n5, rfl, hH⟩, RY⟩ := I
  obtain ⟨hg, hd, yk, ys, yv, al, m1, m2, m3, m4, m5⟩ := v
  have RX : qx_R kh dn s f H (kh, nI H.length, dn, qx_K s, qx_T s, qx_V s, qx_K f, qx_T f, qx_V f, n1, n2, n3, n4, n5) := ⟨n1, n2, n3, n4, n5, rfl, hH⟩
  have rel : i_Rel (k + 5) (kh, nI H.length, dn, qx_K s, qx_T s, qx_V s, qx_K f, qx_T f, qx_V f, n1, n2, n3, n4, n5) (hg, hd, yk, ys, yv, al, m1, m2, m3, m4, m5) := ⟨kh, dn, s, f, H, hl, hG, RX, RY⟩
  unfold wpX_write wpY_write
  dsimp only
  rcases qa_rng v1 (n := 64) (by decide) with c | ⟨j, hj, rfl⟩
  · exact qx_pl0 _ c (br_t rfl (qy_am0 _ c (br_t rfl ⟨rfl, rel⟩)))
  · refine qx_pl1 _ hj (br_f qe_n10 ?_)
    rcases qa_lvl v4 with c | ⟨L, l1, l3, rfl⟩
    · exact qx_lv0 _ c (br_t rfl (qy_am1 (N := 64) _ hj (by decide) (br_f qe_n10 (qa_lb c ⟨rfl, rel⟩))))
    · have hc := qr_ctle dn (j / 8) 3
      have ep : qp_pt j = j / 8 := if_pos hj
      refine qx_lv1 _ l1 l3 (br_f qe_n10 (qx_sdp _ ep (by omega) (by omega) (1, v3, v2) hl RX (fun c u' R' => ?_) (fun c => ?_)))
      · obtain ⟨a1, a2, a3, a4, a5, rfl, hA⟩ := R'
        refine qy_am1 (N := 64) _ hj (by decide) (br_f qe_n10 (br_f (qa_L1 l1 l3) (br_t (qa_L3' l3) ⟨qa_n8, ?_⟩)))
        rw [qa_8 (by omega)]
        refine qy_uc _ (by omega) RY (pk_le L (qr_ct dn (j / 8) 3) (fun _ => ⟨qa_n8, qy_sd _ (by omega) (by omega) (e := (1, v3, v2)) (Or.inr (Or.inl ⟨hj, rfl, rfl⟩)) qe_n10 hl RY (fun v' RY' => ?_)⟩) (fun z => absurd c (by omega)))
        obtain ⟨bg, bd, b1, b2, b3, b4, b5, b6, b7, b8, b9⟩ := v'
        exact ⟨rfl, kh, dn, _, f, _, qs_len (S := (s, H)) hl 3, qs_G (S := (s, H)) (by omega) qe_n10 hG 3, ⟨a1, a2, a3, a4, a5, rfl, hA⟩, RY'⟩
      · refine qy_am1 (N := 64) _ hj (by decide) (br_f qe_n10 (br_f (qa_L1 l1 l3) (br_t (qa_L3' l3) ⟨qa_n8, ?_⟩)))
        rw [qa_8 (by omega)]
        exact qy_uc _ (by omega) RY (pk_le L (qr_ct dn (j / 8) 3) (fun z => absurd c (by omega)) (fun _ => ⟨rfl, rel⟩))
theorem i_vc_erase {k : Nat} {u : SX} {v : SY} (I : i_Rel k u v) (hk : k + 5 ≤ 2561) (v1 : Int32) (v2 : Int32) (v3 : Int32) : wpX_erase (fun r u' => wpY_erase (fun r' v' => r' = r ∧ i_Rel (k + 5) u' v') v v1 v2 v3) u v1 v2 v3 := by
  obtain ⟨kh, dn, s, f, H, hl, hG, ⟨n1, n2, n3, n4, n5, rfl, hH⟩, RY⟩ := I
  obtain ⟨hg, hd, yk, ys, yv, al, m1, m2, m3, m4, m5⟩ := v
  have RX : qx_R kh dn s f H (kh, nI H.length, dn, qx_K s, qx_T s, qx_V s, qx_K f, qx_T f, qx_V f, n1, n2, n3, n4, n5) := ⟨n1, n2, n3, n4, n5, rfl, hH⟩
  have rel : i_Rel (k + 5) (kh, nI H.length, dn, qx_K s, qx_T s, qx_V s, qx_K f, qx_T f, qx_V f, n1, n2, n3, n4, n5) (hg, hd, yk, ys, yv, al, m1, m2, m3, m4, m5) := ⟨kh, dn, s, f, H, hl, hG, RX, RY⟩
  unfold wpX_erase wpY_erase
  dsimp only
  rcases qa_rng v1 (n := 64) (by decide) with c | ⟨j, hj, rfl⟩
  · exact qx_pl0 _ c (br_t rfl (qy_am0 _ c (br_t rfl ⟨rfl, rel⟩)))
  · refine qx_pl1 _ hj (br_f qe_n10 ?_)
    rcases qa_lvl v3 with c | ⟨L, l1, l3, rfl⟩
    · exact qx_lv0 _ c (br_t rfl (qy_am1 (N := 64) _ hj (by decide) (br_f qe_n10 (qa_lb c ⟨rfl, rel⟩))))
    · have hc := qr_ctle dn (j / 8) 3
      have ep : qp_pt j = j / 8 := if_pos hj
      refine qx_lv1 _ l1 l3 (br_f qe_n10 (qx_sdp _ ep (by omega) (by omega) (2, v2, 0) hl RX (fun c u' R' => ?_) (fun c => ?_)))
      · obtain ⟨a1, a2, a3, a4, a5, rfl, hA⟩ := R'
        refine qy_am1 (N := 64) _ hj (by decide) (br_f qe_n10 (br_f (qa_L1 l1 l3) (br_t (qa_L3' l3) ⟨qa_n8, ?_⟩)))
        rw [qa_8 (by omega)]
        refine qy_uc _ (by omega) RY (pk_le L (qr_ct dn (j / 8) 3) (fun _ => ⟨qa_n8, qy_sd _ (by omega) (by omega) (e := (2, v2, 0)) (Or.inr (Or.inr (Or.inl ⟨hj, rfl, rfl, rfl⟩))) qe_n20 hl RY (fun v' RY' => ?_)⟩) (fun z => absurd c (by omega)))
        obtain ⟨bg, bd, b1, b2, b3, b4, b5, b6, b7, b8, b9⟩ := v'
        exact ⟨rfl, kh, dn, _, f, _, qs_len (S := (s, H)) hl 3, qs_G (S := (s, H)) (by omega) qe_n20 hG 3, ⟨a1, a2, a3, a4, a5, rfl, hA⟩, RY'⟩
      · refine qy_am1 (N := 64) _ hj (by decide) (br_f qe_n10 (br_f (qa_L1 l1 l3) (br_t (qa_L3' l3) ⟨qa_n8, ?_⟩)))
        rw [qa_8 (by omega)]
        exact qy_uc _ (by omega) RY (pk_le L (qr_ct dn (j / 8) 3) (fun z => absurd c (by omega)) (fun _ => ⟨rfl, rel⟩))
theorem i_vc_wipe {k : Nat} {u : SX} {v : SY} (I : i_Rel k u v) (hk : k + 5 ≤ 2561) (v1 : Int32) (v2 : Int32) (v3 : Int32) : wpX_wipe (fun r u' => wpY_wipe (fun r' v' => r' = r ∧ i_Rel (k + 5) u' v') v v1 v2 v3) u v1 v2 v3 := by
  obtain ⟨kh, dn, s, f, H, hl, hG, ⟨n1, n2, n3, n4, n5, rfl, hH⟩, RY⟩ := I
  obtain ⟨hg, hd, yk, ys, yv, al, m1, m2, m3, m4, m5⟩ := v
  have RX : qx_R kh dn s f H (kh, nI H.length, dn, qx_K s, qx_T s, qx_V s, qx_K f, qx_T f, qx_V f, n1, n2, n3, n4, n5) := ⟨n1, n2, n3, n4, n5, rfl, hH⟩
  have rel : i_Rel (k + 5) (kh, nI H.length, dn, qx_K s, qx_T s, qx_V s, qx_K f, qx_T f, qx_V f, n1, n2, n3, n4, n5) (hg, hd, yk, ys, yv, al, m1, m2, m3, m4, m5) := ⟨kh, dn, s, f, H, hl, hG, RX, RY⟩
  unfold wpX_wipe wpY_wipe
  dsimp only
  rcases qa_rng v1 (n := 8) (by decide) with c | ⟨j, hj, rfl⟩
  · exact qx_pa0 _ c (br_t rfl (qy_am0 _ c (br_t rfl ⟨rfl, rel⟩)))
  · refine qx_pa1 _ hj (br_f qe_n10 ?_)
    rcases qa_lvl v3 with c | ⟨L, l1, l3, rfl⟩
    · exact qx_lv0 _ c (br_t rfl (qy_am1 (N := 8) _ hj (by decide) (br_f qe_n10 (qa_lb c ⟨rfl, rel⟩))))
    · have hc := qr_ctle dn j 3
      have ep : qp_pt (64 + j) = j := by unfold qp_pt; rw [if_neg (by omega)]; omega
      rw [qa_64]
      refine qx_lv1 _ l1 l3 (br_f qe_n10 (qx_sdp _ ep (by omega) (by omega) (3, v2, 0) hl RX (fun c u' R' => ?_) (fun c => ?_)))
      · obtain ⟨a1, a2, a3, a4, a5, rfl, hA⟩ := R'
        refine qy_am1 (N := 8) _ hj (by decide) (br_f qe_n10 (br_f (qa_L1 l1 l3) (br_t (qa_L3' l3) ?_)))
        refine qy_uc _ (by omega) RY (pk_le L (qr_ct dn j 3) (fun _ => qy_sd _ (by omega) (by omega) (e := (3, v2, 0)) (Or.inr (Or.inr (Or.inr ⟨by omega, rfl, rfl, rfl⟩))) qe_n20 hl RY (fun v' RY' => ?_)) (fun z => absurd c (by omega)))
        obtain ⟨bg, bd, b1, b2, b3, b4, b5, b6, b7, b8, b9⟩ := v'
        exact ⟨rfl, kh, dn, _, f, _, qs_len (S := (s, H)) hl 3, qs_G (S := (s, H)) (by omega) qe_n30 hG 3, ⟨a1, a2, a3, a4, a5, rfl, hA⟩, RY'⟩
      · refine qy_am1 (N := 8) _ hj (by decide) (br_f qe_n10 (br_f (qa_L1 l1 l3) (br_t (qa_L3' l3) ?_)))
        exact qy_uc _ (by omega) RY (pk_le L (qr_ct dn j 3) (fun z => absurd c (by omega)) (fun _ => ⟨rfl, rel⟩))
theorem qy_rd0 (post : Int64 → SY → Prop) {V : SY} {x y : Int32} (h : (x < 0 ∨ 64 ≤ x) ∨ (y < 1 ∨ 3 < y)) (g : post (-1000000000000) V) : wpY_read post V x y := by
  obtain ⟨hg, hd, yk, ys, yv, al, m1, m2, m3, m4, m5⟩ := V
  unfold wpY_read
  dsimp only
  rcases qa_rng x (n := 64) (by decide) with c | ⟨j, hj, rfl⟩
  · exact qy_am0 _ c (br_t rfl g)
  · refine qy_am1 (N := 64) _ hj (by decide) (br_f qe_n10 ?_)
    rcases h with (c | c) | c
    · exact absurd c (nI_pos (by omega))
    · exact absurd c (nI_ge (b := 64) hj (by decide))
    · exact qa_lb' c g
theorem i_vc_read {k : Nat} {u : SX} {v : SY} (I : i_Rel k u v) (hk : k + 5 ≤ 2561) (v1 : Int32) (v2 : Int32) : wpX_read (fun r u' => wpY_read (fun r' v' => r' = r ∧ i_Rel (k + 5) u' v') v v1 v2) u v1 v2 := by
  obtain ⟨kh, dn, s, f, H, hl, hG, ⟨n1, n2, n3, n4, n5, rfl, hH⟩, RY⟩ := I
  have RX : qx_R kh dn s f H (kh, nI H.length, dn, qx_K s, qx_T s, qx_V s, qx_K f, qx_T f, qx_V f, n1, n2, n3, n4, n5) := ⟨n1, n2, n3, n4, n5, rfl, hH⟩
  have rel : i_Rel (k + 5) (kh, nI H.length, dn, qx_K s, qx_T s, qx_V s, qx_K f, qx_T f, qx_V f, n1, n2, n3, n4, n5) v := ⟨kh, dn, s, f, H, hl, hG, RX, RY⟩
  have G := (qy_G RY).1
  unfold wpX_read
  dsimp only
  rcases qa_rng v1 (n := 64) (by decide) with c | ⟨j, hj, rfl⟩
  · exact qx_pl0 _ c (br_t rfl (qy_rd0 _ (Or.inl c) ⟨rfl, rel⟩))
  · refine qx_pl1 _ hj (br_f qe_n10 ?_)
    rcases qa_lvl v2 with c | ⟨L, l1, l3, rfl⟩
    · exact qx_lv0 _ c (br_t rfl (qy_rd0 _ (Or.inr c) ⟨rfl, rel⟩))
    · have hc := qr_ctle dn (j / 8) 3
      refine qx_lv1 _ l1 l3 (br_f qe_n10 ⟨qa_n8, ?_⟩)
      rw [qa_8 (by omega)]
      refine qx_cu _ (by omega) (pk_le L (qr_ct dn (j / 8) 3) (fun c => qx_ask _ hj l1 c G ?_) (fun c => ?_))
      · exact qy_rd _ hj l1 l3 RY (fun _ v' RY' => ⟨rfl, kh, dn, _, f, H, hl, hG, ⟨n1, n2, n3, n4, n5, rfl, hH⟩, RY'⟩) (fun z => absurd c (by omega))
      · exact qy_rd _ hj l1 l3 RY (fun z => absurd c (by omega)) (fun _ => ⟨rfl, rel⟩)
theorem i_vc_sum {k : Nat} {u : SX} {v : SY} (I : i_Rel k u v) (hk : k + 5 ≤ 2561) (v1 : Int32) (v2 : Int32) : wpX_sum (fun r u' => wpY_sum (fun r' v' => r' = r ∧ i_Rel (k + 5) u' v') v v1 v2) u v1 v2 := by
  obtain ⟨kh, dn, s, f, H, hl, hG, ⟨n1, n2, n3, n4, n5, rfl, hH⟩, RY⟩ := I
  have G := (qy_G RY).1
  obtain ⟨hg, hd, yk, ys, yv, al, m1, m2, m3, m4, m5⟩ := v
  have RX : qx_R kh dn s f H (kh, nI H.length, dn, qx_K s, qx_T s, qx_V s, qx_K f, qx_T f, qx_V f, n1, n2, n3, n4, n5) := ⟨n1, n2, n3, n4, n5, rfl, hH⟩
  have rel : i_Rel (k + 5) (kh, nI H.length, dn, qx_K s, qx_T s, qx_V s, qx_K f, qx_T f, qx_V f, n1, n2, n3, n4, n5) (hg, hd, yk, ys, yv, al, m1, m2, m3, m4, m5) := ⟨kh, dn, s, f, H, hl, hG, RX, RY⟩
  unfold wpX_sum wpY_sum
  dsimp only
  rcases qa_rng v1 (n := 8) (by decide) with c | ⟨j, hj, rfl⟩
  · exact qx_pa0 _ c (br_t rfl (qy_am0 _ c (br_t rfl ⟨rfl, rel⟩)))
  · refine qx_pa1 _ hj (br_f qe_n10 ?_)
    rcases qa_lvl v2 with c | ⟨L, l1, l3, rfl⟩
    · exact qx_lv0 _ c (br_t rfl (qy_am1 (N := 8) _ hj (by decide) (br_f qe_n10 (qa_lb' c ⟨rfl, rel⟩))))
    · have hc := qr_ctle dn j 3
      refine qx_lv1 _ l1 l3 (br_f qe_n10 (qx_cu _ hj (pk_le L (qr_ct dn j 3) (fun c => ⟨9, qx_smL _ hj l1 c (qr_smG hj G) ?_ 8 0 rfl⟩) (fun c => ?_))))
      · refine qy_am1 (N := 8) _ hj (by decide) (br_f qe_n10 (br_f (qa_L1 l1 l3) (br_f (qa_L3 l3) ?_)))
        exact qy_uc _ hj RY (pk_le L (qr_ct dn j 3) (fun _ => ⟨9, qy_smL _ hj l1 l3 c (fun v' RY' => ⟨rfl, kh, dn, _, f, H, hl, hG, ⟨n1, n2, n3, n4, n5, rfl, hH⟩, RY'⟩) 8 0 rfl _ _ _ _ _ _ _ _ _ _ _ RY⟩) (fun z => absurd c (by omega)))
      · refine qy_am1 (N := 8) _ hj (by decide) (br_f qe_n10 (br_f (qa_L1 l1 l3) (br_f (qa_L3 l3) ?_)))
        exact qy_uc _ hj RY (pk_le L (qr_ct dn j 3) (fun z => absurd c (by omega)) (fun _ => ⟨rfl, rel⟩))
end
