/-! the component: reads -/
section
theorem qa_w (n pl : Nat) (h : pl < 64) : nI n * 72 + 64 + nI pl / 8 = nI (n * 72 + 64 + pl / 8) := by
  rw [qa_8 (by omega), show (72 : Int32) = nI 72 from rfl, show (64 : Int32) = nI 64 from rfl, pk_mul, nI_add, nI_add]
theorem qa_64 (n : Nat) : 64 + nI n = nI (64 + n) := nI_add 64 n
theorem qr_lvt {e w : qe_E} (h : e.1 = 1) (k : ¬ (w.1 = 3 ∧ e.2.1 ≤ w.2.1)) : qr_lv e w = e.2.2.toInt64 := if_pos ⟨h, k⟩
theorem qr_lvf {e w : qe_E} (h : ¬ (e.1 = 1 ∧ ¬ (w.1 = 3 ∧ e.2.1 ≤ w.2.1))) : qr_lv e w = 1000000000000 := if_neg h
variable {kh hn : Int32} {dn : Nat → Int32} {s f : Nat → qe_E} {n1 n2 n3 n4 n5 : Nat → Int32}
theorem qx_nhL (post : Int32 → Prop) {p sl L l : Nat} (hp : p < 8) (hs : sl < 72) (hl : l < 3) (hA : ∀ r, r < 3 → (qr_A dn p L r ↔ (dn (qr_nd p r) = 0 ∧ r ≤ l)))
    (h : ∀ q, q < 3 → qr_A dn p L q → (∀ r, r < 3 → qr_A dn p L r → ¬ qe_nw (s (qr_ix p sl r)) (s (qr_ix p sl q))) → post (nI (qr_nd p q))) :
    ∀ d r q, r + d = l → q < 3 → qr_A dn p L q → (∀ j, j < r → qr_A dn p L j → ¬ qe_nw (s (qr_ix p sl j)) (s (qr_ix p sl q))) → ¬ qe_nw (s (qr_ix p sl l)) (s (qr_ix p sl q)) →
      wX_newestHolder_10 post (nI p) (nI sl) (nI l) kh hn dn (qx_K s) (qx_T s) (qx_V s) (qx_K f) (qx_T f) (qx_V f) n1 n2 n3 n4 n5 (d + 1) (nI (qr_nd p q)) (nI r) := by
  intro d
  induction d with
  | zero =>
    intro r q hr hq hAq h1 h2
    obtain rfl : r = l := by omega
    refine br_t (Int32.le_refl _) (h q hq hAq (fun j hj hAj => ?_))
    have := ((hA j hj).mp hAj).2
    rcases Nat.lt_or_ge j r with c | c
    · exact h1 j c hAj
    · obtain rfl : j = r := by omega
      exact h2
  | succ d ih =>
    intro r q hr hq hAq h1 h2
    have nr : qr_nd p r < 4 := by unfold qr_nd; omega
    have nq : qr_nd p q < 4 := by unfold qr_nd; omega
    have cl : (nI (qr_nd p r)).toNatClampNeg = qr_nd p r := nI_clamp (by omega)
    have ix : qr_ix p sl r < 288 := qr_ixlt hs
    have iq : qr_ix p sl q < 288 := qr_ixlt hs
    have vi : vp_in (nI (qr_ix p sl r)) 288 := vp_in_nI ix (by omega)
    have ci : (nI (qr_ix p sl r)).toNatClampNeg = qr_ix p sl r := nI_clamp (by omega)
    refine br_f (nI_ge (by omega) (by omega)) (qx_rep _ (by omega) (by omega) ?_)
    refine nm_r (qa_ix (qr_nd p r) sl) (nm_r (qa_ix (qr_nd p q) sl) ⟨vp_in_nI nr (by omega), ?_⟩)
    rw [cl]
    by_cases z : dn (qr_nd p r) = 0
    · have Ar : qr_A dn p L r := (hA r (by omega)).mpr ⟨z, by omega⟩
      refine br_t z ⟨vi, vi, vi, ?_⟩
      rw [ci]
      refine qx_new _ iq _ _ _ (fun y => ?_) (fun y => ?_)
      · refine br_f qe_n10 (nm_r (nI_1 r) (ih (r + 1) r (by omega) (by omega) Ar (fun j hj hAj => ?_) (qe_ntr h2 (qe_asy y))))
        rcases Nat.lt_or_ge j r with c | c
        · exact qe_ntr (h1 j c hAj) (qe_asy y)
        · obtain rfl : j = r := by omega
          exact qe_irr _
      · refine br_t rfl (nm_r (nI_1 r) (ih (r + 1) q (by omega) hq hAq (fun j hj hAj => ?_) h2))
        rcases Nat.lt_or_ge j r with c | c
        · exact h1 j c hAj
        · obtain rfl : j = r := by omega
          exact y
    · refine br_f z (nm_r (nI_1 r) (ih (r + 1) q (by omega) hq hAq (fun j hj hAj => ?_) h2))
      rcases Nat.lt_or_ge j r with c | c
      · exact h1 j c hAj
      · obtain rfl : j = r := by omega
        exact absurd hAj.1 z
theorem qx_nh (post : Int32 → Prop) {p sl L l : Nat} (hp : p < 8) (hs : sl < 72) (hl : l < 3) (hAl : qr_A dn p L l) (hA : ∀ r, r < 3 → (qr_A dn p L r ↔ (dn (qr_nd p r) = 0 ∧ r ≤ l)))
    (h : ∀ q, q < 3 → qr_A dn p L q → (∀ r, r < 3 → qr_A dn p L r → ¬ qe_nw (s (qr_ix p sl r)) (s (qr_ix p sl q))) → post (nI (qr_nd p q))) : wpX_newestHolder post (kh, hn, dn, qx_K s, qx_T s, qx_V s, qx_K f, qx_T f, qx_V f, n1, n2, n3, n4, n5) (nI p) (nI sl) (nI l) := by
  unfold wpX_newestHolder
  refine qx_rep _ (by omega) (by omega) ?_
  exact ⟨l + 1, qx_nhL post hp hs hl hA h l 0 l (by omega) hl hAl (fun j hj => absurd hj (Nat.not_lt_zero j)) (qe_irr _)⟩
theorem qx_snL (post : SX → Prop) {p sl L l q : Nat} (hp : p < 8) (hs : sl < 72) (hl : l < 3) (hq : q < 3) (hAq : qr_A dn p L q) (hA : ∀ r, r < 3 → (qr_A dn p L r ↔ (dn (qr_nd p r) = 0 ∧ r ≤ l)))
    (G : qe_G s) (hm : ∀ r, r < 3 → qr_A dn p L r → ¬ qe_nw (s (qr_ix p sl r)) (s (qr_ix p sl q))) (h : post (kh, hn, dn, qx_K (qr_sh dn p L sl (s (qr_ix p sl q)) s (l + 1)), qx_T (qr_sh dn p L sl (s (qr_ix p sl q)) s (l + 1)), qx_V (qr_sh dn p L sl (s (qr_ix p sl q)) s (l + 1)), qx_K f, qx_T f, qx_V f, n1, n2, n3, n4, n5)) :
    ∀ d r, r + d = l + 1 → wX_shareNewest_17 post (nI p) (nI sl) (nI l) (nI (qr_ix p sl q)) (d + 1) (nI r) kh hn dn (qx_K (qr_sh dn p L sl (s (qr_ix p sl q)) s r)) (qx_T (qr_sh dn p L sl (s (qr_ix p sl q)) s r)) (qx_V (qr_sh dn p L sl (s (qr_ix p sl q)) s r)) (qx_K f) (qx_T f) (qx_V f) n1 n2 n3 n4 n5 := by
  have g : ∀ r, qe_gd (sl < 64) (s (qr_ix p sl r)) := by
    intro r
    have := G (qr_ix p sl r) (qr_ixlt hs)
    rw [qr_ixp hs] at this
    exact this
  intro d
  induction d with
  | zero =>
    intro r hr
    obtain rfl : r = l + 1 := by omega
    exact br_t (nI_lt (by omega) (by omega)) h
  | succ d ih =>
    intro r hr
    have i := ih (r + 1) (by omega)
    have nr : qr_nd p r < 4 := by unfold qr_nd; omega
    have cl : (nI (qr_nd p r)).toNatClampNeg = qr_nd p r := nI_clamp (by omega)
    have iq : qr_ix p sl q < 288 := qr_ixlt hs
    have vi : vp_in (nI (qr_ix p sl q)) 288 := vp_in_nI iq (by omega)
    have ci : (nI (qr_ix p sl q)).toNatClampNeg = qr_ix p sl q := nI_clamp (by omega)
    refine br_f (nI_nlt (by omega) (by omega)) (qx_rep _ (by omega) (by omega) ?_)
    refine ⟨vp_in_nI nr (by omega), ?_⟩
    rw [cl]
    by_cases z : dn (qr_nd p r) = 0
    · have Ar : qr_A dn p L r := (hA r (by omega)).mpr ⟨z, by omega⟩
      refine br_t z ⟨vi, vi, vi, ?_⟩
      rw [ci]
      have eq : qr_sh dn p L sl (s (qr_ix p sl q)) s r (qr_ix p sl q) = s (qr_ix p sl q) := by
        rcases Nat.lt_or_ge q r with c | c
        · exact qr_shi r (by omega) c hAq
        · exact qr_shl c hq
      have et : qe_tk (qr_sh dn p L sl (s (qr_ix p sl q)) s r) (qr_nd p r * 72 + sl) (s (qr_ix p sl q)) = qr_sh dn p L sl (s (qr_ix p sl q)) s (r + 1) := by
        rw [qr_sht Ar]
        show qe_up _ (qr_ix p sl r) (qe_jn (qr_sh dn p L sl (s (qr_ix p sl q)) s r (qr_ix p sl r)) (s (qr_ix p sl q))) = _
        rw [qr_shl (Nat.le_refl r) (by omega), qe_jm (g r) (g q) (hm r (by omega) Ar)]
      have eK : qx_K (qr_sh dn p L sl (s (qr_ix p sl q)) s r) (qr_ix p sl q) = (s (qr_ix p sl q)).1 := congrArg Prod.fst eq
      have eT : qx_T (qr_sh dn p L sl (s (qr_ix p sl q)) s r) (qr_ix p sl q) = (s (qr_ix p sl q)).2.1 := congrArg (fun x => x.2.1) eq
      have eV : qx_V (qr_sh dn p L sl (s (qr_ix p sl q)) s r) (qr_ix p sl q) = (s (qr_ix p sl q)).2.2 := congrArg (fun x => x.2.2) eq
      rw [eK, eT, eV]
      refine qx_takeJ _ nr hs (s (qr_ix p sl q)) (fun _ => ?_)
      rw [et]
      exact nm_r (nI_1 r) i
    · have nA : ¬ qr_A dn p L r := fun y => z y.1
      rw [qr_shf nA] at i
      exact br_f z (nm_r (nI_1 r) i)
theorem qx_sn (post : SX → Prop) {p sl L l : Nat} (hp : p < 8) (hs : sl < 72) (hl : l < 3) (hAl : qr_A dn p L l) (hA : ∀ r, r < 3 → (qr_A dn p L r ↔ (dn (qr_nd p r) = 0 ∧ r ≤ l)))
    (G : qe_G s) (h : post (kh, hn, dn, qx_K (qr_one dn p L sl s), qx_T (qr_one dn p L sl s), qx_V (qr_one dn p L sl s), qx_K f, qx_T f, qx_V f, n1, n2, n3, n4, n5)) : wpX_shareNewest post (kh, hn, dn, qx_K s, qx_T s, qx_V s, qx_K f, qx_T f, qx_V f, n1, n2, n3, n4, n5) (nI p) (nI sl) (nI l) := by
  unfold wpX_shareNewest
  refine qx_nh _ hp hs hl hAl hA (fun q hq hAq hm => ?_)
  refine nm_r (qa_ix (qr_nd p q) sl) ⟨l + 2, ?_⟩
  have g : ∀ r, r < 3 → qe_gd (sl < 64) (s (qr_ix p sl r)) := by
    intro r _
    have := G (qr_ix p sl r) (qr_ixlt hs)
    rw [qr_ixp hs] at this
    exact this
  have eM : s (qr_ix p sl q) = qr_M dn p L sl s := qr_IMu g ⟨hm, Or.inr ⟨q, hq, hAq, rfl⟩⟩ (qr_mxI dn p L (fun r => s (qr_ix p sl r)) 3)
  have eS : qr_sh dn p L sl (s (qr_ix p sl q)) s (l + 1) = qr_one dn p L sl s := by
    rw [eM]
    exact (qr_shc (fun r h1 h2 hB => by have := ((hA r h2).mp hB).2; omega) 3 (by omega) (by omega)).symm
  rw [← eS] at h
  exact qx_snL post hp hs hl hq hAq hA G hm h (l + 1) 0 (by omega)
theorem qx_hid (post : Int32 → Prop) {n pl : Nat} (hn4 : n < 4) (hpl : pl < 64) (h1 : qk_hd s n pl → post 1) (h0 : ¬ qk_hd s n pl → post 0) : wpX_isHidden post (kh, hn, dn, qx_K s, qx_T s, qx_V s, qx_K f, qx_T f, qx_V f, n1, n2, n3, n4, n5) (nI n) (nI pl) := by
  have vw : vp_in (nI (n * 72 + 64 + pl / 8)) 288 := vp_in_nI (by omega) (by omega)
  have ve : vp_in (nI (n * 72 + pl)) 288 := vp_in_nI (by omega) (by omega)
  have cw : (nI (n * 72 + 64 + pl / 8)).toNatClampNeg = n * 72 + 64 + pl / 8 := nI_clamp (by omega)
  have ce : (nI (n * 72 + pl)).toNatClampNeg = n * 72 + pl := nI_clamp (by omega)
  unfold wpX_isHidden
  dsimp only
  refine ⟨qa_n8, nm_r (qa_w n pl hpl) ?_⟩
  rw [qa_ix, cw, ce]
  refine ⟨vw, fun a => ⟨vw, ve, fun b => h0 (fun z => ?_), fun b => h1 ⟨a, Int32.not_lt.mp b⟩⟩, fun a => h0 (fun z => a z.1)⟩
  exact absurd b (Int32.not_lt.mpr z.2)
theorem qx_lv (post : Int64 → Prop) {n pl : Nat} (hn4 : n < 4) (hpl : pl < 64) (h : post (qr_lv (s (n * 72 + pl)) (s (n * 72 + 64 + pl / 8)))) : wpX_liveValue post (kh, hn, dn, qx_K s, qx_T s, qx_V s, qx_K f, qx_T f, qx_V f, n1, n2, n3, n4, n5) (nI n) (nI pl) := by
  have ve : vp_in (nI (n * 72 + pl)) 288 := vp_in_nI (by omega) (by omega)
  have ce : (nI (n * 72 + pl)).toNatClampNeg = n * 72 + pl := nI_clamp (by omega)
  unfold wpX_liveValue
  dsimp only
  refine nm_r (qa_ix n pl) ?_
  rw [ce]
  refine ⟨ve, fun a => qx_hid _ hn4 hpl (fun y => ?_) (fun y => ?_), fun a => ?_⟩
  · rw [qr_lvf (fun z => z.2 y)] at h
    exact br_f qe_n10 h
  · rw [qr_lvt a y] at h
    exact br_t rfl ⟨ve, h⟩
  · rw [qr_lvf (fun z => a z.1)] at h
    exact h
theorem qx_ask (post : Int64 → SX → Prop) {pl L : Nat} (hpl : pl < 64) (h1 : 1 ≤ L) (hL : L ≤ qr_ct dn (pl / 8) 3) (G : qe_G s) (h : post (qr_av dn L pl s) (kh, hn, dn, qx_K (qr_rd dn L pl s), qx_T (qr_rd dn L pl s), qx_V (qr_rd dn L pl s), qx_K f, qx_T f, qx_V f, n1, n2, n3, n4, n5)) : wpX_askReplicas post (kh, hn, dn, qx_K s, qx_T s, qx_V s, qx_K f, qx_T f, qx_V f, n1, n2, n3, n4, n5) (nI pl) (nI L) := by
  have hc := qr_ctle dn (pl / 8) 3
  obtain ⟨l3, lA, lS⟩ := qr_last h1 hL
  unfold wpX_askReplicas
  refine ⟨qa_n8, nm_r (qa_8 (by omega)) (qx_la _ (by omega) (by omega) ?_)⟩
  refine qx_sn _ (L := L) (by omega) (by omega) l3 lA lS G ?_
  rw [qa_64]
  refine qx_sn _ (L := L) (by omega) (by omega) l3 lA lS (qr_G1 G (by omega)) ?_
  refine qx_rep _ (by omega) (by omega) ?_
  have nr : qr_nd (pl / 8) (qr_la dn (pl / 8) L 3) < 4 := by unfold qr_nd; omega
  refine qx_lv _ nr hpl ?_
  have e1 : qr_one dn (pl / 8) L (64 + pl / 8) (qr_one dn (pl / 8) L pl s) (qr_nd (pl / 8) (qr_la dn (pl / 8) L 3) * 72 + pl) = qr_M dn (pl / 8) L pl s := by
    have em : (qr_nd (pl / 8) (qr_la dn (pl / 8) L 3) * 72 + pl) % 72 = pl := by omega
    rw [qr_oneo (by rw [em]; omega) (by omega)]
    exact qr_onei l3 lA
  have e2 : qr_one dn (pl / 8) L (64 + pl / 8) (qr_one dn (pl / 8) L pl s) (qr_nd (pl / 8) (qr_la dn (pl / 8) L 3) * 72 + 64 + pl / 8) = qr_M dn (pl / 8) L (64 + pl / 8) (qr_one dn (pl / 8) L pl s) := by
    rw [Nat.add_assoc]
    exact qr_onei l3 lA
  rw [e1, e2]
  exact h
theorem qx_smL (post : Int64 → SX → Prop) {p L : Nat} (hp : p < 8) (h1 : 1 ≤ L) (hL : L ≤ qr_ct dn p 3) (G : ∀ c, c ≤ 8 → qe_G (qr_sm dn L p s c).1) (h : post (qr_sm dn L p s 8).2 (kh, hn, dn, qx_K ((qr_sm dn L p s 8).1), qx_T ((qr_sm dn L p s 8).1), qx_V ((qr_sm dn L p s 8).1), qx_K f, qx_T f, qx_V f, n1, n2, n3, n4, n5)) :
    ∀ d c, c + d = 8 → wX_sum_36 post (nI p) (nI L) (d + 1) (qr_sm dn L p s c).2 (nI c) kh hn dn (qx_K ((qr_sm dn L p s c).1)) (qx_T ((qr_sm dn L p s c).1)) (qx_V ((qr_sm dn L p s c).1)) (qx_K f) (qx_T f) (qx_V f) n1 n2 n3 n4 n5 := by
  intro d
  induction d with
  | zero =>
    intro c hc
    obtain rfl : c = 8 := by omega
    exact br_t (Int32.le_refl _) h
  | succ d ih =>
    intro c hc
    have i := ih (c + 1) (by omega)
    refine br_f (nI_ge (b := 8) (by omega) (by decide)) ?_
    rw [show nI p * 8 + nI c = nI (p * 8 + c) by rw [show (8 : Int32) = nI 8 from rfl, pk_mul, nI_add]]
    have ep : (p * 8 + c) / 8 = p := by omega
    refine qx_ask _ (by omega) h1 (by rw [ep]; exact hL) (G c (by omega)) ?_
    refine br_c (fun z => ?_) (fun z => ?_)
    · have e : (qr_sm dn L p s (c + 1)).2 = (qr_sm dn L p s c).2 := if_pos z
      rw [e] at i
      exact nm_r (nI_1 c) i
    · have e : (qr_sm dn L p s (c + 1)).2 = (qr_sm dn L p s c).2 + qr_av dn L (p * 8 + c) (qr_sm dn L p s c).1 := if_neg z
      rw [e] at i
      exact nm_e (nm_r (nI_1 c) i)
theorem qr_smG {dn : Nat → Int32} {L p : Nat} {s : Nat → qe_E} (hp : p < 8) (G : qe_G s) : ∀ c, c ≤ 8 → qe_G (qr_sm dn L p s c).1 := by
  intro c
  induction c with
  | zero => intro _; exact G
  | succ c ih => intro hc; exact qr_Gr (ih (by omega)) (by omega)
end
