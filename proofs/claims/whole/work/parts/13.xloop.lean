/-! the component: loops over a node's slots -/
section
theorem qa_n32 : ¬ (3 : Int32) = 2 := by decide
theorem qk_00 {lo : Nat} {F G : Nat → qe_E} : qk_mix lo (lo + 0) F G = G := qk_0
def qk_ss (e : qe_E) : Int64 := if e.1 = 0 then 1000000000000 else e.2.1.toInt64
theorem qk_sst {e : qe_E} (h : e.1 = 0) : qk_ss e = 1000000000000 := if_pos h
theorem qk_ssf {e : qe_E} (h : ¬ e.1 = 0) : qk_ss e = e.2.1.toInt64 := if_neg h
variable {kh hn : Int32} {dn : Nat → Int32} {s f : Nat → qe_E} {n1 n2 n3 n4 n5 : Nat → Int32}
theorem qx_cnL (post : Int32 → Prop) {n : Nat} (h4 : n < 4) (h : post (nI (qk_cn s n 64))) : ∀ d k, k + d = 64 → wX_countEntries_4 post (nI n) kh hn dn (qx_K s) (qx_T s) (qx_V s) (qx_K f) (qx_T f) (qx_V f) n1 n2 n3 n4 n5 (d + 1) (nI (qk_cn s n k)) (nI k) := by
  intro d
  induction d with
  | zero =>
    intro k hk
    obtain rfl : k = 64 := by omega
    exact br_t (Int32.le_refl _) h
  | succ d ih =>
    intro k hk
    have i := ih (k + 1) (by omega)
    have vi : vp_in (nI (n * 72 + k)) 288 := vp_in_nI (by omega) (by omega)
    have ci : (nI (n * 72 + k)).toNatClampNeg = n * 72 + k := nI_clamp (by omega)
    refine br_f (nI_ge (b := 64) (by omega) (by decide)) ?_
    rw [qa_ix, ci]
    refine ⟨vi, br_c (fun z => ?_) (fun z => ?_)⟩
    · have e : qk_cn s n (k + 1) = qk_cn s n k := if_pos z
      rw [e] at i
      exact nm_r (nI_1 k) i
    · have e : qk_cn s n (k + 1) = qk_cn s n k + 1 := if_neg z
      rw [e] at i
      exact nm_r (nI_1 _) (nm_r (nI_1 k) i)
theorem qx_cn (post : Int32 → Prop) {n : Nat} (h4 : n < 4) (h : post (nI (qk_cn s n 64))) : wpX_countEntries post (kh, hn, dn, qx_K s, qx_T s, qx_V s, qx_K f, qx_T f, qx_V f, n1, n2, n3, n4, n5) (nI n) := ⟨65, qx_cnL post h4 h 64 0 rfl⟩
theorem qx_rfL (post : SX → Prop) {n : Nat} (h4 : n < 4) (h : post (kh, hn, dn, qx_K (qk_cp n f s), qx_T (qk_cp n f s), qx_V (qk_cp n f s), qx_K f, qx_T f, qx_V f, n1, n2, n3, n4, n5)) : ∀ d k, k + d = 72 → wX_restoreFlushed_2 post (nI n) kh hn (d + 1) (nI k) dn (qx_K (qk_mix (n * 72) (n * 72 + k) f s)) (qx_T (qk_mix (n * 72) (n * 72 + k) f s)) (qx_V (qk_mix (n * 72) (n * 72 + k) f s)) (qx_K f) (qx_T f) (qx_V f) n1 n2 n3 n4 n5 := by
  intro d
  induction d with
  | zero =>
    intro k hk
    obtain rfl : k = 72 := by omega
    exact br_t (Int32.le_refl _) h
  | succ d ih =>
    intro k hk
    have i := ih (k + 1) (by omega)
    have vi : vp_in (nI (n * 72 + k)) 288 := vp_in_nI (by omega) (by omega)
    have ci : (nI (n * 72 + k)).toNatClampNeg = n * 72 + k := nI_clamp (by omega)
    refine br_f (nI_ge (b := 72) (by omega) (by decide)) (nm_r (qa_ix n k) ?_)
    rw [ci]
    have e : qe_up (qk_mix (n * 72) (n * 72 + k) f s) (n * 72 + k) (qx_K f (n * 72 + k), qx_T f (n * 72 + k), qx_V f (n * 72 + k)) = qk_mix (n * 72) (n * 72 + (k + 1)) f s := qk_s (by omega) rfl
    refine ⟨vi, vi, nm_r (qx_uK _ _ (qx_K f (n * 72 + k)) (qx_T f (n * 72 + k)) (qx_V f (n * 72 + k))) ⟨vi, vi, nm_r (qx_uT _ _ (qx_K f (n * 72 + k)) (qx_T f (n * 72 + k)) (qx_V f (n * 72 + k))) ⟨vi, vi, nm_r (qx_uV _ _ (qx_K f (n * 72 + k)) (qx_T f (n * 72 + k)) (qx_V f (n * 72 + k))) ?_⟩⟩⟩
    rw [e]
    exact nm_r (nI_1 k) i
theorem qx_rf (post : SX → Prop) {n : Nat} (h4 : n < 4) (h : post (kh, hn, dn, qx_K (qk_cp n f s), qx_T (qk_cp n f s), qx_V (qk_cp n f s), qx_K f, qx_T f, qx_V f, n1, n2, n3, n4, n5)) : wpX_restoreFlushed post (kh, hn, dn, qx_K s, qx_T s, qx_V s, qx_K f, qx_T f, qx_V f, n1, n2, n3, n4, n5) (nI n) := by
  have k := qx_rfL (hn := hn) post h4 h 72 0 rfl
  rw [qk_00] at k
  exact ⟨73, k⟩
theorem qx_kfL (post : SX → Prop) {n : Nat} (h4 : n < 4) (h : post (kh, hn, dn, qx_K s, qx_T s, qx_V s, qx_K (qk_cp n s f), qx_T (qk_cp n s f), qx_V (qk_cp n s f), n1, n2, n3, n4, n5)) : ∀ d k, k + d = 72 → wX_keepAsFlushed_2 post (nI n) kh hn (d + 1) (nI k) dn (qx_K s) (qx_T s) (qx_V s) (qx_K (qk_mix (n * 72) (n * 72 + k) s f)) (qx_T (qk_mix (n * 72) (n * 72 + k) s f)) (qx_V (qk_mix (n * 72) (n * 72 + k) s f)) n1 n2 n3 n4 n5 := by
  intro d
  induction d with
  | zero =>
    intro k hk
    obtain rfl : k = 72 := by omega
    exact br_t (Int32.le_refl _) h
  | succ d ih =>
    intro k hk
    have i := ih (k + 1) (by omega)
    have vi : vp_in (nI (n * 72 + k)) 288 := vp_in_nI (by omega) (by omega)
    have ci : (nI (n * 72 + k)).toNatClampNeg = n * 72 + k := nI_clamp (by omega)
    refine br_f (nI_ge (b := 72) (by omega) (by decide)) (nm_r (qa_ix n k) ?_)
    rw [ci]
    have e : qe_up (qk_mix (n * 72) (n * 72 + k) s f) (n * 72 + k) (qx_K s (n * 72 + k), qx_T s (n * 72 + k), qx_V s (n * 72 + k)) = qk_mix (n * 72) (n * 72 + (k + 1)) s f := qk_s (by omega) rfl
    refine ⟨vi, vi, nm_r (qx_uK _ _ (qx_K s (n * 72 + k)) (qx_T s (n * 72 + k)) (qx_V s (n * 72 + k))) ⟨vi, vi, nm_r (qx_uT _ _ (qx_K s (n * 72 + k)) (qx_T s (n * 72 + k)) (qx_V s (n * 72 + k))) ⟨vi, vi, nm_r (qx_uV _ _ (qx_K s (n * 72 + k)) (qx_T s (n * 72 + k)) (qx_V s (n * 72 + k))) ?_⟩⟩⟩
    rw [e]
    exact nm_r (nI_1 k) i
theorem qx_kf (post : SX → Prop) {n : Nat} (h4 : n < 4) (h : post (kh, hn, dn, qx_K s, qx_T s, qx_V s, qx_K (qk_cp n s f), qx_T (qk_cp n s f), qx_V (qk_cp n s f), n1, n2, n3, n4, n5)) : wpX_keepAsFlushed post (kh, hn, dn, qx_K s, qx_T s, qx_V s, qx_K f, qx_T f, qx_V f, n1, n2, n3, n4, n5) (nI n) := by
  have k := qx_kfL (hn := hn) post h4 h 72 0 rfl
  rw [qk_00] at k
  exact ⟨73, k⟩
theorem qx_em (post : SX → Prop) {i : Nat} (hi : i < 288) (h : post (kh, hn, dn, qx_K (qe_up s i qe_z), qx_T (qe_up s i qe_z), qx_V (qe_up s i qe_z), qx_K f, qx_T f, qx_V f, n1, n2, n3, n4, n5)) : wpX_empty post (kh, hn, dn, qx_K s, qx_T s, qx_V s, qx_K f, qx_T f, qx_V f, n1, n2, n3, n4, n5) (nI i) := by
  have vi : vp_in (nI i) 288 := vp_in_nI hi (by omega)
  have ci : (nI i).toNatClampNeg = i := nI_clamp (by omega)
  unfold wpX_empty
  dsimp only
  rw [ci]
  exact ⟨vi, nm_r (qx_uK s i 0 0 0) ⟨vi, nm_r (qx_uT s i 0 0 0) ⟨vi, nm_r (qx_uV s i 0 0 0) h⟩⟩⟩
theorem qx_dhL (post : SX → Prop) {n : Nat} (h4 : n < 4) (h : post (kh, hn, dn, qx_K (qk_1 n s), qx_T (qk_1 n s), qx_V (qk_1 n s), qx_K f, qx_T f, qx_V f, n1, n2, n3, n4, n5)) : ∀ d k, k + d = 64 → wX_dropHiddenEntries_2 post (nI n) (d + 1) (nI k) kh hn dn (qx_K (qk_mix (n * 72) (n * 72 + k) (qk_fh n s) s)) (qx_T (qk_mix (n * 72) (n * 72 + k) (qk_fh n s) s)) (qx_V (qk_mix (n * 72) (n * 72 + k) (qk_fh n s) s)) (qx_K f) (qx_T f) (qx_V f) n1 n2 n3 n4 n5 := by
  intro d
  induction d with
  | zero =>
    intro k hk
    obtain rfl : k = 64 := by omega
    exact br_t (Int32.le_refl _) h
  | succ d ih =>
    intro k hk
    have i := ih (k + 1) (by omega)
    have ee : qk_mix (n * 72) (n * 72 + k) (qk_fh n s) s (n * 72 + k) = s (n * 72 + k) := qk_o (by omega)
    have ew : qk_mix (n * 72) (n * 72 + k) (qk_fh n s) s (n * 72 + 64 + k / 8) = s (n * 72 + 64 + k / 8) := qk_o (by omega)
    have eh : qk_hd (qk_mix (n * 72) (n * 72 + k) (qk_fh n s) s) n k ↔ qk_hd s n k := by
      unfold qk_hd; rw [ee, ew]
    have ek : n * 72 + k - n * 72 = k := by omega
    refine br_f (nI_ge (b := 64) (by omega) (by decide)) (qx_hid _ h4 (by omega) (fun z => ?_) (fun z => ?_))
    · rw [eh] at z
      have ef : qe_z = qk_fh n s (n * 72 + k) := by
        unfold qk_fh; rw [ek, if_pos z]
      refine br_f qe_n10 ?_
      rw [qa_ix]
      refine qx_em _ (by omega) ?_
      rw [qk_s (by omega) ef]
      exact nm_r (nI_1 k) i
    · rw [eh] at z
      have ef : s (n * 72 + k) = qk_fh n s (n * 72 + k) := by
        unfold qk_fh; rw [ek, if_neg z]
      refine br_t rfl ?_
      rw [qk_st (by omega) ef]
      exact nm_r (nI_1 k) i
theorem qx_dh (post : SX → Prop) {n : Nat} (h4 : n < 4) (h : post (kh, hn, dn, qx_K (qk_1 n s), qx_T (qk_1 n s), qx_V (qk_1 n s), qx_K f, qx_T f, qx_V f, n1, n2, n3, n4, n5)) : wpX_dropHiddenEntries post (kh, hn, dn, qx_K s, qx_T s, qx_V s, qx_K f, qx_T f, qx_V f, n1, n2, n3, n4, n5) (nI n) := by
  have k := qx_dhL (hn := hn) post h4 h 64 0 rfl
  rw [qk_00] at k
  exact ⟨65, k⟩
theorem qx_ddL (post : SX → Prop) {n : Nat} {b : Int32} (h4 : n < 4) (h : post (kh, hn, dn, qx_K (qk_mix (n * 72) (n * 72 + 64) (qk_fd b s) s), qx_T (qk_mix (n * 72) (n * 72 + 64) (qk_fd b s) s), qx_V (qk_mix (n * 72) (n * 72 + 64) (qk_fd b s) s), qx_K f, qx_T f, qx_V f, n1, n2, n3, n4, n5)) : ∀ d k, k + d = 64 → wX_dropOldDeadEntries_2 post (nI n) b (d + 1) (nI k) kh hn dn (qx_K (qk_mix (n * 72) (n * 72 + k) (qk_fd b s) s)) (qx_T (qk_mix (n * 72) (n * 72 + k) (qk_fd b s) s)) (qx_V (qk_mix (n * 72) (n * 72 + k) (qk_fd b s) s)) (qx_K f) (qx_T f) (qx_V f) n1 n2 n3 n4 n5 := by
  intro d
  induction d with
  | zero =>
    intro k hk
    obtain rfl : k = 64 := by omega
    exact br_t (Int32.le_refl _) h
  | succ d ih =>
    intro k hk
    have i := ih (k + 1) (by omega)
    have ee : qk_mix (n * 72) (n * 72 + k) (qk_fd b s) s (n * 72 + k) = s (n * 72 + k) := qk_o (by omega)
    have eK : qx_K (qk_mix (n * 72) (n * 72 + k) (qk_fd b s) s) (n * 72 + k) = (s (n * 72 + k)).1 := congrArg Prod.fst ee
    have eT : qx_T (qk_mix (n * 72) (n * 72 + k) (qk_fd b s) s) (n * 72 + k) = (s (n * 72 + k)).2.1 := congrArg (fun x => x.2.1) ee
    have vi : vp_in (nI (n * 72 + k)) 288 := vp_in_nI (by omega) (by omega)
    have ci : (nI (n * 72 + k)).toNatClampNeg = n * 72 + k := nI_clamp (by omega)
    have no : ¬ ((s (n * 72 + k)).1 = 2 ∧ (s (n * 72 + k)).2.1 < b) → wX_dropOldDeadEntries_2 post (nI n) b (d + 1) (nI (k + 1)) kh hn dn (qx_K (qk_mix (n * 72) (n * 72 + k) (qk_fd b s) s)) (qx_T (qk_mix (n * 72) (n * 72 + k) (qk_fd b s) s)) (qx_V (qk_mix (n * 72) (n * 72 + k) (qk_fd b s) s)) (qx_K f) (qx_T f) (qx_V f) n1 n2 n3 n4 n5 := by
      intro z
      have ef : s (n * 72 + k) = qk_fd b s (n * 72 + k) := by unfold qk_fd; rw [if_neg z]
      rw [qk_st (by omega) ef]
      exact i
    refine br_f (nI_ge (b := 64) (by omega) (by decide)) (nm_r (qa_ix n k) ?_)
    rw [ci, eK, eT]
    refine ⟨vi, fun z => ⟨vi, fun y => nm_r (nI_1 k) (no (fun w => absurd w.2 (Int32.not_lt.mpr y))), fun y => ?_⟩, fun z => nm_r (nI_1 k) (no (fun w => z w.1))⟩
    have ef : qe_z = qk_fd b s (n * 72 + k) := by unfold qk_fd; rw [if_pos ⟨z, Int32.not_le.mp y⟩]
    refine qx_em _ (by omega) ?_
    rw [qk_s (by omega) ef]
    exact nm_r (nI_1 k) i
theorem qx_dd (post : SX → Prop) {n : Nat} {b : Int32} (h4 : n < 4) (h : post (kh, hn, dn, qx_K (qk_mix (n * 72) (n * 72 + 64) (qk_fd b s) s), qx_T (qk_mix (n * 72) (n * 72 + 64) (qk_fd b s) s), qx_V (qk_mix (n * 72) (n * 72 + 64) (qk_fd b s) s), qx_K f, qx_T f, qx_V f, n1, n2, n3, n4, n5)) : wpX_dropOldDeadEntries post (kh, hn, dn, qx_K s, qx_T s, qx_V s, qx_K f, qx_T f, qx_V f, n1, n2, n3, n4, n5) (nI n) b := by
  have k := qx_ddL (hn := hn) post h4 h 64 0 rfl
  rw [qk_00] at k
  exact ⟨65, k⟩
theorem qx_dwL (post : SX → Prop) {n : Nat} {b : Int32} (h4 : n < 4) (h : post (kh, hn, dn, qx_K (qk_mix (n * 72 + 64) (n * 72 + 72) (qk_fw b s) s), qx_T (qk_mix (n * 72 + 64) (n * 72 + 72) (qk_fw b s) s), qx_V (qk_mix (n * 72 + 64) (n * 72 + 72) (qk_fw b s) s), qx_K f, qx_T f, qx_V f, n1, n2, n3, n4, n5)) : ∀ d k, 64 ≤ k → k + d = 72 → wX_dropOldWipes_3 post (nI n) b (d + 1) (nI k) kh hn dn (qx_K (qk_mix (n * 72 + 64) (n * 72 + k) (qk_fw b s) s)) (qx_T (qk_mix (n * 72 + 64) (n * 72 + k) (qk_fw b s) s)) (qx_V (qk_mix (n * 72 + 64) (n * 72 + k) (qk_fw b s) s)) (qx_K f) (qx_T f) (qx_V f) n1 n2 n3 n4 n5 := by
  intro d
  induction d with
  | zero =>
    intro k h64 hk
    obtain rfl : k = 72 := by omega
    exact br_t (Int32.le_refl _) h
  | succ d ih =>
    intro k h64 hk
    have i := ih (k + 1) (by omega) (by omega)
    have ee : qk_mix (n * 72 + 64) (n * 72 + k) (qk_fw b s) s (n * 72 + k) = s (n * 72 + k) := qk_o (by omega)
    have eK : qx_K (qk_mix (n * 72 + 64) (n * 72 + k) (qk_fw b s) s) (n * 72 + k) = (s (n * 72 + k)).1 := congrArg Prod.fst ee
    have eT : qx_T (qk_mix (n * 72 + 64) (n * 72 + k) (qk_fw b s) s) (n * 72 + k) = (s (n * 72 + k)).2.1 := congrArg (fun x => x.2.1) ee
    have vi : vp_in (nI (n * 72 + k)) 288 := vp_in_nI (by omega) (by omega)
    have ci : (nI (n * 72 + k)).toNatClampNeg = n * 72 + k := nI_clamp (by omega)
    have no : ¬ ((s (n * 72 + k)).1 = 3 ∧ (s (n * 72 + k)).2.1 < b) → wX_dropOldWipes_3 post (nI n) b (d + 1) (nI (k + 1)) kh hn dn (qx_K (qk_mix (n * 72 + 64) (n * 72 + k) (qk_fw b s) s)) (qx_T (qk_mix (n * 72 + 64) (n * 72 + k) (qk_fw b s) s)) (qx_V (qk_mix (n * 72 + 64) (n * 72 + k) (qk_fw b s) s)) (qx_K f) (qx_T f) (qx_V f) n1 n2 n3 n4 n5 := by
      intro z
      have ef : s (n * 72 + k) = qk_fw b s (n * 72 + k) := by unfold qk_fw; rw [if_neg z]
      rw [qk_st (by omega) ef]
      exact i
    refine br_f (nI_ge (b := 72) (by omega) (by decide)) (nm_r (qa_ix n k) ?_)
    rw [ci, eK, eT]
    refine ⟨vi, fun z => ⟨vi, fun y => nm_r (nI_1 k) (no (fun w => absurd w.2 (Int32.not_lt.mpr y))), fun y => ?_⟩, fun z => nm_r (nI_1 k) (no (fun w => z w.1))⟩
    have ef : qe_z = qk_fw b s (n * 72 + k) := by unfold qk_fw; rw [if_pos ⟨z, Int32.not_le.mp y⟩]
    refine qx_em _ (by omega) ?_
    rw [qk_s (by omega) ef]
    exact nm_r (nI_1 k) i
theorem qx_dw (post : SX → Prop) {n : Nat} {b : Int32} (h4 : n < 4) (h : post (kh, hn, dn, qx_K (qk_mix (n * 72 + 64) (n * 72 + 72) (qk_fw b s) s), qx_T (qk_mix (n * 72 + 64) (n * 72 + 72) (qk_fw b s) s), qx_V (qk_mix (n * 72 + 64) (n * 72 + 72) (qk_fw b s) s), qx_K f, qx_T f, qx_V f, n1, n2, n3, n4, n5)) : wpX_dropOldWipes post (kh, hn, dn, qx_K s, qx_T s, qx_V s, qx_K f, qx_T f, qx_V f, n1, n2, n3, n4, n5) (nI n) b := by
  have k := qx_dwL (hn := hn) post h4 h 8 64 (Nat.le_refl 64) rfl
  rw [qk_0] at k
  exact ⟨9, k⟩
theorem qx_ss (post : Int64 → Prop) {n sl : Nat} (h4 : n < 4) (hs : sl < 72) (h : post (qk_ss (s (n * 72 + sl)))) : wpX_slotStamp post (kh, hn, dn, qx_K s, qx_T s, qx_V s, qx_K f, qx_T f, qx_V f, n1, n2, n3, n4, n5) (nI n) (nI sl) := by
  have vi : vp_in (nI (n * 72 + sl)) 288 := vp_in_nI (by omega) (by omega)
  have ci : (nI (n * 72 + sl)).toNatClampNeg = n * 72 + sl := nI_clamp (by omega)
  unfold wpX_slotStamp
  dsimp only
  refine nm_r (qa_ix n sl) ?_
  rw [ci]
  refine ⟨vi, fun z => ?_, fun z => ⟨vi, ?_⟩⟩
  · rw [qk_sst (e := s (n * 72 + sl)) z] at h; exact h
  · rw [qk_ssf (e := s (n * 72 + sl)) z] at h; exact h
theorem qx_ir (post : Int32 → Prop) {a p : Nat} (ha : a < 4) (hp : p < 8) (h1 : (p + 3) % 4 ≠ a → post 1) (h0 : (p + 3) % 4 = a → post 0) : wpX_isReplica post (nI a) (nI p) := by
  unfold wpX_isReplica
  have e : nI a + 8 - nI p = nI (a + 8 - p) := by
    rw [show (8 : Int32) = nI 8 from rfl, nI_add, pk_sub (by omega)]
  rw [e, qa_4 (by omega)]
  exact ⟨qa_n4, pk_le 3 ((a + 8 - p) % 4) (fun z => h0 (by omega)) (fun z => h1 (by omega))⟩
theorem qx_tf (post : Int32 → SX → Prop) {a b sl : Nat} (ha : a < 4) (hb : b < 4) (hs : sl < 72) (h1 : qe_nw (s (a * 72 + sl)) (s (b * 72 + sl)) → post 1 (kh, hn, dn, qx_K (qe_up s (b * 72 + sl) (s (a * 72 + sl))), qx_T (qe_up s (b * 72 + sl) (s (a * 72 + sl))), qx_V (qe_up s (b * 72 + sl) (s (a * 72 + sl))), qx_K f, qx_T f, qx_V f, n1, n2, n3, n4, n5)) (h0 : ¬ qe_nw (s (a * 72 + sl)) (s (b * 72 + sl)) → post 0 (kh, hn, dn, qx_K s, qx_T s, qx_V s, qx_K f, qx_T f, qx_V f, n1, n2, n3, n4, n5)) : wpX_takeFrom post (kh, hn, dn, qx_K s, qx_T s, qx_V s, qx_K f, qx_T f, qx_V f, n1, n2, n3, n4, n5) (nI a) (nI b) (nI sl) := by
  have vi : vp_in (nI (a * 72 + sl)) 288 := vp_in_nI (by omega) (by omega)
  have ci : (nI (a * 72 + sl)).toNatClampNeg = a * 72 + sl := nI_clamp (by omega)
  unfold wpX_takeFrom
  dsimp only
  refine nm_r (qa_ix a sl) ?_
  rw [ci]
  exact ⟨vi, vi, vi, qx_take _ hb hs _ _ _ h1 h0⟩
theorem qx_rpL (post : Int32 → SX → Prop) {a b : Nat} (ha : a < 4) (hb : b < 4) (hab : a ≠ b) (h : post (nI (qp_al a b s 72).2) (kh, hn, dn, qx_K ((qp_al a b s 72).1), qx_T ((qp_al a b s 72).1), qx_V ((qp_al a b s 72).1), qx_K f, qx_T f, qx_V f, n1, n2, n3, n4, n5)) : ∀ d k, k + d = 72 → wX_repair_47 post (nI a) (nI b) (d + 1) (nI (qp_al a b s k).2) (nI k) kh hn dn (qx_K ((qp_al a b s k).1)) (qx_T ((qp_al a b s k).1)) (qx_V ((qp_al a b s k).1)) (qx_K f) (qx_T f) (qx_V f) n1 n2 n3 n4 n5 := by
  intro d
  induction d with
  | zero =>
    intro k hk
    obtain rfl : k = 72 := by omega
    exact br_t (Int32.le_refl _) h
  | succ d ih =>
    intro k hk
    have i := ih (k + 1) (by omega)
    have hp : qp_pt k < 8 := by unfold qp_pt; split <;> omega
    have no : ¬ qp_bo a b k → wX_repair_47 post (nI a) (nI b) (d + 1) (nI (qp_al a b s k).2) (nI (k + 1)) kh hn dn (qx_K ((qp_al a b s k).1)) (qx_T ((qp_al a b s k).1)) (qx_V ((qp_al a b s k).1)) (qx_K f) (qx_T f) (qx_V f) n1 n2 n3 n4 n5 := by
      intro z
      have e : qp_al a b s (k + 1) = qp_al a b s k := if_neg z
      rw [e] at i
      exact i
    refine br_f (nI_ge (b := 72) (by omega) (by decide)) (qx_pt _ (by omega) (qx_ir _ ha hp (fun z1 => br_f qe_n10 (qx_ir _ hb hp (fun z2 => br_f qe_n10 ?_) (fun z2 => br_t rfl (nm_r (nI_1 k) (no (fun w => w.2 z2)))))) (fun z1 => br_t rfl (nm_r (nI_1 k) (no (fun w => w.1 z1))))))
    have e : qp_al a b s (k + 1) = qp_st a b k (qp_al a b s k) := if_pos ⟨z1, z2⟩
    rw [e] at i
    clear no
    generalize qp_al a b s k = S at i ⊢
    have hne : b * 72 + k ≠ a * 72 + k := by omega
    refine qx_tf _ hb ha (by omega) (fun y => ?_) (fun y => ?_)
    · have e2 : qp_st a b k S = (qe_up S.1 (a * 72 + k) (S.1 (b * 72 + k)), S.2 + 1) := by
        unfold qp_st; rw [if_neg (qe_asy y), if_pos y]
      rw [e2] at i
      refine nm_r (nI_1 S.2) (qx_tf _ ha hb (by omega) (fun w => ?_) (fun w => ?_))
      · rw [qe_us, qe_un hne] at w
        exact absurd w (qe_irr _)
      · exact nm_r (Int32.add_zero _) (nm_r (nI_1 k) i)
    · refine nm_r (Int32.add_zero _) (qx_tf _ ha hb (by omega) (fun w => ?_) (fun w => ?_))
      · have e2 : qp_st a b k S = (qe_up S.1 (b * 72 + k) (S.1 (a * 72 + k)), S.2 + 1) := by
          unfold qp_st; rw [if_pos w]
        rw [e2] at i
        exact nm_r (nI_1 S.2) (nm_r (nI_1 k) i)
      · have e2 : qp_st a b k S = S := by
          unfold qp_st; rw [if_neg w, if_neg y]
        rw [e2] at i
        exact nm_r (Int32.add_zero _) (nm_r (nI_1 k) i)
end
