/-! the relation, the start, and the two ways of asking for a range -/
section
def i_Rel (_ : Nat) (u : SX) (v : SY) : Prop := ∃ (kh : Int32) (dn : Nat → Int32) (s f : Nat → qe_E) (H : List qh_H), H.length ≤ 12 ∧ qh_G H ∧ qx_R kh dn s f H u ∧ qy_R kh dn s f H v
theorem i_up {k : Nat} {u : SX} {v : SY} (h : i_Rel k u v) : i_Rel (k + 5) u v := h
theorem qv_b1 : vp_nar .boolean 1 = 1 := by decide
theorem qv_b0 : vp_nar .boolean 0 = 0 := by decide
def qv_al (k : Nat) : Nat → Int32 := fun j => if j < k then 1 else 0
theorem qv_als (k : Nat) : upd (qv_al k) k 1 = qv_al (k + 1) := by
  funext j
  by_cases c : j = k
  · subst c
    rw [pk_us]
    exact (if_pos (by omega)).symm
  · rw [pk_un c]
    by_cases d : j < k
    · exact (if_pos d).trans (if_pos (by omega)).symm
    · exact (if_neg d).trans (if_neg (by omega)).symm
theorem qv_in (post : SY → Prop) {hg hd : Int32} {yk ys yv m1 m2 m3 m4 m5 : Nat → Int32} (h : post (hg, hd, yk, ys, yv, qv_al 4, m1, m2, m3, m4, m5)) : ∀ d k, k + d = 4 → wY_init_93 post hg hd (d + 1) (nI k) yk ys yv (qv_al k) m1 m2 m3 m4 m5 := by
  intro d
  induction d with
  | zero =>
    intro k hk
    obtain rfl : k = 4 := by omega
    exact br_t (Int32.le_refl _) h
  | succ d ih =>
    intro k hk
    have i := ih (k + 1) (by omega)
    have vi : vp_in (nI k) 4 := vp_in_nI (by omega) (by omega)
    have ci : (nI k).toNatClampNeg = k := nI_clamp (by omega)
    refine br_f (nI_ge (b := 4) (by omega) (by decide)) ⟨vi, ?_⟩
    rw [ci, qv_b1]
    exact nm_r (qv_als k) (nm_r (nI_1 k) i)
theorem qv_0 (kh : Int32) : i_Rel 1 (kh, 0, (fun _ => 0), (fun _ => 0), (fun _ => 0), (fun _ => 0), (fun _ => 0), (fun _ => 0), (fun _ => 0), (fun _ => 0), (fun _ => 0), (fun _ => 0), (fun _ => 0), (fun _ => 0)) (kh, 0, (fun _ => 0), (fun _ => 0), (fun _ => 0), qv_al 4, (fun _ => 0), (fun _ => 0), (fun _ => 0), (fun _ => 0), (fun _ => 0)) := by
  refine ⟨kh, fun _ => 0, fun _ => qe_z, fun _ => qe_z, [], by decide, fun x hx => absurd hx List.not_mem_nil, ⟨_, _, _, _, _, rfl, trivial⟩, rfl, rfl, ⟨fun j _ => qe_erz, fun j _ => qe_erz⟩, fun j hj => Or.inl ⟨rfl, if_pos hj⟩, trivial⟩
theorem qv_al0 : qv_al 0 = fun _ => 0 := by
  funext j; exact if_neg (by omega)
theorem i_vc0 (k0 : Int32) : wpX_init (fun u => wpY_init (fun v => i_Rel 1 u v) k0) k0 := by
  refine br_c (fun z => br_t z ⟨5, ?_⟩) (fun z => br_f z ⟨5, ?_⟩)
  · have := qv_in (hg := 0) (hd := 0) (yk := fun _ => 0) (ys := fun _ => 0) (yv := fun _ => 0) (m1 := fun _ => 0) (m2 := fun _ => 0) (m3 := fun _ => 0) (m4 := fun _ => 0) (m5 := fun _ => 0) (fun v => i_Rel 1 (0, 0, (fun _ => 0), (fun _ => 0), (fun _ => 0), (fun _ => 0), (fun _ => 0), (fun _ => 0), (fun _ => 0), (fun _ => 0), (fun _ => 0), (fun _ => 0), (fun _ => 0), (fun _ => 0)) v) (qv_0 0) 4 0 rfl
    rw [qv_al0] at this
    exact this
  · have := qv_in (hg := 1) (hd := 0) (yk := fun _ => 0) (ys := fun _ => 0) (yv := fun _ => 0) (m1 := fun _ => 0) (m2 := fun _ => 0) (m3 := fun _ => 0) (m4 := fun _ => 0) (m5 := fun _ => 0) (fun v => i_Rel 1 (1, 0, (fun _ => 0), (fun _ => 0), (fun _ => 0), (fun _ => 0), (fun _ => 0), (fun _ => 0), (fun _ => 0), (fun _ => 0), (fun _ => 0), (fun _ => 0), (fun _ => 0), (fun _ => 0)) v) (qv_0 1) 4 0 rfl
    rw [qv_al0] at this
    exact this
theorem qx_pl1 (post : Int32 → Prop) {j : Nat} (h : j < 64) (g : post 1) : wpX_isPlace post (nI j) := br_f (nI_pos (by omega)) (br_f (nI_ge (b := 64) h (by decide)) g)
theorem qx_pa1 (post : Int32 → Prop) {j : Nat} (h : j < 8) (g : post 1) : wpX_isPartition post (nI j) := br_f (nI_pos (by omega)) (br_f (nI_ge (b := 8) h (by decide)) g)
theorem qx_nd1 (post : Int32 → Prop) {j : Nat} (h : j < 4) (g : post 1) : wpX_isNode post (nI j) := br_f (nI_pos (by omega)) (br_f (nI_ge (b := 4) h (by decide)) g)
theorem qa_out {x N : Int32} {A B : Prop} (h : x < 0 ∨ N ≤ x) (g : A) : (x < 0 → A) ∧ (¬ x < 0 → ((N ≤ x → A) ∧ (¬ N ≤ x → B))) := by
  refine br_c (fun _ => g) (fun z => ?_)
  rcases h with c | c
  · exact absurd c z
  · exact br_t c g
theorem qx_pl0 (post : Int32 → Prop) {x : Int32} (h : x < 0 ∨ 64 ≤ x) (g : post 0) : wpX_isPlace post x := qa_out h g
theorem qx_pa0 (post : Int32 → Prop) {x : Int32} (h : x < 0 ∨ 8 ≤ x) (g : post 0) : wpX_isPartition post x := qa_out h g
theorem qx_nd0 (post : Int32 → Prop) {x : Int32} (h : x < 0 ∨ 4 ≤ x) (g : post 0) : wpX_isNode post x := qa_out h g
theorem qx_lv1 (post : Int32 → Prop) {L : Nat} (h1 : 1 ≤ L) (h3 : L ≤ 3) (g : post 1) : wpX_isLevel post (nI L) := br_f (qa_L1 h1 h3) (br_f (qa_L3 h3) g)
theorem qx_lv0 (post : Int32 → Prop) {x : Int32} (h : x < 1 ∨ 3 < x) (g : post 0) : wpX_isLevel post x := by
  refine br_c (fun _ => g) (fun z => ?_)
  rcases h with c | c
  · exact absurd c z
  · exact br_t c g
/-- the reference's two questions after a level: refused -/
theorem qa_lb {x : Int32} {A B : Prop} (h : x < 1 ∨ 3 < x) (g : A) : (x < 1 → A) ∧ (¬ x < 1 → ((x ≤ 3 → B) ∧ (¬ x ≤ 3 → A))) := by
  refine br_c (fun _ => g) (fun z => ?_)
  rcases h with c | c
  · exact absurd c z
  · exact br_f (Int32.not_le.mpr c) g
theorem qa_lb' {x : Int32} {A B : Prop} (h : x < 1 ∨ 3 < x) (g : A) : (x < 1 → A) ∧ (¬ x < 1 → ((3 < x → A) ∧ (¬ 3 < x → B))) := by
  refine br_c (fun _ => g) (fun z => ?_)
  rcases h with c | c
  · exact absurd c z
  · exact br_t c g
theorem qa_rng (x : Int32) {n : Nat} (hn : n < 2 ^ 31) : (x < 0 ∨ nI n ≤ x) ∨ ∃ j : Nat, j < n ∧ x = nI j := by
  rcases pk_ix x hn with c | c | c
  · exact Or.inl (Or.inl c)
  · exact Or.inl (Or.inr c)
  · exact Or.inr c
theorem qa_lvl (x : Int32) : (x < 1 ∨ 3 < x) ∨ ∃ L : Nat, 1 ≤ L ∧ L ≤ 3 ∧ x = nI L := by
  rcases qa_lv x with c | c | c
  · exact Or.inl (Or.inl c)
  · exact Or.inl (Or.inr c)
  · exact Or.inr c
theorem qs_G {dn : Nat → Int32} {kh : Int32} {p sl : Nat} {e : qe_E} (hs : sl < 72) (he : ¬ e.1 = 0) {S : (Nat → qe_E) × List qh_H} (h : qh_G S.2) : ∀ r, qh_G (qs_al dn kh p sl e r S).2 := by
  intro r
  induction r with
  | zero => exact h
  | succ r ih =>
    show qh_G (qs_st dn kh p sl e r (qs_al dn kh p sl e r S)).2
    unfold qs_st
    split
    · exact ih
    · exact qh_addG ih ⟨by show (p + r) % 4 < 4; omega, hs, he⟩
end
