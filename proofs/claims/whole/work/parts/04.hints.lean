/-! the list of hints: pure -/
abbrev qh_H : Type := Nat × Nat × qe_E
/-- the rows from o on stand for the list -/
def qh_at (P : Nat → qh_H → Prop) : Nat → List qh_H → Prop
  | _, [] => True
  | o, x :: L => P o x ∧ qh_at P (o + 1) L
theorem qh_app {P : Nat → qh_H → Prop} : ∀ (A B : List qh_H) (o : Nat), qh_at P o (A ++ B) ↔ (qh_at P o A ∧ qh_at P (o + A.length) B) := by
  intro A
  induction A with
  | nil => intro B o; exact ⟨fun h => ⟨trivial, h⟩, fun h => h.2⟩
  | cons x A ih =>
    intro B o
    have e : o + (x :: A).length = (o + 1) + A.length := by rw [List.length_cons]; omega
    rw [e, List.cons_append]
    constructor
    · intro h
      exact ⟨⟨h.1, ((ih B (o + 1)).mp h.2).1⟩, ((ih B (o + 1)).mp h.2).2⟩
    · intro h
      exact ⟨h.1.1, (ih B (o + 1)).mpr ⟨h.1.2, h.2⟩⟩
theorem qh_mov {P Q : Nat → qh_H → Prop} (d : Nat) : ∀ (L : List qh_H) (o : Nat), (∀ j, o ≤ j → j < o + L.length → ∀ x, P (j + d) x → Q j x) → qh_at P (o + d) L → qh_at Q o L := by
  intro L
  induction L with
  | nil => intro o _ _; trivial
  | cons x L ih =>
    intro o h k
    have hl : (x :: L).length = L.length + 1 := List.length_cons
    refine ⟨h o (Nat.le_refl o) (by omega) x k.1, ih (o + 1) (fun j h1 h2 => h j (by omega) (by omega)) ?_⟩
    have e : o + 1 + d = o + d + 1 := by omega
    rw [e]
    exact k.2
theorem qh_mono {P Q : Nat → qh_H → Prop} {L : List qh_H} {o : Nat} (h : ∀ j, o ≤ j → j < o + L.length → ∀ x, P j x → Q j x) (k : qh_at P o L) : qh_at Q o L := qh_mov 0 L o h k
theorem qh_imp {P Q : Nat → qh_H → Prop} (h : ∀ j x, P j x → Q j x) {L : List qh_H} {o : Nat} (k : qh_at P o L) : qh_at Q o L := qh_mono (fun j _ _ x => h j x) k
abbrev qh_p (Φ : Int32 → Int32 → Int32 → Int32 → Int32 → qh_H → Prop) (n1 n2 n3 n4 n5 : Nat → Int32) : Nat → qh_H → Prop := fun o x => Φ (n1 o) (n2 o) (n3 o) (n4 o) (n5 o) x
def qh_fx (a b c d e : Int32) (x : qh_H) : Prop := a = nI x.1 ∧ b = nI x.2.1 ∧ c = x.2.2.1 ∧ d = x.2.2.2.1 ∧ e = x.2.2.2.2
def qh_fy (a b c d e : Int32) (x : qh_H) : Prop := a = nI x.1 ∧ b = nI x.2.1 ∧ qe_er (x.2.1 < 64) x.2.2 c d e
theorem qh_snoc {Φ : Int32 → Int32 → Int32 → Int32 → Int32 → qh_H → Prop} {n1 n2 n3 n4 n5 : Nat → Int32} {a b c d e : Int32} {x : qh_H} {L : List qh_H} {m : Nat} (hm : m = L.length) (hx : Φ a b c d e x) (h : qh_at (qh_p Φ n1 n2 n3 n4 n5) 0 L) :
    qh_at (qh_p Φ (upd n1 m a) (upd n2 m b) (upd n3 m c) (upd n4 m d) (upd n5 m e)) 0 (L ++ [x]) := by
  rw [qh_app]
  refine ⟨qh_mono (fun j _ h2 y hy => ?_) h, ?_, trivial⟩
  · have : j ≠ m := by omega
    show Φ _ _ _ _ _ y
    rw [pk_un this, pk_un this, pk_un this, pk_un this, pk_un this]
    exact hy
  · show Φ _ _ _ _ _ x
    have e0 : 0 + L.length = m := by omega
    rw [e0, pk_us, pk_us, pk_us, pk_us, pk_us]
    exact hx
/-- the rows from h on, below k, moved down by one -/
def qh_sg (n : Nat → Int32) (h k : Nat) : Nat → Int32 := fun j => if h ≤ j ∧ j < k then n (j + 1) else n j
theorem qh_sg0 (n : Nat → Int32) (h : Nat) : qh_sg n h h = n := by
  funext j; exact if_neg (by omega)
theorem qh_sgi {n : Nat → Int32} {h k j : Nat} (a : h ≤ j) (b : j < k) : qh_sg n h k j = n (j + 1) := if_pos ⟨a, b⟩
theorem qh_sgo {n : Nat → Int32} {h k j : Nat} (a : ¬ (h ≤ j ∧ j < k)) : qh_sg n h k j = n j := if_neg a
theorem qh_sgs {n : Nat → Int32} {h k : Nat} (a : h ≤ k) : upd (qh_sg n h k) k (qh_sg n h k (k + 1)) = qh_sg n h (k + 1) := by
  funext j
  by_cases c : j = k
  · subst c
    rw [pk_us, qh_sgo (by omega), qh_sgi a (by omega)]
  · rw [pk_un c]
    by_cases d : h ≤ j ∧ j < k
    · rw [qh_sgi d.1 d.2, qh_sgi d.1 (by omega)]
    · rw [qh_sgo d, qh_sgo (by omega)]
/-- row P.length dropped -/
theorem qh_del {Φ : Int32 → Int32 → Int32 → Int32 → Int32 → qh_H → Prop} {n1 n2 n3 n4 n5 : Nat → Int32} {x : qh_H} {P R : List qh_H} {h k : Nat} (hh : h = P.length) (hk : k = P.length + R.length) (H : qh_at (qh_p Φ n1 n2 n3 n4 n5) 0 (P ++ x :: R)) :
    qh_at (qh_p Φ (qh_sg n1 h k) (qh_sg n2 h k) (qh_sg n3 h k) (qh_sg n4 h k) (qh_sg n5 h k)) 0 (P ++ R) := by
  rw [qh_app] at H ⊢
  obtain ⟨H1, _, H2⟩ := H
  refine ⟨qh_mono (fun j _ h2 y hy => ?_) H1, qh_mov 1 R (0 + P.length) (fun j h1 h2 y hy => ?_) H2⟩
  · have : ¬ (h ≤ j ∧ j < k) := by omega
    show Φ _ _ _ _ _ y
    rw [qh_sgo this, qh_sgo this, qh_sgo this, qh_sgo this, qh_sgo this]
    exact hy
  · have a : h ≤ j := by omega
    have b : j < k := by omega
    show Φ _ _ _ _ _ y
    rw [qh_sgi a b, qh_sgi a b, qh_sgi a b, qh_sgi a b, qh_sgi a b]
    exact hy
/-- hints are good -/
def qh_G (H : List qh_H) : Prop := ∀ x, x ∈ H → x.1 < 4 ∧ x.2.1 < 72 ∧ ¬ x.2.2.1 = 0
def qh_cut (H : List qh_H) : List qh_H := if 12 ≤ H.length then H.tail else H
def qh_add (kh : Int32) (H : List qh_H) (x : qh_H) : List qh_H := if kh = 0 then H else qh_cut H ++ [x]
theorem qh_cutl (H : List qh_H) (h : H.length ≤ 12) : (qh_cut H).length ≤ 11 := by
  unfold qh_cut; split
  · rw [List.length_tail]; omega
  · omega
theorem qh_addl {kh : Int32} {H : List qh_H} {x : qh_H} (h : H.length ≤ 12) : (qh_add kh H x).length ≤ 12 := by
  unfold qh_add; split
  · exact h
  · rw [List.length_append]
    have := qh_cutl H h
    show (qh_cut H).length + 1 ≤ 12
    omega
theorem qh_cutG {H : List qh_H} (h : qh_G H) : qh_G (qh_cut H) := by
  unfold qh_cut; split
  · exact fun x hx => h x (List.mem_of_mem_tail hx)
  · exact h
theorem qh_addG {kh : Int32} {H : List qh_H} {x : qh_H} (h : qh_G H) (hx : x.1 < 4 ∧ x.2.1 < 72 ∧ ¬ x.2.2.1 = 0) : qh_G (qh_add kh H x) := by
  unfold qh_add; split
  · exact h
  · intro y hy
    rcases List.mem_append.mp hy with c | c
    · exact qh_cutG h y c
    · rw [List.mem_singleton.mp c]; exact hx
abbrev qe_tk (s : Nat → qe_E) (i : Nat) (e : qe_E) : Nat → qe_E := qe_up s i (qe_jn (s i) e)
/-- node n takes in its hints -/
def qh_dl (n : Nat) : List qh_H → (Nat → qe_E) → (Nat → qe_E)
  | [], s => s
  | x :: R, s => if x.1 = n then qh_dl n R (qe_tk s (n * 72 + x.2.1) x.2.2) else qh_dl n R s
/-- the hints of the others -/
def qh_kp (n : Nat) : List qh_H → List qh_H
  | [] => []
  | x :: R => if x.1 = n then qh_kp n R else x :: qh_kp n R
theorem qh_kpl (n : Nat) (L : List qh_H) : (qh_kp n L).length ≤ L.length := by
  induction L with
  | nil => exact Nat.le_refl _
  | cons x L ih =>
    unfold qh_kp
    have hl : (x :: L).length = L.length + 1 := List.length_cons
    split
    · omega
    · rw [List.length_cons]; omega
theorem qh_kpG {n : Nat} {L : List qh_H} (h : qh_G L) : qh_G (qh_kp n L) := by
  induction L with
  | nil => exact h
  | cons x L ih =>
    have hL : qh_G L := fun y hy => h y (List.mem_cons_of_mem x hy)
    unfold qh_kp
    split
    · exact ih hL
    · intro y hy
      rcases List.mem_cons.mp hy with c | c
      · rw [c]; exact h x List.mem_cons_self
      · exact ih hL y c
/-- what is sent to rank r -/
def qs_st (dn : Nat → Int32) (kh : Int32) (p sl : Nat) (e : qe_E) (r : Nat) (S : (Nat → qe_E) × List qh_H) : (Nat → qe_E) × List qh_H :=
  if dn (qr_nd p r) = 0 then (qe_tk S.1 (qr_ix p sl r) e, S.2) else (S.1, qh_add kh S.2 (qr_nd p r, sl, e))
def qs_al (dn : Nat → Int32) (kh : Int32) (p sl : Nat) (e : qe_E) : Nat → (Nat → qe_E) × List qh_H → (Nat → qe_E) × List qh_H
  | 0, S => S
  | r + 1, S => qs_st dn kh p sl e r (qs_al dn kh p sl e r S)
