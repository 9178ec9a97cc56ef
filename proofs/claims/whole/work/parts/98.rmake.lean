/-! THE REFERENCE MAKES CODE: steps -/
def cd (τ : zSt) (p : Nat) (l : List Int32) : Prop := ∀ j v, l[j]? = some v → zA τ 34 (p + j) = v
theorem cd_nil {τ : zSt} {p : Nat} : cd τ p [] := fun j v h => by simp at h
theorem cd_cons {τ : zSt} {p : Nat} {v : Int32} {l : List Int32} (h : zA τ 34 p = v) (h2 : cd τ (p + 1) l) : cd τ p (v :: l) := by
  intro j w hj
  cases j with
  | zero =>
    rw [List.getElem?_cons_zero] at hj
    cases hj
    exact h
  | succ j =>
    rw [List.getElem?_cons_succ] at hj
    have := h2 j w hj
    rw [show p + 1 + j = p + (j + 1) by omega] at this
    exact this
theorem cd_app {τ : zSt} {p : Nat} {l r : List Int32} (h : cd τ p l) (h2 : cd τ (p + l.length) r) : cd τ p (l ++ r) := by
  intro j v hj
  by_cases e : j < l.length
  · rw [List.getElem?_append_left e] at hj
    exact h j v hj
  · rw [List.getElem?_append_right (by omega)] at hj
    have := h2 _ v hj
    rw [show p + l.length + (j - l.length) = p + j by omega] at this
    exact this
theorem cd_frame {τ u : zSt} {p : Nat} {l : List Int32} (hf : ∀ j, p ≤ j → j < p + l.length → zA u 34 j = zA τ 34 j) (h : cd τ p l) : cd u p l := by
  intro j v hj
  have hl : j < l.length := by
    by_cases e : j < l.length
    · exact e
    · rw [List.getElem?_eq_none (by omega)] at hj; cases hj
  rw [hf _ (by omega) (by omega)]
  exact h j v hj
def ptS (τ : zSt) (p : Nat) (v : Int32) : zSt := zsI (zsA τ 34 p v) 0 61 (nI (p + 1))
theorem putR {N p : Nat} {v : Int32} {τ : zSt} (h : zI τ 0 61 = nI p) (hp : p < 30000) : fX12_put N v τ = some ((), ptS τ p v) := by
  unfold fX12_put fX12_put_b20 ptS
  rw [h, if_neg (show ¬ (30000 : Int32) ≤ nI p from fun q => by rw [show (30000 : Int32) = nI 30000 from rfl, nI_le' (by omega) (by omega)] at q; omega), nI_clamp (by omega), if_neg (ixN hp (by omega)), bnd_e, zI_A, h, bnd_e, nI_1]
def tsS (τ : zSt) (b : Nat) (k i : Int32) : zSt := zsI (zsA (zsA τ 36 b k) 37 b i) 0 63 (nI (b + 1))
theorem taskR {N b : Nat} {k i : Int32} {τ : zSt} (h : zI τ 0 63 = nI b) (hb : b < 6000) : fX12_task N k i τ = some ((), tsS τ b k i) := by
  unfold fX12_task tsS
  rw [h, nI_clamp (by omega), if_neg (ixN hb (by omega)), bnd_e, zI_A, h, nI_clamp (by omega), if_neg (ixN hb (by omega)), bnd_e, zI_A, zI_A, h, bnd_e, nI_1]
theorem landR {N w q : Nat} {τ : zSt} (hw : w < 30000) (h : zI τ 0 61 = nI q) : fX12_land N (nI w) τ = some ((), zsA τ 34 w (nI q)) := by
  unfold fX12_land
  rw [if_neg (show ¬ (30000 : Int32) ≤ nI w from fun q => by rw [show (30000 : Int32) = nI 30000 from rfl, nI_le' (by omega) (by omega)] at q; omega), nI_clamp (by omega), if_neg (ixN hw (by omega)), bnd_e, h]
theorem jumpR {N p : Nat} {v : Int32} {τ : zSt} (h : zI τ 0 61 = nI p) (hp : p + 1 < 30000) : fX12_jump N v τ = some (nI (p + 1), ptS (ptS τ p v) (p + 1) 0) := by
  unfold fX12_jump
  rw [putR h (by omega), obd_s, putR (p := p + 1) (by unfold ptS; rw [zI_I, if_pos ⟨rfl, rfl⟩]) hp, obd_s]
  have e : zI (ptS (ptS τ p v) (p + 1) 0) 0 61 = nI (p + 1 + 1) := by
    unfold ptS
    rw [zI_I, if_pos ⟨rfl, rfl⟩]
  rw [e, nI_pred]
/-- what making the code of a tree leaves -/
def fM (lo hi p b : Nat) (τ u : zSt) : Prop := (∀ j, j ≠ 61 → j ≠ 63 → zI u 0 j = zI τ 0 j) ∧ (∀ j, zL u 0 j = zL τ 0 j) ∧ (∀ a i, zB u a i = zB τ a i) ∧
  (∀ a i, (a ≠ 34 ∨ i < p) → ((a ≠ 36 ∧ a ≠ 37) ∨ i < b) → ((a ≠ 38 ∧ a ≠ 39 ∧ a ≠ 40) ∨ i < lo ∨ hi ≤ i) → zA u a i = zA τ a i)
theorem fM_refl {lo hi p b : Nat} {τ : zSt} : fM lo hi p b τ τ := ⟨fun _ _ _ => rfl, fun _ => rfl, fun _ _ => rfl, fun _ _ _ _ _ => rfl⟩
theorem fM_trans {lo hi p b lo' hi' p' b' : Nat} {τ u v : zSt} (h : fM lo hi p b τ u) (h2 : fM lo' hi' p' b' u v) (h3 : lo ≤ lo') (h4 : hi' ≤ hi) (h5 : p ≤ p') (h6 : b ≤ b') : fM lo hi p b τ v :=
  ⟨fun j a c => (h2.1 j a c).trans (h.1 j a c), fun j => (h2.2.1 j).trans (h.2.1 j), fun a i => (h2.2.2.1 a i).trans (h.2.2.1 a i), fun a i q1 q2 q3 => (h2.2.2.2 a i (by omega) (by omega) (by omega)).trans (h.2.2.2 a i q1 q2 q3)⟩
theorem fM_pt {lo hi p b q : Nat} {v : Int32} {τ u : zSt} (h : fM lo hi p b τ u) (hq : p ≤ q) : fM lo hi p b τ (ptS u q v) := by
  unfold ptS
  refine ⟨fun j a c => ?_, fun j => h.2.1 j, fun a i => h.2.2.1 a i, fun a i q1 q2 q3 => ?_⟩
  · rw [zI_I, if_neg (by omega), zI_A]; exact h.1 j a c
  · rw [zA_I, zA_A, if_neg (by omega)]; exact h.2.2.2 a i q1 q2 q3
theorem fM_ts {lo hi p b q : Nat} {k i : Int32} {τ u : zSt} (h : fM lo hi p b τ u) (hq : b ≤ q) : fM lo hi p b τ (tsS u q k i) := by
  unfold tsS
  refine ⟨fun j a c => ?_, fun j => h.2.1 j, fun a i => h.2.2.1 a i, fun a i q1 q2 q3 => ?_⟩
  · rw [zI_I, if_neg (by omega), zI_A, zI_A]; exact h.1 j a c
  · rw [zA_I, zA_A, if_neg (by omega), zA_A, if_neg (by omega)]; exact h.2.2.2 a i q1 q2 q3
theorem fM_A {lo hi p b a q : Nat} {v : Int32} {τ u : zSt} (h : fM lo hi p b τ u) (hq : (a = 34 ∧ p ≤ q) ∨ ((a = 38 ∨ a = 39 ∨ a = 40) ∧ lo ≤ q ∧ q < hi)) : fM lo hi p b τ (zsA u a q v) := by
  refine ⟨fun j a c => h.1 j a c, fun j => h.2.1 j, fun a i => h.2.2.1 a i, fun a' i q1 q2 q3 => ?_⟩
  rw [zA_A, if_neg (by omega)]; exact h.2.2.2 a' i q1 q2 q3
theorem fM_63 {lo hi p b : Nat} {v : Int32} {τ u : zSt} (h : fM lo hi p b τ u) : fM lo hi p b τ (zsI u 0 63 v) := by
  refine ⟨fun j a c => ?_, fun j => h.2.1 j, fun a i => h.2.2.1 a i, fun a i q1 q2 q3 => h.2.2.2 a i q1 q2 q3⟩
  rw [zI_I, if_neg (by omega)]; exact h.1 j a c
theorem pt_61 {τ : zSt} {p : Nat} {v : Int32} : zI (ptS τ p v) 0 61 = nI (p + 1) := by unfold ptS; rw [zI_I, if_pos ⟨rfl, rfl⟩]
theorem pt_63 {τ : zSt} {p : Nat} {v : Int32} : zI (ptS τ p v) 0 63 = zI τ 0 63 := by unfold ptS; rw [zI_I, if_neg (by omega), zI_A]
theorem pt_A {τ : zSt} {p a i : Nat} {v : Int32} (h : ¬ (a = 34 ∧ i = p)) : zA (ptS τ p v) a i = zA τ a i := by unfold ptS; rw [zA_I, zA_A, if_neg h]
theorem pt_34 {τ : zSt} {p : Nat} {v : Int32} : zA (ptS τ p v) 34 p = v := by unfold ptS; rw [zA_I, zA_A, if_pos ⟨rfl, rfl⟩]
theorem ts_61 {τ : zSt} {b : Nat} {k i : Int32} : zI (tsS τ b k i) 0 61 = zI τ 0 61 := by unfold tsS; rw [zI_I, if_neg (by omega), zI_A, zI_A]
theorem ts_63 {τ : zSt} {b : Nat} {k i : Int32} : zI (tsS τ b k i) 0 63 = nI (b + 1) := by unfold tsS; rw [zI_I, if_pos ⟨rfl, rfl⟩]
theorem ts_A {τ : zSt} {b a j : Nat} {k i : Int32} (h : ¬ ((a = 36 ∨ a = 37) ∧ j = b)) : zA (tsS τ b k i) a j = zA τ a j := by unfold tsS; rw [zA_I, zA_A, if_neg (by omega), zA_A, if_neg (by omega)]
theorem ts_36 {τ : zSt} {b : Nat} {k i : Int32} : zA (tsS τ b k i) 36 b = k := by unfold tsS; rw [zA_I, zA_A, if_neg (by omega), zA_A, if_pos ⟨rfl, rfl⟩]
theorem ts_37 {τ : zSt} {b : Nat} {k i : Int32} : zA (tsS τ b k i) 37 b = i := by unfold tsS; rw [zA_I, zA_A, if_pos ⟨rfl, rfl⟩]
/-- the loop takes the last task -/
theorem mk_pop {N b m : Nat} {τ : zSt} (h : zI τ 0 63 = nI (b + 1)) (hb : b < 6000) : fX12_makeS_b11 N (m + 1) τ = (
      if zA τ 36 b = 0 then obd (fX12_begins2 N (zA τ 37 b) (zsI τ 0 63 (nI b))) (fun _ u => fX12_makeS_b11 N m u)
      else if zA τ 36 b = 2 then obd (fX12_beginsE N (zA τ 37 b) (zsI τ 0 63 (nI b))) (fun _ u => fX12_makeS_b11 N m u)
      else if zA τ 36 b = 1 then fX12_makeS_b83 N (fX12_makeS_b11 N m) (zA τ 36 b) (zA τ 37 b) (zsI τ 0 63 (nI b))
      else if zA τ 36 b = 3 then fX12_makeS_b83 N (fX12_makeS_b11 N m) (zA τ 36 b) (zA τ 37 b) (zsI τ 0 63 (nI b))
      else if zA τ 37 b < 0 ∨ 4200 ≤ (zA τ 37 b).toNatClampNeg then none else if zA τ 15 (zA τ 37 b).toNatClampNeg < 20 then obd (fX12_goesOnE N (zA τ 36 b) (zA τ 37 b) (zsI τ 0 63 (nI b))) (fun _ u => fX12_makeS_b11 N m u)
      else obd (fX12_goesOnS N (zA τ 36 b) (zA τ 37 b) (zsI τ 0 63 (nI b))) (fun _ u => fX12_makeS_b11 N m u)) := by
  have e : zI (zsI τ 0 63 (nI b)) 0 63 = nI b := by rw [zI_I, if_pos ⟨rfl, rfl⟩]
  rw [fX12_makeS_b11, h, if_neg (show ¬ nI (b + 1) ≤ 0 from fun q => by rw [show (0 : Int32) = nI 0 from rfl, nI_le' (by omega) (by omega)] at q; omega), nI_pred, bnd_e, e, nI_clamp (by omega), if_neg (ixN hb (by omega)), bnd_e, if_neg (ixN hb (by omega)), bnd_e, zA_I, zA_I, zA_I]
  rfl
/-- a list of cells is put -/
def wlS (τ : zSt) : Nat → List Int32 → zSt
  | _, [] => τ
  | p, v :: l => wlS (ptS τ p v) (p + 1) l
/-- the FUNCTION whose code is made; where the FUNCTIONS begin -/
def cx (G : gE) (st : Nat → Int32) (np : Int32) (τ : zSt) : Prop := (∃ f, zI τ 0 35 = nI f ∧ f < 1400 ∧ zA τ 10 f = np) ∧ G.2.2.2.2 ≤ 1400 ∧ ∀ g, g < G.2.2.2.2 → G.2.1 g = 2 → zA τ 35 g = st g
theorem cx_fM {G : gE} {st : Nat → Int32} {np : Int32} {lo hi p b : Nat} {τ u : zSt} (h : fM lo hi p b τ u) (hc : cx G st np τ) : cx G st np u := by
  obtain ⟨⟨f, a1, a2, a3⟩, a4, a5⟩ := hc
  exact ⟨⟨f, (h.1 35 (by omega) (by omega)).trans a1, a2, (h.2.2.2 10 f (by omega) (by omega) (by omega)).trans a3⟩, a4, fun g h1 h2 => (h.2.2.2 35 g (by omega) (by omega) (by omega)).trans (a5 g h1 h2)⟩
def RM (G : gE) (st : Nat → Int32) (np : Int32) (τ : zSt) (p b : Nat) : Prop := cx G st np τ ∧ zI τ 0 61 = nI p ∧ zI τ 0 63 = nI b
theorem RM_pt {G : gE} {st : Nat → Int32} {np : Int32} {τ : zSt} {p b : Nat} {v : Int32} (h : RM G st np τ p b) : RM G st np (ptS τ p v) (p + 1) b := ⟨cx_fM (fM_pt (lo := 0) (hi := 0) (b := 0) fM_refl (Nat.le_refl _)) h.1, pt_61, pt_63.trans h.2.2⟩
theorem RM_ts {G : gE} {st : Nat → Int32} {np : Int32} {τ : zSt} {p b : Nat} {k i : Int32} (h : RM G st np τ p b) : RM G st np (tsS τ b k i) p (b + 1) := ⟨cx_fM (fM_ts (lo := 0) (hi := 0) (p := 0) fM_refl (Nat.le_refl _)) h.1, ts_61.trans h.2.1, ts_63⟩
theorem RM_63 {G : gE} {st : Nat → Int32} {np : Int32} {τ : zSt} {p b c : Nat} (h : RM G st np τ p c) : RM G st np (zsI τ 0 63 (nI b)) p b := ⟨cx_fM (fM_63 (lo := 0) (hi := 0) (p := 0) (b := 0) fM_refl) h.1, by rw [zI_I, if_neg (by omega)]; exact h.2.1, by rw [zI_I, if_pos ⟨rfl, rfl⟩]⟩
theorem RM_A {G : gE} {st : Nat → Int32} {np : Int32} {τ : zSt} {p b a q : Nat} {v : Int32} (h : RM G st np τ p b) (ha : a = 34 ∨ a = 38 ∨ a = 39 ∨ a = 40) : RM G st np (zsA τ a q v) p b := ⟨cx_fM (fM_A (lo := 0) (hi := q + 1) (p := 0) (b := 0) fM_refl (by omega)) h.1, h.2.1, h.2.2⟩
theorem fM_pl {lo hi p b : Nat} {τ : zSt} : ∀ (l : List Int32) (q : Nat) (u : zSt), fM lo hi p b τ u → p ≤ q → fM lo hi p b τ (wlS u q l) := by
  intro l
  induction l with
  | nil => intro q u h _; exact h
  | cons v l ih => intro q u h hq; exact ih (q + 1) _ (fM_pt h hq) (by omega)
theorem RM_pl {G : gE} {st : Nat → Int32} {np : Int32} {b : Nat} : ∀ (l : List Int32) (p : Nat) (τ : zSt), RM G st np τ p b → RM G st np (wlS τ p l) (p + l.length) b := by
  intro l
  induction l with
  | nil => intro p τ h; exact h
  | cons v l ih =>
    intro p τ h
    have := ih (p + 1) _ (RM_pt (v := v) h)
    rw [show p + 1 + l.length = p + (v :: l).length by rw [List.length_cons]; omega] at this
    exact this
theorem cd_pl : ∀ (l : List Int32) (p : Nat) (τ : zSt), cd (wlS τ p l) p l := by
  intro l
  induction l with
  | nil => intro p τ; exact cd_nil
  | cons v l ih =>
    intro p τ
    refine cd_cons ?_ (ih (p + 1) _)
    have h := fM_pl (lo := 0) (hi := 0) (b := 0) (p := p + 1) l (p + 1) (ptS τ p v) fM_refl (Nat.le_refl _)
    exact (h.2.2.2 34 p (Or.inr (by omega)) (Or.inl (by omega)) (Or.inl (by omega))).trans pt_34
theorem gl_N {k : Nat} {v w : Int} {A B C : fT} : gl (fN k v w A B C) = glN k v w (gl A) (gl B) (gl C) := ff_N _ _ _ _ _ _ _ _ _
theorem gl_C {t r : fT} : gl (fC t r) = (true, (gl t).2 + (gl r).2) := ff_C _ _ _ _ _
theorem gn_N {st : Nat → Int32} {np : Int32} {k : Nat} {v w : Int} {A B C : fT} : gn st np (fN k v w A B C) = gnN st np k v w (gn st np A) (gn st np B) (gn st np C) := ff_N _ _ _ _ _ _ _ _ _
theorem gn_C {st : Nat → Int32} {np : Int32} {t r : fT} : gn st np (fC t r) = gnC (gn st np t) (gn st np r) := ff_C _ _ _ _ _
/-- making the code of t: k rounds of the loop -/
def MKo (d N : Nat) (G : gE) (st : Nat → Int32) (np : Int32) (t : fT) (lo hi p b : Nat) (τ : zSt) : Prop := ∃ u k, (∀ m, fX12_makeS_b11 N (m + k) τ = fX12_makeS_b11 N m u) ∧ k + d ≤ 6 * cN t ∧ fM lo hi p b τ u ∧ RM G st np u (p + (gl t).2) b ∧ cd u p ((gn st np t).2 p)
def MKp (N : Nat) (G : gE) (st : Nat → Int32) (np : Int32) (kd : Int32) (t : fT) : Prop := ∀ (lo hi : Nat) (i : Int32) (τ : zSt) (p b : Nat), rep τ t lo hi i → RM G st np τ p (b + 1) → zA τ 36 b = kd → zA τ 37 b = i → p + (gl t).2 ≤ 29000 → b + 3 * cN t ≤ 5900 → MKo 2 N G st np t lo hi p b τ
def MKl (N : Nat) (G : gE) (st : Nat → Int32) (np : Int32) (kd : Int32) (t : fT) : Prop := ∀ (lo hi : Nat) (i : Int32) (τ : zSt) (p b : Nat), rep τ t lo hi i → RM G st np τ p (b + 1) → zA τ 36 b = kd → zA τ 37 b = i → p + (gl t).2 ≤ 29000 → b + 3 * cN t ≤ 5900 → MKo 1 N G st np t lo hi p b τ
theorem MKp_l {N : Nat} {G : gE} {st : Nat → Int32} {np : Int32} {kd : Int32} {t : fT} (h : MKp N G st np kd t) : MKl N G st np kd t := by
  intro lo hi i τ p b h1 h2 h3 h4 h5 h6
  obtain ⟨u, k, g1, g2, g3⟩ := h lo hi i τ p b h1 h2 h3 h4 h5 h6
  exact ⟨u, k, g1, by omega, g3⟩
theorem fM_n {lo hi p b : Nat} {τ u : zSt} (h : fM lo hi p b τ u) {a : Nat} (ha : 15 ≤ a ∧ a ≤ 21) (i : Nat) : zA u a i = zA τ a i := h.2.2.2 a i (Or.inl (by omega)) (Or.inl (by omega)) (Or.inl (by omega))
theorem rep_fM {lo hi p b lo' hi' : Nat} {τ u : zSt} {t : fT} {i : Int32} (h : fM lo hi p b τ u) (hr : rep τ t lo' hi' i) : rep u t lo' hi' i := rep_frame _ _ _ _ (fun j hj => ⟨hj, fun a h1 h2 => fM_n h ⟨h1, h2⟩ j⟩) hr
/-- one part, then cells l -/
theorem mk_one {N : Nat} {G : gE} {st : Nat → Int32} {np : Int32} {t A : fT} {l : List Int32} {lo hi lo' hi' p b j : Nat} {a kd : Int32} {τ : zSt}
    (hgn : (gn st np t).2 p = (gn st np A).2 p ++ l) (hgl : (gl t).2 = (gl A).2 + l.length) (hcn : cN A + 1 ≤ cN t) (hA : MKl N G st np kd A) (hR : RM G st np τ p (b + 1)) (hr : rep τ A lo' hi' a) (h1 : lo ≤ lo') (h2 : hi' ≤ hi) (hp : p + (gl t).2 ≤ 29000) (hb : b + 3 * cN t ≤ 5900)
    (hbeg : ∀ m, fX12_makeS_b11 N (m + 1) τ = fX12_makeS_b11 N m (tsS (tsS (zsI τ 0 63 (nI b)) b 4 (nI j)) (b + 1) kd a))
    (hdone : ∀ u q, fM lo hi p b τ u → RM G st np u q (b + 1) → q + l.length ≤ 29000 → zA u 36 b = 4 → zA u 37 b = nI j → ∀ m, fX12_makeS_b11 N (m + 1) u = fX12_makeS_b11 N m (wlS (zsI u 0 63 (nI b)) q l)) : MKo 2 N G st np t lo hi p b τ := by
  have hR1 : RM G st np (tsS (tsS (zsI τ 0 63 (nI b)) b 4 (nI j)) (b + 1) kd a) p (b + 1 + 1) := RM_ts (RM_ts (RM_63 hR))
  have hF1 : fM lo hi p b τ (tsS (tsS (zsI τ 0 63 (nI b)) b 4 (nI j)) (b + 1) kd a) := fM_ts (fM_ts (fM_63 fM_refl) (Nat.le_refl _)) (by omega)
  have t36 : zA (tsS (tsS (zsI τ 0 63 (nI b)) b 4 (nI j)) (b + 1) kd a) 36 b = 4 := by rw [ts_A (by omega), ts_36]
  have t37 : zA (tsS (tsS (zsI τ 0 63 (nI b)) b 4 (nI j)) (b + 1) kd a) 37 b = nI j := by rw [ts_A (by omega), ts_37]
  have s36 : zA (tsS (tsS (zsI τ 0 63 (nI b)) b 4 (nI j)) (b + 1) kd a) 36 (b + 1) = kd := ts_36
  have s37 : zA (tsS (tsS (zsI τ 0 63 (nI b)) b 4 (nI j)) (b + 1) kd a) 37 (b + 1) = a := ts_37
  revert hR1 hF1 t36 t37 s36 s37 hbeg
  generalize tsS (tsS (zsI τ 0 63 (nI b)) b 4 (nI j)) (b + 1) kd a = s1
  intro hbeg hR1 hF1 t36 t37 s36 s37
  obtain ⟨u, k, g1, g2, g3, g4, g5⟩ := hA lo' hi' a s1 p (b + 1) (rep_fM hF1 hr) hR1 s36 s37 (by omega) (by omega)
  have hlen := (gn_len st np A).2 p
  have hFu : fM lo hi p b τ u := fM_trans hF1 g3 h1 h2 (Nat.le_refl _) (by omega)
  have u36 : zA u 36 b = 4 := (g3.2.2.2 36 b (Or.inl (by omega)) (Or.inr (by omega)) (Or.inl (by omega))).trans t36
  have u37 : zA u 37 b = nI j := (g3.2.2.2 37 b (Or.inl (by omega)) (Or.inr (by omega)) (Or.inl (by omega))).trans t37
  have hd := hdone u _ hFu g4 (by omega) u36 u37
  refine ⟨wlS (zsI u 0 63 (nI b)) (p + (gl A).2) l, 1 + k + 1, fun m => ?_, by omega, fM_pl l _ _ (fM_63 hFu) (by omega), ?_, ?_⟩
  · rw [show m + (1 + k + 1) = (m + 1 + k) + 1 by omega, hbeg, g1, hd]
  · have := RM_pl l (p + (gl A).2) _ (RM_63 (b := b) g4)
    rw [hgl, ← Nat.add_assoc]
    exact this
  · rw [hgn]
    refine cd_app (cd_frame (fun q q1 q2 => ?_) g5) ?_
    · have h := fM_pl (lo := 0) (hi := 0) (b := 0) (p := p + (gl A).2) l (p + (gl A).2) (zsI u 0 63 (nI b)) (fM_63 fM_refl) (Nat.le_refl _)
      exact h.2.2.2 34 q (Or.inr (by omega)) (Or.inl (by omega)) (Or.inl (by omega))
    · rw [hlen]; exact cd_pl _ _ _
/-- two parts, then cells l -/
theorem mk_two {N : Nat} {G : gE} {st : Nat → Int32} {np : Int32} {t A B : fT} {l : List Int32} {lo hi lo' hi' lo2 hi2 p b j : Nat} {a c : Int32} {τ : zSt}
    (hgn : (gn st np t).2 p = (gn st np A).2 p ++ ((gn st np B).2 (p + ((gn st np A).2 p).length) ++ l)) (hgl : (gl t).2 = (gl A).2 + ((gl B).2 + l.length)) (hcn : cN A + cN B + 1 ≤ cN t) (hA : MKp N G st np 2 A) (hB : MKp N G st np 2 B) (hR : RM G st np τ p (b + 1)) (hr : rep τ A lo' hi' a) (hr2 : rep τ B lo2 hi2 c) (h1 : lo ≤ lo') (h2 : hi' ≤ hi) (h3 : lo ≤ lo2) (h4 : hi2 ≤ hi) (hp : p + (gl t).2 ≤ 29000) (hb : b + 3 * cN t ≤ 5900)
    (hbeg : ∀ m, fX12_makeS_b11 N (m + 1) τ = fX12_makeS_b11 N m (tsS (tsS (tsS (zsI τ 0 63 (nI b)) b 4 (nI j)) (b + 1) 2 c) (b + 2) 2 a))
    (hdone : ∀ u q, fM lo hi p b τ u → RM G st np u q (b + 1) → q + l.length ≤ 29000 → zA u 36 b = 4 → zA u 37 b = nI j → ∀ m, fX12_makeS_b11 N (m + 1) u = fX12_makeS_b11 N m (wlS (zsI u 0 63 (nI b)) q l)) : MKo 2 N G st np t lo hi p b τ := by
  have hR1 : RM G st np (tsS (tsS (tsS (zsI τ 0 63 (nI b)) b 4 (nI j)) (b + 1) 2 c) (b + 2) 2 a) p (b + 2 + 1) := RM_ts (RM_ts (RM_ts (RM_63 hR)))
  have hF1 : fM lo hi p b τ (tsS (tsS (tsS (zsI τ 0 63 (nI b)) b 4 (nI j)) (b + 1) 2 c) (b + 2) 2 a) := fM_ts (fM_ts (fM_ts (fM_63 fM_refl) (Nat.le_refl _)) (by omega)) (by omega)
  have t36 : zA (tsS (tsS (tsS (zsI τ 0 63 (nI b)) b 4 (nI j)) (b + 1) 2 c) (b + 2) 2 a) 36 b = 4 := by rw [ts_A (by omega), ts_A (by omega), ts_36]
  have t37 : zA (tsS (tsS (tsS (zsI τ 0 63 (nI b)) b 4 (nI j)) (b + 1) 2 c) (b + 2) 2 a) 37 b = nI j := by rw [ts_A (by omega), ts_A (by omega), ts_37]
  have v36 : zA (tsS (tsS (tsS (zsI τ 0 63 (nI b)) b 4 (nI j)) (b + 1) 2 c) (b + 2) 2 a) 36 (b + 1) = 2 := by rw [ts_A (by omega), ts_36]
  have v37 : zA (tsS (tsS (tsS (zsI τ 0 63 (nI b)) b 4 (nI j)) (b + 1) 2 c) (b + 2) 2 a) 37 (b + 1) = c := by rw [ts_A (by omega), ts_37]
  have s36 : zA (tsS (tsS (tsS (zsI τ 0 63 (nI b)) b 4 (nI j)) (b + 1) 2 c) (b + 2) 2 a) 36 (b + 2) = 2 := ts_36
  have s37 : zA (tsS (tsS (tsS (zsI τ 0 63 (nI b)) b 4 (nI j)) (b + 1) 2 c) (b + 2) 2 a) 37 (b + 2) = a := ts_37
  revert hR1 hF1 t36 t37 v36 v37 s36 s37 hbeg
  generalize tsS (tsS (tsS (zsI τ 0 63 (nI b)) b 4 (nI j)) (b + 1) 2 c) (b + 2) 2 a = s1
  intro hbeg hR1 hF1 t36 t37 v36 v37 s36 s37
  obtain ⟨u, k, g1, g2, g3, g4, g5⟩ := hA lo' hi' a s1 p (b + 2) (rep_fM hF1 hr) hR1 s36 s37 (by omega) (by omega)
  have hlen := (gn_len st np A).2 p
  have hFu : fM lo hi p b τ u := fM_trans hF1 g3 h1 h2 (Nat.le_refl _) (by omega)
  have uT : ∀ a i, a = 36 ∨ a = 37 → i < b + 2 → zA u a i = zA s1 a i := fun a i q1 q2 => g3.2.2.2 a i (Or.inl (by omega)) (Or.inr (by omega)) (Or.inl (by omega))
  obtain ⟨w, k2, e1, e2, e3, e4, e5⟩ := hB lo2 hi2 c u (p + (gl A).2) (b + 1) (rep_fM hFu hr2) g4 ((uT 36 (b + 1) (Or.inl rfl) (by omega)).trans v36) ((uT 37 (b + 1) (Or.inr rfl) (by omega)).trans v37) (by omega) (by omega)
  have hlen2 := (gn_len st np B).2 (p + (gl A).2)
  have hFw : fM lo hi p b τ w := fM_trans hFu e3 h3 h4 (by omega) (by omega)
  have w36 : zA w 36 b = 4 := ((e3.2.2.2 36 b (Or.inl (by omega)) (Or.inr (by omega)) (Or.inl (by omega))).trans (uT 36 b (Or.inl rfl) (by omega))).trans t36
  have w37 : zA w 37 b = nI j := ((e3.2.2.2 37 b (Or.inl (by omega)) (Or.inr (by omega)) (Or.inl (by omega))).trans (uT 37 b (Or.inr rfl) (by omega))).trans t37
  have hd := hdone w _ hFw e4 (by omega) w36 w37
  refine ⟨wlS (zsI w 0 63 (nI b)) (p + (gl A).2 + (gl B).2) l, 1 + k2 + k + 1, fun m => ?_, by omega, fM_pl l _ _ (fM_63 hFw) (by omega), ?_, ?_⟩
  · rw [show m + (1 + k2 + k + 1) = (m + 1 + k2 + k) + 1 by omega, hbeg, g1, e1, hd]
  · have := RM_pl l (p + (gl A).2 + (gl B).2) _ (RM_63 (b := b) e4)
    rw [hgl, ← Nat.add_assoc, ← Nat.add_assoc]
    exact this
  · rw [hgn, hlen]
    have h := fM_pl (lo := 0) (hi := 0) (b := 0) (p := p + (gl A).2 + (gl B).2) l (p + (gl A).2 + (gl B).2) (zsI w 0 63 (nI b)) (fM_63 fM_refl) (Nat.le_refl _)
    refine cd_app (cd_frame (fun q q1 q2 => ?_) g5) ?_
    · exact (h.2.2.2 34 q (Or.inr (by omega)) (Or.inl (by omega)) (Or.inl (by omega))).trans (e3.2.2.2 34 q (Or.inr (by omega)) (Or.inl (by omega)) (Or.inl (by omega)))
    · rw [hlen]
      refine cd_app (cd_frame (fun q q1 q2 => ?_) e5) ?_
      · exact h.2.2.2 34 q (Or.inr (by omega)) (Or.inl (by omega)) (Or.inl (by omega))
      · rw [hlen2]; exact cd_pl _ _ _
