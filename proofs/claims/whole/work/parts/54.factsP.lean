/-! FACTS of the program -/
/-- where FUNCTION f begins -/
def szN (P : yP) : Nat → Nat
  | 0 => 4
  | f + 1 => szN P f + (if P.1.2.1 f = 2 then 6 + (gl (P.2.2.2.1 f)).2 else 0)
/-- the first m names alone -/
def gC (G : gE) (m : Nat) : gE := (G.1, G.2.1, G.2.2.1, G.2.2.2.1, m)
theorem gC_ext {G G' : gE} {m : Nat} (h : gExt G G') (hm : m ≤ G.2.2.2.2) : gExt (gC G m) (gC G' m) := ⟨Nat.le_refl _, fun g hg => h.2 g (Nat.lt_of_lt_of_le hg hm)⟩
theorem gC_in {G : gE} {m : Nat} (hm : m ≤ G.2.2.2.2) : gExt (gC G m) G := ⟨hm, fun _ _ => ⟨rfl, rfl, rfl, rfl⟩⟩
def pOk (P : yP) (tk : yTok) : Prop := gOk P.2.1 P.1 ∧ P.1.2.2.2.2 ≤ tk.2.1 ∧ P.2.1 ≤ 1000 * tk.2.1 ∧ (∀ i j, i < j → j < P.1.2.2.2.2 → P.1.1 i ≠ P.1.1 j) ∧
  (∀ g, g < P.1.2.2.2.2 → P.1.2.1 g = 2 → P.1.2.2.1 g = nI (szN P g) ∧ P.2.2.2.2 g ≤ 4096 ∧ ∃ m : Nat, m ≤ 8 ∧ P.1.2.2.2.1 g = nI m ∧ wf (gC P.1 (g + 1)) P.2.1 m (P.2.2.2.2 g) (P.2.2.2.1 g) 1 0) ∧ P.2.2.1 = szN P P.1.2.2.2.2
theorem lkN_none {f : Nat → Int64} {w : Int64} : ∀ {m : Nat}, lkN f w m = none → ∀ j, j < m → f j ≠ w := by
  intro m
  induction m with
  | zero => intro _ j h; omega
  | succ m ih =>
    intro h j hj
    unfold lkN at h
    split at h
    · cases h
    · rename_i q
      by_cases e : j = m
      · rw [e]; exact q
      · exact ih h j (by omega)
theorem gAdd_ext (G : gE) (w : Int64) (s a m : Int32) : gExt G (gAdd G w s a m) := by
  refine ⟨Nat.le_succ _, fun g hg => ?_⟩
  have e : ¬ g = G.2.2.2.2 := by omega
  simp only [gAdd, if_neg e, and_self]
theorem szN_cong {P Q : yP} : ∀ m, (∀ g, g < m → Q.1.2.1 g = P.1.2.1 g ∧ (P.1.2.1 g = 2 → Q.2.2.2.1 g = P.2.2.2.1 g)) → szN Q m = szN P m := by
  intro m
  induction m with
  | zero => intro _; rfl
  | succ m ih =>
    intro h
    have h1 := h m (by omega)
    unfold szN
    rw [ih (fun g hg => h g (by omega)), h1.1]
    by_cases e : P.1.2.1 m = 2
    · rw [if_pos e, if_pos e, h1.2 e]
    · rw [if_neg e, if_neg e]
theorem gOk_add {gs gs' : Nat} {G : gE} {w : Int64} {s a m : Int32} (h : gOk gs G) (hg : gs ≤ gs') (hn : (s = 0 ∧ 0 ≤ a.toInt ∧ a.toInt < gs') ∨ (s = 1 ∧ 0 ≤ a.toInt ∧ 1 ≤ m.toInt ∧ a.toInt + m.toInt ≤ gs') ∨ (s = 2 ∧ ∃ k : Nat, k ≤ 8 ∧ m = nI k)) : gOk gs' (gAdd G w s a m) := by
  intro g hg2
  by_cases e : g = G.2.2.2.2
  · simp only [gAdd, if_pos e]
    exact hn
  · simp only [gAdd, if_neg e]
    have hg3 : g < G.2.2.2.2 + 1 := hg2
    rcases h g (by omega) with q | q | q
    · exact Or.inl ⟨q.1, q.2.1, by omega⟩
    · exact Or.inr (Or.inl ⟨q.1, q.2.1, q.2.2.1, by omega⟩)
    · exact Or.inr (Or.inr q)
theorem yPars_ok {x : Nat → Int32} {n : Nat} (hn : n ≤ 4096) : ∀ (f : Nat) (L : lE) (tk : yTok), tkO n tk → L.2.2 ≤ 8 → n + 1 ≤ f + tk.2.1 → sat (yPars x n f L tk) (fun u => u.1.2.2 ≤ 8 ∧ tkO n u.2 ∧ tk.2.1 ≤ u.2.2.1) := by
  intro f
  induction f with
  | zero => intro L tk htk _ h; have := htk.1; have := htk.2.1; omega
  | succ f ih =>
    intro L tk htk hL hf
    have hp2 : tk.2.1 ≤ 4096 := by have := htk.1; have := htk.2.1; omega
    unfold yPars
    refine sat_xb (need_ok hp2) (fun _ _ hk => sat_xb (cm_ok hn htk.2.1) (fun t1 _ ht1 => ?_))
    have hlt := tk_ne htk hk (by decide)
    have hp3 : t1.2.1 ≤ 4096 := by have := ht1.1.1; have := ht1.1.2.1; omega
    have hh1 := ht1.2
    refine sat_xb (need_ok hp3) (fun _ _ hk1 => ?_)
    split
    · exact sat_er erK4 hp3
    · split
      · exact sat_er erK6 hp3
      · rename_i h8
        refine sat_xb (cm_ok hn ht1.1.2.1) (fun t2 _ ht2 => ?_)
        have hh2 := ht2.2
        have hh3 := ht1.1.1
        split
        · refine sat_xb (cm_ok hn ht2.1.2.1) (fun t3 _ ht3 => ?_)
          have hh4 := ht3.2
          have hh5 := ht2.1.1
          refine sat_mono (ih _ t3 ht3.1 (by show L.2.2 + 1 ≤ 8; omega) (by omega)) ?_
          rintro u ⟨u1, u2, u3⟩
          exact ⟨u1, u2, by omega⟩
        · exact ⟨by show L.2.2 + 1 ≤ 8; omega, ht2.1, by show tk.2.1 ≤ t2.2.1; omega⟩
theorem lPlace_ok {L : lE} (h : L.2.2 ≤ 8) : lOk L.2.2 0 (lPlace L) := by
  intro j hj
  have hj2 : j < L.2.2 := hj
  have fin : ∀ m : Nat, m ≤ 8 → ∀ j : Nat, j < m → (nI j - 2 - nI m).toInt = (j : Int) - 2 - (m : Int) := by decide +kernel
  show plOk L.2.2 0 (nI j - 2 - nI L.2.2).toInt
  rw [fin L.2.2 h j hj2]
  exact Or.inr (by omega)
theorem yFun_ok {x : Nat → Int32} {n tc : Nat} (hn : n ≤ 4096) {P : yP} {w : Int64} {p : Nat} {tk : yTok} {c : Nat} (hP : gOk P.2.1 P.1 ∧ P.1.2.2.2.2 + 1 ≤ tk.2.1 ∧ P.2.1 ≤ 1000 * tk.2.1 ∧ (∀ i j, i < j → j < P.1.2.2.2.2 → P.1.1 i ≠ P.1.1 j) ∧
  (∀ g, g < P.1.2.2.2.2 → P.1.2.1 g = 2 → P.1.2.2.1 g = nI (szN P g) ∧ P.2.2.2.2 g ≤ 4096 ∧ ∃ m : Nat, m ≤ 8 ∧ P.1.2.2.2.1 g = nI m ∧ wf (gC P.1 (g + 1)) P.2.1 m (P.2.2.2.2 g) (P.2.2.2.1 g) 1 0) ∧ P.2.2.1 = szN P P.1.2.2.2.2) (hw : ∀ j, j < P.1.2.2.2.2 → P.1.1 j ≠ w) (hp : p ≤ 4096) (htk : tkO n tk) :
    sat (yFun x n tc P w p tk c) (fun u => pOk u.1 u.2.1 ∧ tkO n u.2.1 ∧ tk.2.1 < u.2.1.2.1 ∧ u.2.2 ≤ tc) := by
  obtain ⟨h1, h2, h3, h4, h5, h6⟩ := hP
  unfold yFun
  refine sat_xb (fo_ok hp) (fun c1 _ hc1 => sat_xb (cm_ok hn htk.2.1) (fun t3 _ ht3 => ?_))
  refine sat_xb (Q := fun u => u.1.2.2 ≤ 8 ∧ tkO n u.2 ∧ t3.2.1 ≤ u.2.2.1) ?_ (fun u _ hu => ?_)
  · split
    · exact ⟨by show 0 ≤ 8; omega, ht3.1, Nat.le_refl _⟩
    · exact yPars_ok hn _ _ _ ht3.1 (by show 0 ≤ 8; omega) (by omega)
  · obtain ⟨u1, u2, u3⟩ := hu
    refine sat_xb (need_ok (by have := u2.1; have := u2.2.1; omega)) (fun _ _ hk4 => sat_xb (cm_ok hn u2.2.1) (fun t5 _ ht5 => ?_))
    refine sat_xb (need_ok (by have := ht5.1.1; have := ht5.1.2.1; omega)) (fun _ _ hk5 => ?_)
    have hG2 : gOk P.2.1 (gAdd P.1 w 2 (nI P.2.2.1) (nI u.1.2.2)) := gOk_add h1 (Nat.le_refl _) (Or.inr (Or.inr ⟨rfl, u.1.2.2, u1, rfl⟩))
    refine sat_xb (yBlock_ok hn hG2 (yS_ok hn hG2 42) ht5.1 hk5 (by omega) (by omega) hc1.2 (lPlace_ok u1) (Nat.le_refl _) (Nat.zero_le _)) (fun r _ hr => ?_)
    obtain ⟨r1, r2, r3, r4, r5, r6⟩ := hr
    have hlt : tk.2.1 < r.2.1.2.1 := by have := htk.1; have := ht3.2; have := u2.1; have := ht5.2; omega
    refine ⟨⟨hG2, by show P.1.2.2.2.2 + 1 ≤ r.2.1.2.1; omega, by show P.2.1 ≤ 1000 * r.2.1.2.1; omega, ?_, ?_, ?_⟩, r2, hlt, r4⟩
    · intro i j hij hj
      have hj2 : j < P.1.2.2.2.2 + 1 := hj
      show (if i = P.1.2.2.2.2 then w else P.1.1 i) ≠ (if j = P.1.2.2.2.2 then w else P.1.1 j)
      rw [if_neg (by omega : ¬ i = P.1.2.2.2.2)]
      by_cases e : j = P.1.2.2.2.2
      · rw [if_pos e]; exact hw i (by omega)
      · rw [if_neg e]; exact h4 i j hij (by omega)
    · intro g hg hs
      have hg2 : g < P.1.2.2.2.2 + 1 := hg
      have hsz : ∀ m, m ≤ P.1.2.2.2.2 → szN (gAdd P.1 w 2 (nI P.2.2.1) (nI u.1.2.2), P.2.1, P.2.2.1 + (6 + (gl r.1).2), (fun i => if i = P.1.2.2.2.2 then fN 20 0 0 r.1 fZ fZ else P.2.2.2.1 i), (fun i => if i = P.1.2.2.2.2 then r.2.2.2 else P.2.2.2.2 i)) m = szN P m := by
        intro m hm
        apply szN_cong
        intro g hg
        have e : ¬ g = P.1.2.2.2.2 := by omega
        simp only [gAdd, if_neg e, true_and]
        exact fun _ => trivial
      by_cases e : g = P.1.2.2.2.2
      · subst e
        refine ⟨?_, ?_, u.1.2.2, u1, ?_, ?_⟩
        · rw [hsz _ (Nat.le_refl _)]
          simp only [gAdd, if_true]
          rw [h6]
        · simp only [if_true]; have := r2.1; have := r2.2.1; omega
        · simp only [gAdd, if_true]
        · simp only [if_true]
          rw [wf_N]
          exact r1 _ (Nat.le_refl _)
      · have hs2 : P.1.2.1 g = 2 := by simpa only [gAdd, if_neg e] using hs
        obtain ⟨a1, a2, m, a3, a4, a5⟩ := h5 g (by omega) hs2
        refine ⟨?_, ?_, m, a3, ?_, ?_⟩
        · rw [hsz g (by omega)]
          simp only [gAdd, if_neg e]
          exact a1
        · simp only [if_neg e]; exact a2
        · simp only [gAdd, if_neg e]; exact a4
        · simp only [if_neg e]
          exact wf_mono (gC_ext (gAdd_ext _ _ _ _ _) (by omega)) (Nat.le_refl _) (Nat.le_refl _) _ _ _ a5
    · show P.2.2.1 + (6 + (gl r.1).2) = szN _ (P.1.2.2.2.2 + 1)
      unfold szN
      rw [szN_cong (P := P) P.1.2.2.2.2 ?_, h6]
      · simp only [gAdd, if_true]
        congr 2
      · intro g hg
        have e : ¬ g = P.1.2.2.2.2 := by omega
        simp only [gAdd, if_neg e, true_and]
        exact fun _ => trivial
theorem ySize_ok {x : Nat → Int32} {n : Nat} (hn : n ≤ 4096) {tk : yTok} (htk : tkO n tk) : sat (ySize x n tk) (fun u => 1 ≤ u.1.toInt ∧ u.1.toInt ≤ 1000 ∧ tkO n u.2 ∧ tk.2.1 ≤ u.2.2.1) := by
  unfold ySize
  refine sat_xb (cm_ok hn htk.2.1) (fun t3 _ ht3 => ?_)
  have hp3 : t3.2.1 ≤ 4096 := by have := ht3.1.1; have := ht3.1.2.1; omega
  refine sat_xb (need_ok hp3) (fun _ _ hk3 => ?_)
  split
  · exact sat_er erK11 hp3
  · rename_i hb
    refine sat_xb (cm_ok hn ht3.1.2.1) (fun t4 _ ht4 => sat_xb (need_ok (by have := ht4.1.1; have := ht4.1.2.1; omega)) (fun _ _ _ => sat_xb (cm_ok hn ht4.1.2.1) (fun t5 _ ht5 => ?_)))
    have b1 : 1 ≤ t3.2.2.2.toInt := by
      have : ¬ t3.2.2.2 < 1 := fun q => hb (Or.inl q)
      rw [Int64.lt_iff_toInt_lt] at this
      have e : (1 : Int64).toInt = 1 := rfl
      omega
    have b2 : t3.2.2.2.toInt ≤ 1000 := by
      have : ¬ (1000 : Int64) < t3.2.2.2 := fun q => hb (Or.inr q)
      rw [Int64.lt_iff_toInt_lt] at this
      have e : (1000 : Int64).toInt = 1000 := rfl
      omega
    have b3 : t3.2.2.2.toInt32.toInt = t3.2.2.2.toInt := by
      rw [Int64.toInt_toInt32]
      exact Int.bmod_eq_of_le (by omega) (by omega)
    refine ⟨by show 1 ≤ t3.2.2.2.toInt32.toInt; omega, by show t3.2.2.2.toInt32.toInt ≤ 1000; omega, ht5.1, ?_⟩
    have := htk.1; have := ht3.1.1; have := ht3.2; have := ht4.1.1; have := ht4.2; have := ht5.2
    show tk.2.1 ≤ t5.2.1
    omega
theorem yDecl_ok {x : Nat → Int32} {n tc : Nat} (hn : n ≤ 4096) {P : yP} {tk : yTok} {c : Nat} (hP : pOk P tk) (htk : tkO n tk) (hc : c ≤ tc) :
    sat (yDecl x n tc P tk c) (fun u => pOk u.1 u.2.1 ∧ tkO n u.2.1 ∧ tk.2.1 < u.2.1.2.1 ∧ u.2.2 ≤ tc) := by
  have hp2 : tk.2.1 ≤ 4096 := by have := htk.1; have := htk.2.1; omega
  obtain ⟨h1, h2, h3, h4, h5, h6⟩ := hP
  unfold yDecl
  refine sat_xb (need_ok hp2) (fun _ _ hk => sat_xb (cm_ok hn htk.2.1) (fun t1 _ ht1 => ?_))
  have hlt := tk_ne htk hk (by decide)
  have hp3 : t1.2.1 ≤ 4096 := by have := ht1.1.1; have := ht1.1.2.1; omega
  have hh1 := ht1.2
  refine sat_xb (need_ok hp3) (fun _ _ hk1 => ?_)
  have hlt1 := tk_ne ht1.1 hk1 (by decide)
  split
  · exact sat_er erK4 hp3
  · rename_i hnone
    have hw : ∀ j, j < P.1.2.2.2.2 → P.1.1 j ≠ t1.2.2.2 := lkN_none (by
      cases e : lkN P.1.1 t1.2.2.2 P.1.2.2.2.2 with
      | none => rfl
      | some j => rw [e] at hnone; exact absurd rfl hnone)
    refine sat_xb (cm_ok hn ht1.1.2.1) (fun t2 _ ht2 => ?_)
    have hh2 := ht2.2
    split
    · refine sat_mono (yFun_ok hn ⟨h1, by omega, by omega, h4, h5, h6⟩ hw hp3 ht2.1) ?_
      rintro u ⟨u1, u2, u3, u4⟩
      exact ⟨u1, u2, by omega, u4⟩
    · rename_i hno
      refine sat_xb (Q := fun u => 1 ≤ u.1.toInt ∧ u.1.toInt ≤ 1000 ∧ tkO n u.2 ∧ t2.2.1 ≤ u.2.2.1) ?_ (fun u _ hu => ?_)
      · split
        · exact ySize_ok hn ht2.1
        · exact ⟨by show (1 : Int) ≤ (1 : Int32).toInt; decide, by show (1 : Int32).toInt ≤ 1000; decide, ht2.1, Nat.le_refl _⟩
      · obtain ⟨u1, u2, u3, u4⟩ := hu
        refine sat_xb (need_ok (by have := u3.1; have := u3.2.1; omega)) (fun _ _ _ => sat_xb (cm_ok hn u3.2.1) (fun t6 _ ht6 => ?_))
        have hh6 := ht6.2
        have hh7 := u3.1
        have hcl : (u.1.toNatClampNeg : Int) = u.1.toInt := by
          rw [Int32.toNatClampNeg]; omega
        have hex := gAdd_ext P.1 t1.2.2.2 (if t2.2.2.1 = 53 then 1 else 0) (nI P.2.1) u.1
        have htn : (nI P.2.1).toInt = P.2.1 := nI_toInt (by omega)
        have hG2 : gOk (P.2.1 + u.1.toNatClampNeg) (gAdd P.1 t1.2.2.2 (if t2.2.2.1 = 53 then 1 else 0) (nI P.2.1) u.1) := by
          refine gOk_add h1 (by omega) ?_
          by_cases e : t2.2.2.1 = 53
          · rw [if_pos e]
            exact Or.inr (Or.inl ⟨rfl, by omega, u1, by omega⟩)
          · rw [if_neg e]
            exact Or.inl ⟨rfl, by omega, by omega⟩
        have hsz : ∀ m, m ≤ P.1.2.2.2.2 → szN (gAdd P.1 t1.2.2.2 (if t2.2.2.1 = 53 then 1 else 0) (nI P.2.1) u.1, P.2.1 + u.1.toNatClampNeg, P.2.2) m = szN P m := by
          intro m hm
          apply szN_cong
          intro g hg
          exact ⟨(hex.2 g (by omega)).2.1, fun _ => rfl⟩
        refine ⟨⟨hG2, by show P.1.2.2.2.2 + 1 ≤ t6.2.1; omega, by show P.2.1 + u.1.toNatClampNeg ≤ 1000 * t6.2.1; omega, ?_, ?_, ?_⟩, ht6.1, by show tk.2.1 < t6.2.1; omega, hc⟩
        · intro i j hij hj
          have hj2 : j < P.1.2.2.2.2 + 1 := hj
          show (if i = P.1.2.2.2.2 then t1.2.2.2 else P.1.1 i) ≠ (if j = P.1.2.2.2.2 then t1.2.2.2 else P.1.1 j)
          rw [if_neg (by omega : ¬ i = P.1.2.2.2.2)]
          by_cases e : j = P.1.2.2.2.2
          · rw [if_pos e]; exact hw i (by omega)
          · rw [if_neg e]; exact h4 i j hij (by omega)
        · intro g hg hs
          have hg2 : g < P.1.2.2.2.2 + 1 := hg
          by_cases e : g = P.1.2.2.2.2
          · exfalso
            have hs2 : (if g = P.1.2.2.2.2 then (if t2.2.2.1 = 53 then (1 : Int32) else 0) else P.1.2.1 g) = 2 := hs
            rw [if_pos e] at hs2
            split at hs2 <;> exact absurd hs2 (by decide)
          · have hgl : g < P.1.2.2.2.2 := by omega
            have hs2 : P.1.2.1 g = 2 := ((hex.2 g hgl).2.1).symm.trans hs
            obtain ⟨a1, a2, m, a3, a4, a5⟩ := h5 g hgl hs2
            refine ⟨?_, a2, m, a3, ((hex.2 g hgl).2.2.2).trans a4, wf_mono (gC_ext hex (by omega)) (Nat.le_add_right _ _) (Nat.le_refl _) _ _ _ a5⟩
            rw [hsz g (by omega)]
            exact ((hex.2 g hgl).2.2.1).trans a1
        · show P.2.2.1 = szN _ (P.1.2.2.2.2 + 1)
          unfold szN
          rw [hsz _ (Nat.le_refl _), h6]
          have : ¬ (if P.1.2.2.2.2 = P.1.2.2.2.2 then (if t2.2.2.1 = 53 then (1 : Int32) else 0) else P.1.2.1 P.1.2.2.2.2) = 2 := by
            rw [if_pos rfl]
            split <;> decide
          have e0 : (if (if P.1.2.2.2.2 = P.1.2.2.2.2 then (if t2.2.2.1 = 53 then (1 : Int32) else 0) else P.1.2.1 P.1.2.2.2.2) = 2 then 6 + (gl (P.2.2.2.1 P.1.2.2.2.2)).2 else 0) = 0 := if_neg this
          exact (congrArg (fun z => szN P P.1.2.2.2.2 + z) e0).symm
theorem yDecls_ok {x : Nat → Int32} {n tc : Nat} (hn : n ≤ 4096) : ∀ (f : Nat) (P : yP) (tk : yTok) (c : Nat), pOk P tk → tkO n tk → c ≤ tc → n + 1 ≤ f + tk.2.1 → sat (yDecls x n tc f P tk c) (fun Q => ∃ u : yTok, pOk Q u ∧ tkO n u) := by
  intro f
  induction f with
  | zero => intro P tk c _ htk _ h; have := htk.1; have := htk.2.1; omega
  | succ f ih =>
    intro P tk c hP htk hc hf
    unfold yDecls
    split
    · exact ⟨tk, hP, htk⟩
    · refine sat_xb (yDecl_ok hn hP htk hc) (fun u _ hu => ?_)
      exact ih _ _ _ hu.1 hu.2.1 hu.2.2.2 (by have := hu.2.2.1; omega)
theorem yRead_ok {x : Nat → Int32} {n tc : Nat} (hn : n ≤ 4096) : sat (yRead x n tc) (fun Q => (∃ u : yTok, pOk Q u ∧ tkO n u) ∧ ∃ m, lkN Q.1.1 yMain Q.1.2.2.2.2 = some m ∧ Q.1.2.1 m = 2 ∧ Q.1.2.2.2.1 m = 0) := by
  unfold yRead
  refine sat_xb (cm_ok hn (Nat.zero_le _)) (fun t0 _ ht0 => sat_xb (yDecls_ok hn _ _ _ _ ?_ ht0.1 (Nat.zero_le _) (by omega)) (fun Q _ hQ => ?_))
  · refine ⟨fun g hg => ?_, Nat.zero_le _, Nat.zero_le _, fun i j _ hj => ?_, fun g hg => ?_, rfl⟩
    · exact absurd hg (Nat.not_lt_zero _)
    · exact absurd hj (Nat.not_lt_zero _)
    · exact absurd hg (Nat.not_lt_zero _)
  · split
    · rename_i hm
      unfold yHas at hm
      split at hm
      · rename_i m e
        rw [decide_eq_true_eq] at hm
        exact ⟨hQ, m, e, hm⟩
      · cases hm
    · exact sat_er erK7 hn
