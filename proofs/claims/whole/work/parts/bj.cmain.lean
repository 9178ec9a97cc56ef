/-! THE CLASS: main, the end of reading, what is kept -/
theorem lkN_cong {f g : Nat → Int64} {w : Int64} : ∀ (m : Nat), (∀ j, j < m → f j = g j) → lkN f w m = lkN g w m := by
  intro m
  induction m with
  | zero => intro _; rfl
  | succ m ih =>
    intro h
    unfold lkN
    rw [h m (by omega), ih (fun j hj => h j (by omega))]
theorem lkN_add {G : gE} {w v : Int64} {sr a d : Int32} : lkN (gAdd G w sr a d).1 v (G.2.2.2.2 + 1) = if w = v then some G.2.2.2.2 else lkN G.1 v G.2.2.2.2 := by
  rw [lkN]
  have e1 : (gAdd G w sr a d).1 G.2.2.2.2 = w := if_pos rfl
  rw [e1, lkN_cong (f := (gAdd G w sr a d).1) (g := G.1) G.2.2.2.2 (fun j hj => if_neg (by omega))]
def mnF {α : Type} (P : yP) (a : Nat → α) (d : α) : α := match lkN P.1.1 yMain P.1.2.2.2.2 with
  | some m => if P.1.2.1 m = 2 ∧ P.1.2.2.2.1 m = 0 then a m else d
  | none => d
theorem mnF_add {α : Type} {P P' : yP} {w : Int64} {sr a d : Int32} {f : Nat → α} {e : α} (h : P'.1 = gAdd P.1 w sr a d) (hd : ∀ i j, i < j → j < P'.1.2.2.2.2 → P'.1.1 i ≠ P'.1.1 j) : mnF P' f e = if w = yMain ∧ sr = 2 ∧ d = 0 then f P.1.2.2.2.2 else mnF P f e := by
  unfold mnF
  rw [h] at hd ⊢
  rw [show (gAdd P.1 w sr a d).2.2.2.2 = P.1.2.2.2.2 + 1 from rfl, lkN_add]
  by_cases c : w = yMain
  · rw [if_pos c]
    have e1 : (gAdd P.1 w sr a d).2.1 P.1.2.2.2.2 = sr := if_pos rfl
    have e2 : (gAdd P.1 w sr a d).2.2.2.1 P.1.2.2.2.2 = d := if_pos rfl
    have e3 : (gAdd P.1 w sr a d).1 P.1.2.2.2.2 = w := if_pos rfl
    show (if (gAdd P.1 w sr a d).2.1 P.1.2.2.2.2 = 2 ∧ (gAdd P.1 w sr a d).2.2.2.1 P.1.2.2.2.2 = 0 then f P.1.2.2.2.2 else e) = _
    rw [e1, e2]
    by_cases c2 : sr = 2 ∧ d = 0
    · rw [if_pos c2, if_pos ⟨c, c2⟩]
    · rw [if_neg c2, if_neg (fun h => c2 h.2)]
      cases hl : lkN P.1.1 yMain P.1.2.2.2.2 with
      | none => rfl
      | some m =>
        obtain ⟨l1, l2⟩ := lkN_lt hl
        exact absurd (show (gAdd P.1 w sr a d).1 m = (gAdd P.1 w sr a d).1 P.1.2.2.2.2 by rw [e3, c, ← l2]; exact if_neg (by omega)) (hd m P.1.2.2.2.2 l1 (Nat.lt_succ_self _))
  · rw [if_neg c, if_neg (fun h => c h.1)]
    cases hl : lkN P.1.1 yMain P.1.2.2.2.2 with
    | none => rfl
    | some m =>
      obtain ⟨l1, l2⟩ := lkN_lt hl
      have e1 : (gAdd P.1 w sr a d).2.1 m = P.1.2.1 m := if_neg (by omega)
      have e2 : (gAdd P.1 w sr a d).2.2.2.1 m = P.1.2.2.2.1 m := if_neg (by omega)
      show (if (gAdd P.1 w sr a d).2.1 m = 2 ∧ (gAdd P.1 w sr a d).2.2.2.1 m = 0 then f m else e) = (if P.1.2.1 m = 2 ∧ P.1.2.2.2.1 m = 0 then f m else e)
      rw [e1, e2]
theorem mnF_cong {α : Type} {P : yP} {f g : Nat → α} {e : α} (h : ∀ m, m < P.1.2.2.2.2 → f m = g m) : mnF P f e = mnF P g e := by
  unfold mnF
  cases hl : lkN P.1.1 yMain P.1.2.2.2.2 with
  | none => rfl
  | some m =>
    show (if P.1.2.1 m = 2 ∧ P.1.2.2.2.1 m = 0 then f m else e) = (if P.1.2.1 m = 2 ∧ P.1.2.2.2.1 m = 0 then g m else e)
    rw [h m (lkN_lt hl).1]
def yEnd (x : Nat → Int32) (n tc : Nat) : Nat → yP → yTok → Nat → yP
  | 0, P, _, _ => P
  | f + 1, P, tk, c => if tk.2.2.1 = 58 then P else match yDecl x n tc P tk c with
    | .ok u => yEnd x n tc f u.1 u.2.1 u.2.2
    | .error _ => P
theorem yEnd_s {x : Nat → Int32} {n tc f : Nat} {P : yP} {tk : yTok} {c : Nat} {u : yP × yTok × Nat} (hk : tk.2.2.1 ≠ 58) (h : yDecl x n tc P tk c = .ok u) : yEnd x n tc (f + 1) P tk c = yEnd x n tc f u.1 u.2.1 u.2.2 := by
  rw [yEnd, if_neg hk, h]
theorem yEnd_ext {x : Nat → Int32} {n tc : Nat} : ∀ (f : Nat) (P : yP) (tk : yTok) (c : Nat), yExt P (yEnd x n tc f P tk c) := by
  intro f
  induction f with
  | zero => intro P tk c; exact yExt_refl
  | succ f ih =>
    intro P tk c
    rw [yEnd]
    by_cases e : tk.2.2.1 = 58
    · rw [if_pos e]; exact yExt_refl
    · rw [if_neg e]
      cases h1 : yDecl x n tc P tk c with
      | error e => exact yExt_refl
      | ok v => exact yExt_trans (yDecl_ext (P' := v.1) (t' := v.2.1) (c' := v.2.2) h1) (ih v.1 v.2.1 v.2.2)
/-- FUNCTION g's rows -/
def fnR (E : yP) (q : Nat) (z : zSt) (g : Nat) : Prop := ∃ m A r, E.1.2.2.2.1 g = nI m ∧ m ≤ 8 ∧ E.2.2.2.1 g = fN 20 0 0 A fZ fZ ∧ zA z (6 * q - 21) (nst E g) = 19 ∧ zA z (6 * q - 20) (nst E g) = nI m ∧ zA z (6 * q - 19) (nst E g) = r ∧ zA z (6 * q - 18) (nst E g) = nI (E.2.2.2.2 g) ∧ zA z (6 * q - 17) (nst E g) = -1 ∧ (crp z q (fun g => nI (nst E g)) m A).1 (nst E g + 1) (nst E (g + 1)) r
theorem fnR_cong {E : yP} {q g s : Nat} {τ u : zSt} (hq : q = 9 ∨ q = 10) (hk : E.1.2.1 g = 2) (hs : nst E (g + 1) ≤ s) (hf : ∀ a i, 6 * q - 21 ≤ a → a ≤ 6 * q - 16 → i < s → zA u a i = zA τ a i) (h : fnR E q τ g) : fnR E q u g := by
  obtain ⟨m, A, r, h1, h2, h3, h4, h5, h6, h7, h8, h9⟩ := h
  have hlt : nst E g < s := by
    rw [nst_s hk, h3, cN_N] at hs
    omega
  refine ⟨m, A, r, h1, h2, h3, ?_, ?_, ?_, ?_, ?_, (crp_frame (fnd' := fun g => nI (nst E g)) hq A).1 _ _ _ (fun a m a1 a2 a3 a4 => hf a m a1 a2 (by omega)) h9⟩
  · rw [hf _ _ (by omega) (by omega) hlt]; exact h4
  · rw [hf _ _ (by omega) (by omega) hlt]; exact h5
  · rw [hf _ _ (by omega) (by omega) hlt]; exact h6
  · rw [hf _ _ (by omega) (by omega) hlt]; exact h7
  · rw [hf _ _ (by omega) (by omega) hlt]; exact h8
/-- what a program is in the class's rows -/
def PCv (ln : Nat → Nat) (E : yP) (q : Nat) (P : yP) (z : zSt) : Prop := zI z q 2 = nI P.2.1 ∧ zI z q 3 = mnF P (fun m => nI (nst E m)) (-1) ∧ cdC ln q z 0 [32, mnF P (fun m => nI (szN E m)) 0, 0, 0] ∧ cdC ln q z 4 (prF E P.1.2.2.2.2) ∧ (∀ g, g < P.1.2.2.2.2 → P.1.2.1 g = 2 → fnR E q z g)
theorem gn_20 {st : Nat → Int32} {np : Int32} {A : fT} {p : Nat} : (gn st np (fN 20 0 0 A fZ fZ)).2 p = (gn st np A).2 p := by
  rw [gn_N]
  rfl
section
variable {ln : Nat → Nat} {q cc : Nat} {E P P' : yP} {w : Int64} {s : Nat} {σ z : zSt}
theorem PCv_gl {sr a d : Int32} (hL : LN ln q cc) (hE : yExt P' E) (h1 : P'.1 = gAdd P.1 w sr a d) (hd : ∀ i j, i < j → j < P'.1.2.2.2.2 → P'.1.1 i ≠ P'.1.1 j) (hsr : sr ≠ 2) (h : PCv ln E q P σ) (h2 : zI z q 2 = nI P'.2.1) (h3 : zI z q 3 = zI σ q 3) (h4 : ∀ a i, 21 ≤ a → zA z a i = zA σ a i) : PCv ln E q P' z := by
  have hq := hL.1
  obtain ⟨p1, p2, p3, p4, p5⟩ := h
  have hn : P'.1.2.2.2.2 = P.1.2.2.2.2 + 1 := by rw [h1]; rfl
  have hkn : P'.1.2.1 P.1.2.2.2.2 = sr := by rw [h1]; exact if_pos rfl
  have hke := (hE.1.2 P.1.2.2.2.2 (by omega)).2.1
  refine ⟨h2, ?_, ?_, ?_, ?_⟩
  · rw [h3, p2, mnF_add h1 hd, if_neg (fun h => hsr h.2.1)]
  · rw [mnF_add h1 hd, if_neg (fun h => hsr h.2.1)]
    exact cdC_keep p3 (fun i _ _ => h4 _ _ (by omega))
  · rw [hn, prF, hke, hkn, if_neg hsr, List.append_nil]
    exact cdC_keep p4 (fun i _ _ => h4 _ _ (by omega))
  · intro g hg hk
    by_cases e : g = P.1.2.2.2.2
    · rw [e, hkn] at hk; exact absurd hk hsr
    · have hk2 : P.1.2.1 g = 2 := by
        rw [h1] at hk
        exact (if_neg e).symm.trans hk
      refine fnR_cong hq ((hE.1.2 g hg).2.1.trans hk) (Nat.le_refl _) (fun a i a1 a2 _ => h4 a i (by omega)) (p5 g (by omega) hk2)
theorem PCv_fn {m ms s' : Nat} {A : fT} {r : Int32} (hL : LN ln q cc) (hE : yExt (fnP P w m A ms) E) (hd : ∀ i j, i < j → j < (fnP P w m A ms).1.2.2.2.2 → (fnP P w m A ms).1.1 i ≠ (fnP P w m A ms).1.1 j) (hp : P.2.2.1 = szN P P.1.2.2.2.2) (hm : m ≤ 8) (h : PCv ln E q P σ) (h2 : zI z q 2 = zI σ q 2) (h3 : zI z q 3 = (if w = yMain ∧ m = 0 then nI (nst P P.1.2.2.2.2) else zI σ q 3)) (h4 : 1 < ln (q + 36) → zA z (q + 36) 1 = if w = yMain ∧ m = 0 then nI P.2.2.1 else zA σ (q + 36) 1)
    (h5 : ∀ a i, ((6 * q - 21 ≤ a ∧ a ≤ 6 * q - 16 ∧ i < nst P P.1.2.2.2.2) ∨ (a = q + 36 ∧ i < P.2.2.1 ∧ i ≠ 1)) → zA z a i = zA σ a i) (h6 : cdC ln q z P.2.2.1 ([37, nI ms] ++ ((gn (fun g => nI (szN E g)) (nI m) A).2 (P.2.2.1 + 2) ++ [1, 0, 33, nI m]))) (h7 : zA z (6 * q - 21) (nst P P.1.2.2.2.2) = 19 ∧ zA z (6 * q - 20) (nst P P.1.2.2.2.2) = nI m ∧ zA z (6 * q - 19) (nst P P.1.2.2.2.2) = r ∧ zA z (6 * q - 18) (nst P P.1.2.2.2.2) = nI ms ∧ zA z (6 * q - 17) (nst P P.1.2.2.2.2) = -1)
    (h8 : (crp z q (fun g => nI (nst E g)) m A).1 (nst P P.1.2.2.2.2 + 1) s' r) : PCv ln E q (fnP P w m A ms) z ∧ s' = nst (fnP P w m A ms) (P.1.2.2.2.2 + 1) := by
  have hq := hL.1
  obtain ⟨p1, p2, p3, p4, p5⟩ := h
  have hn : (fnP P w m A ms).1.2.2.2.2 = P.1.2.2.2.2 + 1 := rfl
  have hX : yExt P E := yExt_trans yExt_fn hE
  have hng := yExt_nst hX (Nat.le_refl P.1.2.2.2.2)
  have hE1 := hE.1.2 P.1.2.2.2.2 (Nat.lt_succ_self _)
  have hE2 := hE.2 P.1.2.2.2.2 (Nat.lt_succ_self _)
  have hkn : E.1.2.1 P.1.2.2.2.2 = 2 := hE1.2.1.trans (if_pos rfl)
  have hdn : E.1.2.2.2.1 P.1.2.2.2.2 = nI m := hE1.2.2.2.trans (if_pos rfl)
  have htn : E.2.2.2.1 P.1.2.2.2.2 = fN 20 0 0 A fZ fZ := hE2.1.trans (if_pos rfl)
  have hmn : E.2.2.2.2 P.1.2.2.2.2 = ms := hE2.2.trans (if_pos rfl)
  have hcn := (crp_cnt A).1 _ _ _ h8
  have hcE : cN (fN 20 0 0 A fZ fZ) = 1 + cN A := by rw [cN_N, cN_isZ isZ_Z]; rfl
  have hsE : s' = nst E (P.1.2.2.2.2 + 1) := by rw [nst_s hkn, htn, hcE, hng.1, hcn]; omega
  have hm0 : (nI m = 0) ↔ m = 0 := by
    constructor
    · intro e
      have := congrArg Int32.toInt e
      rw [nI_toInt (by omega)] at this
      have z0 : (0 : Int32).toInt = 0 := rfl
      omega
    · intro e; rw [e]; rfl
  have hcond : (w = yMain ∧ (2 : Int32) = 2 ∧ nI m = 0) ↔ (w = yMain ∧ m = 0) := by rw [hm0]; exact ⟨fun a => ⟨a.1, a.2.2⟩, fun a => ⟨a.1, rfl, a.2⟩⟩
  have hsz : 4 ≤ P.2.2.1 := by
    rw [hp]
    exact szN_mono (P := P) (Nat.zero_le _)
  refine ⟨⟨h2.trans p1, ?_, ?_, ?_, ?_⟩, ?_⟩
  · rw [h3, mnF_add (P := P) (w := w) (sr := 2) (a := nI P.2.2.1) (d := nI m) rfl hd]
    by_cases c : w = yMain ∧ m = 0
    · rw [if_pos c, if_pos (hcond.mpr c), hng.1]
    · rw [if_neg c, if_neg (fun h => c (hcond.mp h)), p2]
  · rw [mnF_add (P := P) (w := w) (sr := 2) (a := nI P.2.2.1) (d := nI m) rfl hd]
    intro hlen j v hj
    have hlen2 : 4 ≤ ln (q + 36) := by simpa using hlen
    have hj4 : j < 4 := by
      have := (List.getElem?_eq_some_iff.mp hj).1
      simpa using this
    have p3' := fun j v hj => p3 (by simpa using hlen) j v hj
    rw [show 0 + j = j by omega]
    by_cases e : j = 1
    · subst e
      rw [h4 (by omega)]
      have hv : v = if w = yMain ∧ (2 : Int32) = 2 ∧ nI m = 0 then nI (szN E P.1.2.2.2.2) else mnF P (fun m => nI (szN E m)) 0 := by
        have : some (if w = yMain ∧ (2 : Int32) = 2 ∧ nI m = 0 then nI (szN E P.1.2.2.2.2) else mnF P (fun m => nI (szN E m)) 0) = some v := hj
        exact (Option.some.inj this).symm
      rw [hv]
      by_cases c : w = yMain ∧ m = 0
      · rw [if_pos c, if_pos (hcond.mpr c), hng.2, hp]
      · rw [if_neg c, if_neg (fun h => c (hcond.mp h))]
        have := p3' 1 _ rfl
        exact this
    · rw [h5 _ _ (Or.inr ⟨rfl, by omega, e⟩)]
      have := p3' j v (by
        rcases (show j = 0 ∨ j = 2 ∨ j = 3 by omega) with e0 | e0 | e0 <;> (rw [e0] at hj ⊢; exact hj))
      rw [show 0 + j = j by omega] at this
      exact this
  · rw [hn, prF, hkn, if_pos rfl]
    have hl := prF_len (P := E) P.1.2.2.2.2
    rw [hng.2, ← hp] at hl
    refine cdC_app (cdC_keep p4 (fun i i1 i2 => h5 _ _ (Or.inr ⟨rfl, by omega, by omega⟩))) ?_
    unfold fcd
    rw [hl, hmn, hdn, htn, gn_20, hng.2, ← hp]
    exact h6
  · intro g hg hk
    by_cases e : g = P.1.2.2.2.2
    · rw [e]
      refine ⟨m, A, r, hdn, hm, htn, ?_, ?_, ?_, ?_, ?_, ?_⟩
      · rw [hng.1]; exact h7.1
      · rw [hng.1]; exact h7.2.1
      · rw [hng.1]; exact h7.2.2.1
      · rw [hng.1, hmn]; exact h7.2.2.2.1
      · rw [hng.1]; exact h7.2.2.2.2
      · rw [hng.1, ← hsE]; exact h8
    · have hg2 : g < P.1.2.2.2.2 := by omega
      have hk2 : P.1.2.1 g = 2 := ((yExt_fn (P := P) (w := w) (m := m) (A := A) (ms := ms)).1.2 g hg2).2.1.symm.trans hk
      exact fnR_cong hq ((hX.1.2 g hg2).2.1.trans hk2) (nst_mono (P := E) (show g + 1 ≤ P.1.2.2.2.2 by omega)) (fun a i a1 a2 a3 => h5 a i (Or.inl ⟨a1, a2, by rw [hng.1] at a3; exact a3⟩)) (p5 g hg2 hk2)
  · rw [hsE]
    exact (yExt_nst hE (Nat.le_refl _)).1
end
