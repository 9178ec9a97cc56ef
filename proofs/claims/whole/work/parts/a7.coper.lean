/-! THE CLASS: a sign's part -/
def EBc (ns : Nat) : Nat := 20000 + 5000 * (41 - ns)
theorem cdC_fX {ln : Nat → Nat} {q s p t p0 : Nat} {τ u : zSt} {l : List Int32} (hq : q = 9 ∨ q = 10) (hf : fX q s p t τ u) (hp : p0 + l.length ≤ p) (h : cdC ln q τ p0 l) : cdC ln q u p0 l := by
  intro hl j v hj
  have hjl : j < l.length := by
    by_cases e : j < l.length
    · exact e
    · rw [List.getElem?_eq_none (by omega)] at hj; cases hj
  rw [hf.2.2.2.1 (q + 36) (p0 + j) (by unfold eA; omega)]
  exact h hl j v hj
theorem cdC_app {ln : Nat → Nat} {q p : Nat} {σ : zSt} {l r : List Int32} (h : cdC ln q σ p l) (h2 : cdC ln q σ (p + l.length) r) : cdC ln q σ p (l ++ r) := by
  intro hl j v hj
  rw [List.length_append] at hl
  by_cases e : j < l.length
  · rw [List.getElem?_append_left e] at hj
    exact h (by omega) j v hj
  · rw [List.getElem?_append_right (by omega)] at hj
    have := h2 (by omega) _ v hj
    rw [show p + l.length + (j - l.length) = p + j by omega] at this
    exact this
theorem cdC_nil {ln : Nat → Nat} {q p : Nat} {σ : zSt} : cdC ln q σ p [] := fun _ j v h => by simp at h
def isNd (t : fT) : Prop := ∃ k v w A B C, t = fN k v w A B C
def miI : Option Nat → Int32
  | none => -1
  | some p => nI p
section
variable (ln : Nat → Nat) (q : Nat) (x : Nat → Int32) (n tc : Nat) (G : gE) (L : lE) (np : Nat) (fnd st : Nat → Int32)
/-- what comes of an E -/
def EQ (tk : yTok) (ns s p t D : Nat) (cl : Int32) (τ : zSt) (res : Except Int32 (fT × yTok × Nat)) (r : Int32) (z : zSt) : Prop :=
  (∀ e, res = .error e → e ≠ 0 ∧ DS ln q e (EBc ns) z ∧ fR q τ z) ∧
  (∀ A tk' c', res = .ok (A, tk', c') → ∃ s', CV ln q x n tc G L np fnd (-1) tk' c' ns s' (p + (gl A).2) t z ∧ fX q s p t τ z ∧ (crp z q fnd np A).1 s s' r ∧ isNd A ∧ cdC ln q z p ((gn st (nI np) A).2 p) ∧ CB n tc tk' c' ns s' (p + (gl A).2) D ∧ p + (gl A).2 ≤ 4 + 20 * (s' + D) ∧ yEnds cl tk'.2.2.1 = true ∧ tk.2.1 < tk'.2.1)
/-- what comes of a sign's part; a NAME that is no variable but stands like one is kept -/
def OQ (tk : yTok) (ns s p t D : Nat) (τ : zSt) (res : Except Int32 (fT × yTok × Nat × Option Nat)) (r : Int32) (z : zSt) : Prop :=
  (∀ e, res = .error e → e ≠ 0 ∧ DS ln q e (EBc (ns + 1) + 10) z ∧ fR q τ z) ∧
  (∀ A tk' c' mi, res = .ok (A, tk', c', mi) → ∃ s', CV ln q x n tc G L np fnd (miI mi) tk' c' ns s' (p + (gl A).2) t z ∧ fX q s p t τ z ∧ (crp z q fnd np A).1 s s' r ∧ isNd A ∧ cdC ln q z p ((gn st (nI np) A).2 p) ∧ CB n tc tk' c' ns s' (p + (gl A).2) D ∧ p + (gl A).2 ≤ 4 + 20 * (s' + D) ∧ tk.2.1 < tk'.2.1 ∧ (∀ pl, mi = some pl → pl ≤ 512))
/-- the E within: what K does is what R says -/
def KLv (R : yRec) (K : Int32 → zSt → Option (Int32 × zSt)) : Prop := ∀ ns cl tk c s p t D τ, CV ln q x n tc G L np fnd (-1) tk c ns s p t τ → CB n tc tk c ns s p D → p ≤ 4 + 20 * (s + D) → t ≤ 11 * ns → (cl = 50 ∨ cl = 54 ∨ cl = 55 ∨ cl = 56) → R ns cl tk c ≠ .error 0 → wp (K cl τ) (EQ ln q x n tc G L np fnd st tk ns s p t D cl τ (R ns cl tk c))
end
section
variable {ln : Nat → Nat} {N M q cc : Nat} {x : Nat → Int32} {n tc : Nat} {G : gE} {L : lE} {np : Nat} {fnd st : Nat → Int32} {tk : yTok} {c ns s p t D : Nat} {σ : zSt}
theorem OQ_e {e : Int32} {z τ : zSt} {r : Int32} {b : Nat} {res : Except Int32 (fT × yTok × Nat × Option Nat)} (hr : res = .error e) (he : e ≠ 0) (h : DS ln q e b z) (hf : fR q τ z) (hb : b ≤ EBc (ns + 1) + 10) : OQ ln q x n tc G L np fnd st tk ns s p t D τ res r z := by
  refine ⟨fun e' h' => ?_, fun A tk' c' mi h' => by rw [hr] at h'; cases h'⟩
  rw [hr] at h'
  cases h'
  exact ⟨he, DS_le h hb, hf⟩
theorem EB_ge : 20000 ≤ EBc ns := by unfold EBc; omega
theorem opNumC {R : yRec} (hL : LN ln q cc) (hn : n ≤ 512) (hN : 5000 ≤ N) (hG : G.2.2.2.2 + L.2.2 ≤ n) (ht : t ≤ 512) (h : CV ln q x n tc G L np fnd (-1) tk c ns s p t σ) (hB : CB n tc tk c ns s p D) (hP : p ≤ 4 + 20 * (s + D)) (hk : tk.2.2.1 = 41) :
    wp (fX2_number ln N M σ) (OQ ln q x n tc G L np fnd st tk ns s p t D σ (yOper x n tc R G L ns tk c)) := by
  have hEB := EB_ge (ns := ns + 1)
  have hB0 := hB
  obtain ⟨b1, b2, b3, b4, b5, b6⟩ := hB
  have hp1 := b1.1
  have hp2 := b1.2.1
  have hlt := tk_ne b1 hk (by decide)
  have hnl := h.1.1.2.1
  have hy : yOper x n tc R G L ns tk c = xb (fo tc c tk.2.1) (fun c1 => if (2147483647 : Int64) < tk.2.2.2 then er 11 tk.2.1 else xb (cm x n tk) (fun t1 => .ok (fN 1 tk.2.2.2.toInt32.toInt 0 fZ fZ fZ, t1, c1, none))) := by
    unfold yOper
    rw [if_pos hk]
  rw [hy]
  have dead : ∀ e z (τ : zSt) (res : Except Int32 (fT × yTok × Nat × Option Nat)), res = .error e → e ≠ 0 → DS ln q e 11000 z → fR q τ z → wp (fX2_number_b37 ln N M z) (OQ ln q x n tc G L np fnd st tk ns s p t D τ res) := fun e z τ res hr he hd hf => wp_mono (num37D hL (by omega) hd) (fun r y hy => OQ_e hr he hy.1 (fR_trans hf hy.2) (by omega))
  unfold fX2_number
  rw [h.2.1.2.1]
  refine stTake (D := D) hL hn hG ht (by omega) h hB0 ?_ ?_
  · intro c1 hfo hV1 hF1 hB1
    rw [hfo, xb_k]
    have h6 : zL (zsI σ 3 3 (nI (tc - c1))) 1 6 = tk.2.2.2 := hV1.2.1.2.2.2.2 hk
    revert hV1 hF1 h6
    generalize zsI σ 3 3 (nI (tc - c1)) = s1
    intro hV1 hF1 h6
    rw [h6]
    by_cases hg : (2147483647 : Int64) < tk.2.2.2
    · rw [if_neg (fun z => (Int64.not_lt.mpr ((lg_cmp_le _ _).mp z)) hg), if_pos hg, failHL hV1.2.2.1, hV1.2.1.2.1, obd_s]
      have he0 : (11 : Int32) + 16 * nI tk.2.1 ≠ 0 := er_ne erK11 (by omega)
      have hE := CV_ER (k := 0) hL hn hG ht hV1 hB1 he0
      exact dead _ _ _ _ rfl he0 hE.1 (fR_trans (fX_R hL.1 hF1) hE.2)
    · rw [if_pos ((lg_cmp_le _ _).mpr (Int64.not_lt.mp hg)), if_neg hg]
      unfold fX2_number_b37
      rw [bnd_e, rbC hL.1 hV1.1.2.1.2.1, addC2 (by have := hL.2.2.2.2.2.2.2.2.2.2.2; omega) hV1.2.2.2.2.2.2.1 (by omega), obd_s, h6]
      obtain ⟨hV2, hF2⟩ := ck_CV (l := [1, tk.2.2.2.toInt32]) hL hV1
      have hcd := ckS_cd (ln := ln) (q := q) (p := p) (σ := s1) (l := [1, tk.2.2.2.toInt32])
      revert hV2 hF2 hcd
      generalize ckS ln q s1 p [1, tk.2.2.2.toInt32] = s2
      intro hV2 hF2 hcd
      have hV2' : CV ln q x n tc G L np fnd (-1) tk c1 ns s (p + 2) t s2 := hV2
      refine stCome (D := D) hL hn hN hG ht hV2' ⟨b1, hB1.2.1, b3, b4, b5, by omega⟩ ?_ ?_
      · intro t1 hcm hV3 hF3 hB3 hpl
        rw [hcm, xb_k, rbT hL.1 hV3.1.2.1.1, treeC hL hV3.2.2.2.2.2.1 (by have := hB3.1.1; have := hB3.1.2.1; omega), obd_s]
        obtain ⟨hV4, hF4⟩ := ta_CV (k := 1) (a := tk.2.2.2.toInt32) (b := -1) (d := -1) hL hV3
        have hF : fX q s p t σ (taS (cS x n tk.1 s2) q s 1 tk.2.2.2.toInt32 (-1) (-1)) := fX_trans (fX_trans (fX_trans hF1 hF2 (Nat.le_refl _) (Nat.le_refl _) (Nat.le_refl _)) hF3 (Nat.le_refl _) (by omega) (Nat.le_refl _)) hF4 (Nat.le_refl _) (by omega) (Nat.le_refl _)
        have hg2 : (gl (fN 1 tk.2.2.2.toInt32.toInt 0 fZ fZ fZ)).2 = 2 := by rw [gl_N]; rfl
        refine wp_s ⟨fun e h' => (by cases h'), fun A tk' c' mi h' => ?_⟩
        cases h'
        rw [hg2]
        refine ⟨s + 1, hV4, hF, ?_, ⟨_, _, _, _, _, _, rfl⟩, ?_, ⟨hB3.1, hB3.2.1, b3, b4, by omega, by omega⟩, by omega, by omega, fun pl h' => (by cases h')⟩
        · have := crp_0 (τ := cS x n tk.1 s2) (q := q) (s := s) (fnd := fnd) (np := np) (k := 1) (v := tk.2.2.2.toInt32.toInt) (w := 0) hL.1 (by have := hL.2.1; have := hB3.1.1; have := hB3.1.2.1; omega) (by omega)
          rw [show cKd 1 = 1 from rfl, show cVa fnd np 1 tk.2.2.2.toInt32.toInt = tk.2.2.2.toInt32 from Int32.ofInt_toInt _] at this
          exact this
        · rw [gn_N]
          show cdC ln q _ p [1, Int32.ofInt tk.2.2.2.toInt32.toInt]
          rw [Int32.ofInt_toInt]
          exact cdC_fX hL.1 hF4 (Nat.le_refl _) (cdC_fX hL.1 hF3 (Nat.le_refl _) hcd)
      · intro e z hcm he0 hE
        rw [hcm, xb_e, rbT hL.1 hE.1.2.2.2.1.1]
        refine wp_ret (wp_mono (treeD hL hE.1) (fun r y hy => OQ_e rfl he0 hy.1 (fR_trans (fX_R hL.1 hF1) (fR_trans (fX_R hL.1 hF2) (fR_trans hE.2 hy.2))) (by omega)))
  · intro e z hfo he0 hE
    rw [hfo, xb_e]
    split
    · exact dead e z σ _ rfl he0 hE.1 hE.2
    · rw [failHD hE.1, obd_s]
      exact dead e z σ _ rfl he0 hE.1 hE.2
end
