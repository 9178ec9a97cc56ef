/-! THE CLASS: an E -/
def srt : yOps → Prop
  | [] => True
  | o :: r => 0 < rk o.1 ∧ (∀ a ∈ r, rk a.1 < rk o.1) ∧ srt r
theorem srt_pos : ∀ {ops : yOps}, srt ops → ∀ o ∈ ops, 0 < rk o.1 := by
  intro ops
  induction ops with
  | nil => intro _ o ho; exact (List.not_mem_nil ho).elim
  | cons a r ih =>
    rintro ⟨h1, h2, h3⟩ o ho
    rcases List.mem_cons.mp ho with e | e
    · rw [e]; exact h1
    · exact ih h3 o e
theorem srt_len : ∀ {ops : yOps} {k : Nat}, srt ops → (∀ a ∈ ops, rk a.1 < k) → ops.length < k ∨ ops = [] := by
  intro ops
  induction ops with
  | nil => intro k _ _; exact Or.inr rfl
  | cons a r ih =>
    rintro k ⟨h1, h2, h3⟩ hk
    have hak := hk a (List.mem_cons_self ..)
    rcases ih h3 h2 with e | e
    · exact Or.inl (by rw [List.length_cons]; omega)
    · rw [e]; exact Or.inl (by show 1 < k; omega)
theorem srt_10 {ops : yOps} (h : srt ops) : ops.length ≤ 10 := by
  rcases srt_len (k := 11) h (fun a _ => by have := rk_le a.1; omega) with e | e
  · omega
  · rw [e]; show 0 ≤ 10; omega
theorem jn_srt {k : Nat} : ∀ {ops : yOps} {t : fT}, srt ops → srt (jnA k ops t).1 ∧ (∀ a ∈ (jnA k ops t).1, rk a.1 < k) ∧ (jnA k ops t).1.length ≤ ops.length := by
  intro ops
  induction ops with
  | nil => intro t _; exact ⟨trivial, fun a ha => (List.not_mem_nil ha).elim, Nat.le_refl _⟩
  | cons o r ih =>
    rintro t ⟨h1, h2, h3⟩
    unfold jnA
    by_cases e : rk o.1 < k
    · rw [if_pos e]
      refine ⟨⟨h1, h2, h3⟩, fun a ha => ?_, Nat.le_refl _⟩
      rcases List.mem_cons.mp ha with q | q
      · rw [q]; exact e
      · have := h2 a q; omega
    · rw [if_neg e]
      obtain ⟨a, b, c⟩ := ih (t := opN o.1 o.2 t) h3
      exact ⟨a, b, by rw [List.length_cons]; omega⟩
section
variable {ln : Nat → Nat} {N M q cc : Nat} {x : Nat → Int32} {n tc : Nat} {G : gE} {L : lE} {np : Nat} {fnd st : Nat → Int32} {mu : Int32} {tk : yTok} {c ns s p t D : Nat} {σ : zSt} {base lo p0 : Nat}
theorem joinC {k : Nat} (hL : LN ln q cc) (hn : n ≤ 512) (hk : k ≤ 10) : ∀ (ops : yOps) (B : fT) (s s2 p t f : Nat) (nd : Int32) (σ : zSt), CV ln q x n tc G L np fnd mu tk c ns s2 (p + (gl B).2) t σ → rOc ln q fnd st np σ base lo p0 ops t s p → (∀ o ∈ ops, 0 < rk o.1) → (crp σ q fnd np B).1 s s2 nd → isNd B → cdC ln q σ p ((gn st (nI np) B).2 p) → t ≤ 512 → ops.length < f → s2 + ops.length ≤ ln 15 → p + (gl B).2 + 8 * ops.length + 8 ≤ 10500 →
    ∃ r' z t' s' p' s3, fX2_joinAll_b11 ln N M f (nI base) (nI k) nd (nI t - 1) σ = some (r', z) ∧ CV ln q x n tc G L np fnd mu tk c ns s3 (p' + (gl (jnA k ops B).2).2) t' z ∧ (∀ T, fX q s2 p0 T σ z) ∧ rOc ln q fnd st np z base lo p0 (jnA k ops B).1 t' s' p' ∧ (crp z q fnd np (jnA k ops B).2).1 s' s3 r' ∧ isNd (jnA k ops B).2 ∧ cdC ln q z p' ((gn st (nI np) (jnA k ops B).2).2 p') ∧ s3 + (jnA k ops B).1.length = s2 + ops.length ∧ p' + (gl (jnA k ops B).2).2 ≤ p + (gl B).2 + 8 * (ops.length - (jnA k ops B).1.length) := by
  have e21 := hL.2.2.2.2.2.2.2.1
  intro ops
  induction ops with
  | nil =>
    intro B s s2 p t f nd σ h hr _ hc hnd hcd ht hf _ _
    obtain ⟨f, rfl⟩ : ∃ g, f = g + 1 := ⟨f - 1, by omega⟩
    have hr2 := hr
    obtain ⟨e, -, -⟩ := hr2
    refine ⟨nd, σ, t, s, p, s2, ?_, h, fun _ => fX_refl, hr, hc, hnd, hcd, rfl, Nat.le_refl _⟩
    rw [e]
    exact join11E (by omega)
  | cons o r ih =>
    intro B s s2 p t f nd σ h hr hpos hc hnd hcd ht hf hs2 hpb
    obtain ⟨f, rfl⟩ : ∃ g, f = g + 1 := ⟨f - 1, by omega⟩
    have hr0 := hr
    rw [List.length_cons] at hf hs2 hpb
    obtain ⟨tp', s', p', rfl, h1, h2, h3, h4, h5⟩ := hr
    have hro := hpos o (List.mem_cons_self ..)
    have hno : isOne o.1 = false := by
      cases hh : isOne o.1
      · rfl
      · have := isOne_rk hh; omega
    obtain ⟨f1, f2, f3, f4, f5⟩ := h5 hno
    have hle := rOc_le h1
    rw [fX2_joinAll_b11, nI_pred, e21, if_neg (Int32.not_lt.mpr ((nI_le' (by omega) (by omega)).mpr (by omega))), if_neg (nI_pos (by omega)), if_neg (fun z => by rw [nI_le' (by omega) (by omega)] at z; omega), nI_clamp (by omega), if_neg (ixN (by omega) (by omega)), bnd_e, h3, rankC, obd_s]
    have hrl := rk_le o.1
    unfold jnA
    by_cases e : rk o.1 < k
    · rw [if_neg (fun z => by rw [nI_le' (by omega) (by omega)] at z; omega), if_pos e]
      exact ⟨nd, σ, tp' + 1, s, p, s2, rfl, h, fun _ => fX_refl, hr0, hc, hnd, hcd, rfl, Nat.le_add_right _ _⟩
    · rw [if_pos ((nI_le' (by omega) (by omega)).mpr (by omega)), if_neg e]
      obtain ⟨z, z1, z2, z3, z4, z5, z6, z7⟩ := join1 (N := N) (M := M) hL hn hro h (by omega) hr0 h1 f1 f3 f4 f5 h2 hc hcd (by omega) (fX2_joinAll_b11 ln N M f) (nI k)
      rw [z1]
      have hgo : (gl (opN o.1 o.2 B)).2 ≤ (gl o.2).2 + (hdL o.1 (p' + (gl o.2).2)).length + (gl B).2 + 8 := by
        unfold opN hdL
        by_cases c9 : o.1 = 9
        · rw [if_pos c9, if_neg (by rw [c9]; decide), if_pos c9, gl_N]
          show (gl o.2).2 + (6 + ((gl B).2 + 8)) ≤ (gl o.2).2 + 6 + (gl B).2 + 8
          omega
        · rw [if_neg c9]
          by_cases c8 : o.1 = 8
          · rw [if_pos c8, if_pos c8, gl_N]
            show (gl o.2).2 + (2 + ((gl B).2 + 8)) ≤ (gl o.2).2 + 2 + (gl B).2 + 8
            omega
          · rw [if_neg c8, if_neg c8, if_neg c9, gl_N]
            show (gl o.2).2 + ((gl B).2 + 1) ≤ (gl o.2).2 + 0 + (gl B).2 + 8
            omega
      obtain ⟨r', y, t', s'', p'', s3, g1, g2, g3, g4, g5, g6, g7, g8, g9⟩ := ih (opN o.1 o.2 B) s' (s2 + 1) p' tp' f (nI s2) z z2 z4 (fun a ha => hpos a (List.mem_cons_of_mem _ ha)) z5 z6 z7 (by omega) (by omega) (by omega) (by omega)
      have hjl := (jnA k r (opN o.1 o.2 B)).1.length
      have hlen : (jnA k r (opN o.1 o.2 B)).1.length ≤ r.length := by
        have key : ∀ (r : yOps) (t : fT), (jnA k r t).1.length ≤ r.length := by
          intro r
          induction r with
          | nil => intro t; exact Nat.le_refl _
          | cons a r ih => intro t; unfold jnA; split; exact Nat.le_refl _; rw [List.length_cons]; have := ih (opN a.1 a.2 t); omega
        exact key _ _
      refine ⟨r', y, t', s'', p'', s3, g1, g2, fun T => fX_trans (fX_trans (fX_refl (s := s2) (p := p0) (t := T)) (z3 T) (Nat.le_refl _) hle.2.2 (Nat.le_refl _)) (g3 T) (by omega) (Nat.le_refl _) (Nat.le_refl _), g4, g5, g6, g7, by rw [List.length_cons]; omega, ?_⟩
      rw [List.length_cons]
      omega
/-- whether the E may end or go on here -/
theorem settle60C {v : Int32} (hV : CV ln q x n tc G L np fnd mu tk c ns s p t σ) : mu = -1 → fX2_settle_b60 ln N M σ = some ((), σ) := by
  intro h
  unfold fX2_settle_b60
  rw [hV.2.2.2.2.2.2.2.2, h, if_pos (by decide)]
theorem settleC {cl : Int32} {mi : Option Nat} {Q : Unit → zSt → Prop} (hL : LN ln q cc) (hn : n ≤ 512) (hG : G.2.2.2.2 + L.2.2 ≤ n) (ht : t ≤ 512) (hV : CV ln q x n tc G L np fnd (miI mi) tk c ns s p t σ) (hB : CB n tc tk c ns s p D) (hmi : ∀ pl, mi = some pl → pl ≤ 512)
    (hok : mi = none → ¬ (yEnds cl tk.2.2.1 = false ∧ rk tk.2.2.1 = 0) → Q () σ)
    (her2 : ∀ z, yEnds cl tk.2.2.1 = false ∧ rk tk.2.2.1 = 0 → DS ln q (2 + 16 * nI tk.2.1) 11000 z → fR q σ z → Q () z)
    (her5 : ∀ pl z, ¬ (yEnds cl tk.2.2.1 = false ∧ rk tk.2.2.1 = 0) → mi = some pl → DS ln q (5 + 16 * nI pl) 11000 z → fR q σ z → Q () z) : wp (fX2_settle ln N M cl σ) Q := by
  have hp1 := hB.1.1
  have hp2 := hB.1.2.1
  have hend : ∀ (hns : ¬ (yEnds cl tk.2.2.1 = false ∧ rk tk.2.2.1 = 0)), wp (fX2_settle_b60 ln N M σ) Q := by
    intro hns
    cases mi with
    | none =>
      rw [settle60C (v := 0) hV rfl]
      exact wp_s (hok rfl hns)
    | some pl =>
      have hpl := hmi pl rfl
      unfold fX2_settle_b60
      have h57 : zI σ 5 7 = nI pl := hV.2.2.2.2.2.2.2.2
      rw [h57, if_neg (nI_pos (by omega)), failC _ _ hV.2.2.1, obd_s, bnd_e]
      have he0 : (5 : Int32) + 16 * nI pl ≠ 0 := er_ne erK5 (by omega)
      have hE := CV_ER (k := 0) hL hn hG ht hV hB he0
      exact wp_s (her5 pl _ hns rfl (DS_I hL.1 hE.1 (by unfold dI; omega)) (fR_I hE.2 (by unfold okI; omega)))
  have hbad : yEnds cl tk.2.2.1 = false → wp (fX2_settle_b34 ln N M 0 σ) Q := by
    intro hy
    unfold fX2_settle_b34
    rw [if_pos rfl, rankC, obd_s, hV.2.1.2.2.1]
    have hrl := rk_le tk.2.2.1
    by_cases hr : rk tk.2.2.1 = 0
    · rw [if_pos (by rw [hr]; rfl), failHL hV.2.2.1, hV.2.1.2.1, obd_s]
      have he0 : (2 : Int32) + 16 * nI tk.2.1 ≠ 0 := er_ne erK2 (by omega)
      have hE := CV_ER (k := 0) hL hn hG ht hV hB he0
      exact wp_mono (settle60T hL.1 hE.1) (fun _ z hz => her2 z ⟨hy, hr⟩ hz.1.1 (fR_trans hE.2 hz.1.2))
    · rw [if_neg (show ¬ nI (rk tk.2.2.1) = 0 from fun z => hr ((nI_eq (by omega) (by omega)).mp (show nI (rk tk.2.2.1) = nI 0 from z)))]
      exact hend (fun z => hr z.2)
  have hgood : yEnds cl tk.2.2.1 = true → wp (fX2_settle_b34 ln N M 1 σ) Q := by
    intro hy
    unfold fX2_settle_b34
    rw [if_neg (by decide)]
    exact hend (fun z => by rw [hy] at z; cases z.1)
  unfold fX2_settle fX2_settle_b29 fX2_settle_b33
  rw [hV.2.1.2.2.1]
  by_cases e1 : tk.2.2.1 = cl
  · rw [if_pos e1]
    exact hgood (by unfold yEnds; rw [decide_eq_true_eq]; exact Or.inl e1)
  · rw [if_neg e1]
    by_cases e2 : cl = 55
    · rw [if_pos e2]
      by_cases e3 : tk.2.2.1 = 50
      · rw [if_pos e3]
        exact hgood (by unfold yEnds; rw [decide_eq_true_eq]; exact Or.inr ⟨e2, e3⟩)
      · rw [if_neg e3]
        exact hbad (by unfold yEnds; rw [decide_eq_false_iff_not]; rintro (z | z); exact e1 z; exact e3 z.2)
    · rw [if_neg e2]
      exact hbad (by unfold yEnds; rw [decide_eq_false_iff_not]; rintro (z | z); exact e1 z; exact e2 z.1)
/-- a sign of two parts waits -/
theorem twoC {ops : yOps} {J : fT} {s3 p' t' s' : Nat} {r : Int32} {Q : Unit → zSt → Prop} (hL : LN ln q cc) (hn : n ≤ 512) (hG : G.2.2.2.2 + L.2.2 ≤ n) (ht : t' < 512) (hV : CV ln q x n tc G L np fnd (-1) tk c ns s3 (p' + (gl J).2) t' σ) (hB : CB n tc tk c ns s3 (p' + (gl J).2) D) (hr : rOc ln q fnd st np σ base lo p0 ops t' s' p') (hc : (crp σ q fnd np J).1 s' s3 r) (hnd : isNd J) (hcd : cdC ln q σ p' ((gn st (nI np) J).2 p')) (hk : 0 < rk tk.2.2.1) (hpb : p' + (gl J).2 + 6 ≤ 10500)
    (hok : ∀ c1 z, fo tc c tk.2.1 = .ok c1 → CV ln q x n tc G L np fnd (-1) tk c1 ns s3 (p' + (gl J).2 + (hdL tk.2.2.1 (p' + (gl J).2)).length) (t' + 1) z → (∀ T, T ≤ t' → fX q s3 (p' + (gl J).2) T σ z) → rOc ln q fnd st np z base lo p0 ((tk.2.2.1, J) :: ops) (t' + 1) s3 (p' + (gl J).2 + (hdL tk.2.2.1 (p' + (gl J).2)).length) → c1 ≤ tc → Q () z)
    (her : ∀ e z, fo tc c tk.2.1 = .error e → e ≠ 0 → DS ln q e 11006 z → fR q σ z → Q () z) : wp (fX2_openTwo ln N M r σ) Q := by
  have hcc : ln (q + 36) ≤ 4096 := by have := hL.2.2.2.2.2.2.2.2.2.2.2; omega
  have hq := hL.1
  have hp1 := hB.1.1
  have hp2 := hB.1.2.1
  have hlJ := (gn_len st (nI np) J).2 p'
  have hno : isOne tk.2.2.1 = false := by
    cases hh : isOne tk.2.2.1
    · rfl
    · have := isOne_rk hh; omega
  unfold fX2_openTwo
  rw [bnd_e, bnd_e, hV.2.1.2.1, hV.2.1.2.2.1]
  refine stTake (D := D) hL hn hG (by omega) (by omega) hV hB ?_ ?_
  · intro c1 hfo hV1 hF1 hB1
    have hF1' : ∀ T, fX q s3 (p' + (gl J).2) T σ (zsI σ 3 3 (nI (tc - c1))) := fun T => fX_I fX_refl (by unfold eI; omega)
    have hc1 := crp_fX hL.1 hF1 (Nat.le_refl _) hc
    have hcd1 := cdC_fX hL.1 hF1 (by omega) hcd
    have hr1 := rOc_fX hL.1 hF1 (by have := (crp_cnt J).1 _ _ _ hc; omega) (by omega) (Nat.le_refl _) hr
    have hc1l := hB1.2.1
    clear hF1
    revert hV1 hF1' hc1 hcd1 hr1
    generalize zsI σ 3 3 (nI (tc - c1)) = s1
    intro hV1 hF1' hc1 hcd1 hr1
    -- what push leaves
    have fin : ∀ (y : zSt) (hole : Int32) (hd : List Int32), hdL tk.2.2.1 (p' + (gl J).2) = hd → CV ln q x n tc G L np fnd (-1) tk c1 ns s3 (p' + (gl J).2 + hd.length) t' y → (∀ T, fX q s3 (p' + (gl J).2) T s1 y) → cdC ln q y (p' + (gl J).2) hd → (tk.2.2.1 = 8 ∨ tk.2.2.1 = 9 → hole = nI (p' + (gl J).2 + hd.length - 1)) → wp (fX2_openTwo_b107 ln N M r tk.2.2.1 hole y) Q := by
      intro y hole hd hhd hVy hFy hcdy hhole
      unfold fX2_openTwo_b107
      obtain ⟨u1, u2, u3⟩ := pushC (N := N) (M := M) (a := tk.2.2.1) (b := r) (d := hole) hL hVy ht
      rw [u1, obd_s]
      have hr2 := rOc_fX hL.1 (hFy t') (by have := (crp_cnt J).1 _ _ _ hc; omega) (by omega) (Nat.le_refl _) hr1
      have hFp : ∀ T, T ≤ t' → fX q s3 (p' + (gl J).2) T y (zsI (zsA (zsA (zsA y 21 t' tk.2.2.1) 22 t' r) 23 t' hole) 5 6 (nI (t' + 1))) := fun T hT => fX_I (fX_A (fX_A (fX_A fX_refl (by unfold eA; omega)) (by unfold eA; omega)) (by unfold eA; omega)) (by unfold eI; omega)
      refine wp_s (hok c1 _ hfo (by rw [hhd]; exact u2) (fun T hT => fX_trans (fX_trans (hF1' T) (hFy T) (Nat.le_refl _) (Nat.le_refl _) (Nat.le_refl _)) (hFp T hT) (Nat.le_refl _) (Nat.le_refl _) (Nat.le_refl _)) ?_ hc1l)
      refine ⟨t', s', p', rfl, rOc_fX hL.1 (hFp t' (Nat.le_refl _)) (by have := (crp_cnt J).1 _ _ _ hc; omega) (by omega) (Nat.le_refl _) hr2, ht, ?_, fun e => (by rw [show isOne ((tk.2.2.1, J) : Int32 × fT).1 = isOne tk.2.2.1 from rfl, hno] at e; cases e), fun _ => ⟨?_, hnd, ?_, rfl, fun e => ?_⟩⟩
      · rw [zA_I, zA_A, if_neg (by omega), zA_A, if_neg (by omega), zA_A, if_pos ⟨rfl, rfl⟩]
      · rw [zA_I, zA_A, if_neg (by omega), zA_A, if_pos ⟨rfl, rfl⟩]
        exact crp_fX hL.1 (hFp t' (Nat.le_refl _)) (Nat.le_refl _) (crp_fX hL.1 (hFy t') (Nat.le_refl _) hc1)
      · rw [show ((tk.2.2.1, J) : Int32 × fT).1 = tk.2.2.1 from rfl, show ((tk.2.2.1, J) : Int32 × fT).2 = J from rfl, hhd]
        intro hl j v hj
        rw [zA_I, zA_A, if_neg (by omega), zA_A, if_neg (by omega), zA_A, if_neg (by omega)]
        refine cdC_app (cdC_fX hL.1 (hFy t') (by omega) hcd1) ?_ hl j v hj
        rw [hlJ]; exact hcdy
      · rw [zA_I, zA_A, if_pos ⟨rfl, rfl⟩, hhd]
        exact hhole e
    by_cases c8 : tk.2.2.1 = 8
    · rw [if_pos c8, rbC hL.1 hV1.1.2.1.2.1, addC2 hcc hV1.2.2.2.2.2.2.1 (by omega), obd_s]
      obtain ⟨hV2, -⟩ := ck_CV (l := [31, 0]) hL hV1
      rw [rbC hL.1 hV2.1.2.1.2.1, bnd_e, hV2.2.2.2.2.2.2.1, show p' + (gl J).2 + ([31, 0] : List Int32).length = (p' + (gl J).2 + 1) + 1 from rfl, nI_pred]
      exact fin _ _ [31, 0] (by unfold hdL; rw [if_pos c8]) hV2 (fun T => fX_ck fX_refl (Nat.le_refl _)) ckS_cd (fun _ => rfl)
    · rw [if_neg c8]
      by_cases c9 : tk.2.2.1 = 9
      · have e6 : nI (p' + (gl J).2) + 6 = nI (p' + (gl J).2 + 6) := nI_add _ 6
        rw [if_pos c9, rbC hL.1 hV1.1.2.1.2.1, rbC hL.1 hV1.1.2.1.2.1, hV1.2.2.2.2.2.2.1, e6, addC2 hcc hV1.2.2.2.2.2.2.1 (by omega), obd_s]
        obtain ⟨hV2, -⟩ := ck_CV (l := [31, nI (p' + (gl J).2 + 6)]) hL hV1
        rw [rbC hL.1 hV2.1.2.1.2.1, addC2 (p := p' + (gl J).2 + 2) hcc hV2.2.2.2.2.2.2.1 (by omega), obd_s]
        obtain ⟨hV3, -⟩ := ck_CV (p := p' + (gl J).2 + 2) (l := [1, 1]) hL hV2
        rw [rbC hL.1 hV3.1.2.1.2.1, addC2 (p := p' + (gl J).2 + 4) hcc hV3.2.2.2.2.2.2.1 (by omega), obd_s]
        obtain ⟨hV4, -⟩ := ck_CV (p := p' + (gl J).2 + 4) (l := [30, 0]) hL hV3
        have h3 : ∀ u : zSt, fX q 0 (p' + (gl J).2 + 4) 0 u (ckS ln q u (p' + (gl J).2 + 4) [30, 0]) := fun u => fX_ck fX_refl (Nat.le_refl _)
        have h2 : ∀ u : zSt, fX q 0 (p' + (gl J).2 + 2) 0 u (ckS ln q u (p' + (gl J).2 + 2) [1, 1]) := fun u => fX_ck fX_refl (Nat.le_refl _)
        rw [rbC hL.1 hV4.1.2.1.2.1, bnd_e, hV4.2.2.2.2.2.2.1, show p' + (gl J).2 + 4 + ([30, 0] : List Int32).length = (p' + (gl J).2 + 5) + 1 from rfl, nI_pred]
        refine fin _ _ [31, nI (p' + (gl J).2 + 6), 1, 1, 30, 0] (by unfold hdL; rw [if_neg c8, if_pos c9]) hV4 (fun T => fX_ck (fX_ck (fX_ck fX_refl (Nat.le_refl _)) (by omega)) (by omega)) ?_ (fun _ => rfl)
        refine cdC_app (l := [31, nI (p' + (gl J).2 + 6)]) (r := [1, 1, 30, 0]) (cdC_fX hL.1 (h3 _) (by show _ + 2 ≤ _; omega) (cdC_fX hL.1 (h2 _) (Nat.le_refl _) ckS_cd)) ?_
        refine cdC_app (l := [1, 1]) (r := [30, 0]) (cdC_fX hL.1 (h3 _) (Nat.le_refl _) ckS_cd) ?_
        exact ckS_cd
      · rw [if_neg c9]
        exact fin s1 (-1) [] (by unfold hdL; rw [if_neg c8, if_neg c9]) hV1 (fun T => fX_refl) cdC_nil (fun e => by rcases e with e | e; exact absurd e c8; exact absurd e c9)
  · intro e z hfo he0 hE
    -- told: cells and the pile go on
    have hpu : ∀ (y : zSt) (b : Nat) (hole : Int32), DS ln q e b y → b ≤ 11006 → fR q σ y → wp (fX2_openTwo_b107 ln N M r tk.2.2.1 hole y) Q := by
      intro y b hole hd hb hf
      unfold fX2_openTwo_b107
      exact wp_ret (wp_mono (pushD hL hd) (fun _ u hu => her e u hfo he0 (DS_le hu.1 hb) (fR_trans hf hu.2)))
    by_cases c8 : tk.2.2.1 = 8
    · rw [if_pos c8, rbC hL.1 hE.1.2.2.2.1.2.1]
      refine wp_obd (wp_mono (addD2 hL (by omega) hE.1) (fun _ u hu => ?_))
      rw [rbC hL.1 hu.1.2.2.2.1.2.1, bnd_e]
      exact hpu u _ _ hu.1 (by omega) (fR_trans hE.2 hu.2)
    · rw [if_neg c8]
      by_cases c9 : tk.2.2.1 = 9
      · rw [if_pos c9, rbC hL.1 hE.1.2.2.2.1.2.1, rbC hL.1 hE.1.2.2.2.1.2.1]
        refine wp_obd (wp_mono (addD2 hL (by omega) hE.1) (fun _ u hu => ?_))
        rw [rbC hL.1 hu.1.2.2.2.1.2.1]
        refine wp_obd (wp_mono (addD2 hL (by omega) hu.1) (fun _ v hv => ?_))
        rw [rbC hL.1 hv.1.2.2.2.1.2.1]
        refine wp_obd (wp_mono (addD2 hL (by omega) hv.1) (fun _ w hw => ?_))
        rw [rbC hL.1 hw.1.2.2.2.1.2.1, bnd_e]
        exact hpu w _ _ hw.1 (by omega) (fR_trans hE.2 (fR_trans hu.2 (fR_trans hv.2 hw.2)))
      · rw [if_neg c9]
        exact hpu z _ _ hE.1 (by omega) hE.2
end
