/-! THE REFERENCE MAKES CODE: E -/
theorem begE1 {N m b j : Nat} {G : gE} {st : Nat → Int32} {np : Int32} {p : Nat} {τ : zSt} (hR : RM G st np τ p (b + 1)) (hb : b < 5900) (h36 : zA τ 36 b = 2) (h37 : zA τ 37 b = nI j) (hj : j < 4200) (hk : zA τ 15 j = 4 ∨ zA τ 15 j = 5) :
    fX12_makeS_b11 N (m + 1) τ = fX12_makeS_b11 N m (tsS (tsS (zsI τ 0 63 (nI b)) b 4 (nI j)) (b + 1) 2 (zA τ 16 j)) := by
  rw [mk_pop hR.2.2 (by omega), h36, if_neg (by decide), if_pos rfl, h37]
  unfold fX12_beginsE
  rw [nI_clamp (by omega), if_neg (ixN hj (by omega)), zA_I, bnd_e]
  have e63 : zI (zsI τ 0 63 (nI b)) 0 63 = nI b := by rw [zI_I, if_pos ⟨rfl, rfl⟩]
  rcases hk with hk | hk
  · rw [hk, if_neg (by decide), if_neg (by decide), if_neg (by decide), if_pos rfl, taskR e63 (by omega), obd_s, if_neg (ixN hj (by omega)), ts_A (by omega), zA_I, taskR ts_63 (by omega), obd_s, obd_s]
  · rw [hk, if_neg (by decide), if_neg (by decide), if_neg (by decide), if_neg (by decide), if_pos rfl, taskR e63 (by omega), obd_s, if_neg (ixN hj (by omega)), ts_A (by omega), zA_I, taskR ts_63 (by omega), obd_s, obd_s]
theorem begE2 {N m b j : Nat} {G : gE} {st : Nat → Int32} {np : Int32} {p : Nat} {τ : zSt} (hR : RM G st np τ p (b + 1)) (hb : b < 5900) (h36 : zA τ 36 b = 2) (h37 : zA τ 37 b = nI j) (hj : j < 4200) (hk : zA τ 15 j = 6) :
    fX12_makeS_b11 N (m + 1) τ = fX12_makeS_b11 N m (tsS (tsS (tsS (zsI τ 0 63 (nI b)) b 4 (nI j)) (b + 1) 2 (zA τ 17 j)) (b + 2) 2 (zA τ 16 j)) := by
  rw [mk_pop hR.2.2 (by omega), h36, if_neg (by decide), if_pos rfl, h37]
  unfold fX12_beginsE
  rw [nI_clamp (by omega), if_neg (ixN hj (by omega)), zA_I, bnd_e]
  have e63 : zI (zsI τ 0 63 (nI b)) 0 63 = nI b := by rw [zI_I, if_pos ⟨rfl, rfl⟩]
  rw [hk, if_neg (by decide), if_neg (by decide), if_neg (by decide), if_neg (by decide), if_neg (by decide), if_pos rfl, taskR e63 (by omega), obd_s, if_neg (ixN hj (by omega)), ts_A (by omega), zA_I, taskR ts_63 (by omega), obd_s, if_neg (ixN hj (by omega)), ts_A (by omega), ts_A (by omega), zA_I, taskR ts_63 (by omega), obd_s, obd_s]
/-- a task that goes on with a node of an E -/
theorem popG {N m b j : Nat} {k kd : Int32} {G : gE} {st : Nat → Int32} {np : Int32} {p : Nat} {τ : zSt} (hR : RM G st np τ p (b + 1)) (hb : b < 5900) (h36 : zA τ 36 b = k) (hk : k ≠ 0 ∧ k ≠ 2 ∧ k ≠ 1 ∧ k ≠ 3) (h37 : zA τ 37 b = nI j) (hj : j < 4200) (h15 : zA τ 15 j = kd) :
    fX12_makeS_b11 N (m + 1) τ = if kd < 20 then obd (fX12_goesOnE N k (nI j) (zsI τ 0 63 (nI b))) (fun _ u => fX12_makeS_b11 N m u) else obd (fX12_goesOnS N k (nI j) (zsI τ 0 63 (nI b))) (fun _ u => fX12_makeS_b11 N m u) := by
  rw [mk_pop hR.2.2 (by omega), h36, if_neg hk.1, if_neg hk.2.1, if_neg hk.2.2.1, if_neg hk.2.2.2, h37, nI_clamp (by omega), if_neg (ixN hj (by omega)), h15]
theorem putsR {N : Nat} {G : gE} {st : Nat → Int32} {np : Int32} {p b : Nat} {v : Int32} {τ : zSt} (hR : RM G st np τ p b) (hp : p < 29001) : fX12_put N v τ = some ((), ptS τ p v) := putR hR.2.1 (by omega)
theorem mkLeaf {N : Nat} {G : gE} {st : Nat → Int32} {np : Int32} {t : fT} {l : List Int32} {lo hi p b : Nat} {τ : zSt} (hgn : (gn st np t).2 p = l) (hgl : (gl t).2 = l.length) (hcn : 1 ≤ cN t) (hR : RM G st np τ p (b + 1)) (hb : ∀ m, fX12_makeS_b11 N (m + 1) τ = fX12_makeS_b11 N m (wlS (zsI τ 0 63 (nI b)) p l)) : MKo 2 N G st np t lo hi p b τ := by
  refine ⟨_, 1, hb, by omega, fM_pl l _ _ (fM_63 fM_refl) (Nat.le_refl _), ?_, ?_⟩
  · rw [hgl]; exact RM_pl l p _ (RM_63 hR)
  · rw [hgn]; exact cd_pl _ _ _
theorem begE0 {N m b j : Nat} {G : gE} {st : Nat → Int32} {np : Int32} {p : Nat} {τ : zSt} {k : Nat} {v : Int32} (hR : RM G st np τ p (b + 1)) (hp : p + 2 ≤ 29000) (hb : b < 5900) (h36 : zA τ 36 b = 2) (h37 : zA τ 37 b = nI j) (hj : j < 4200) (h15 : zA τ 15 j = nI k) (h19 : zA τ 19 j = v) (hk : k = 1 ∨ k = 2 ∨ k = 3 ∨ k = 10) :
    fX12_makeS_b11 N (m + 1) τ = fX12_makeS_b11 N m (wlS (zsI τ 0 63 (nI b)) p (if k = 1 then [1, v] else if k = 2 then [2, v] else if k = 3 then [4, v] else [35])) := by
  rw [mk_pop hR.2.2 (by omega), h36, if_neg (by decide), if_pos rfl, h37]
  unfold fX12_beginsE
  have hR2 := RM_63 (b := b) hR
  rw [nI_clamp (by omega), if_neg (ixN hj (by omega)), zA_I, bnd_e, h15]
  have e19 : ∀ w, zA (ptS (zsI τ 0 63 (nI b)) p w) 19 j = v := fun w => by rw [pt_A (by omega), zA_I]; exact h19
  rcases hk with rfl | rfl | rfl | rfl
  · rw [if_pos (show nI 1 = 1 from rfl), putsR hR2 (by omega), obd_s, if_neg (ixN hj (by omega)), e19, putsR (RM_pt hR2) (by omega), obd_s, obd_s]
    rfl
  · rw [if_neg (by decide), if_pos (show nI 2 = 2 from rfl), if_neg (ixN hj (by omega)), if_pos (show nI 2 = 2 from rfl)]
    unfold fX12_beginsE_b94
    rw [nI_clamp (by omega), putsR hR2 (by omega), obd_s, if_neg (ixN hj (by omega)), e19, putsR (RM_pt hR2) (by omega), obd_s, obd_s]
    rfl
  · rw [if_neg (by decide), if_neg (by decide), if_pos (show nI 3 = 3 from rfl), if_neg (ixN hj (by omega)), if_neg (by decide)]
    unfold fX12_beginsE_b94
    rw [nI_clamp (by omega), putsR hR2 (by omega), obd_s, if_neg (ixN hj (by omega)), e19, putsR (RM_pt hR2) (by omega), obd_s, obd_s]
    rfl
  · rw [if_neg (by decide), if_neg (by decide), if_neg (by decide), if_neg (by decide), if_neg (by decide), if_neg (by decide), if_neg (by decide), if_neg (by decide), if_neg (by decide), if_pos (show nI 10 = 10 from rfl), putsR hR2 (by omega), obd_s, obd_s]
    rfl
theorem doneER {N m b j : Nat} {G : gE} {st : Nat → Int32} {np : Int32} {q : Nat} {u : zSt} {k : Nat} {v w : Int32} (hR : RM G st np u q (b + 1)) (hq : q + 3 ≤ 29003) (hb : b < 5900) (h36 : zA u 36 b = 4) (h37 : zA u 37 b = nI j) (hj : j < 4200) (h15 : zA u 15 j = nI k) (h19 : zA u 19 j = v) (h20 : zA u 20 j = w) (hk : k = 4 ∨ k = 5 ∨ k = 6) (hl : q + (if k = 4 then 3 else 1) ≤ 29000) :
    fX12_makeS_b11 N (m + 1) u = fX12_makeS_b11 N m (wlS (zsI u 0 63 (nI b)) q (if k = 4 then [6, v, w] else [v])) := by
  rw [popG hR hb h36 (by decide) h37 hj h15, if_pos (by rcases hk with rfl | rfl | rfl <;> decide)]
  unfold fX12_goesOnE
  rw [if_pos rfl]
  unfold fX12_doneE
  have hR2 := RM_63 (b := b) hR
  rw [nI_clamp (by omega), if_neg (ixN hj (by omega)), zA_I, bnd_e, h15]
  have h19' : zA (zsI u 0 63 (nI b)) 19 j = v := h19
  rcases hk with rfl | rfl | rfl
  · rw [if_pos rfl] at hl
    rw [if_pos (show nI 4 = 4 from rfl), putsR hR2 (by omega), obd_s, if_neg (ixN hj (by omega)), pt_A (by omega), h19', putsR (RM_pt hR2) (by omega), obd_s, if_neg (ixN hj (by omega)), pt_A (by omega), pt_A (by omega), zA_I, h20, putsR (RM_pt (RM_pt hR2)) (by omega), obd_s, obd_s, obd_s]
    rfl
  · rw [if_neg (by decide)] at hl
    rw [if_neg (by decide), if_neg (by decide), if_neg (ixN hj (by omega)), h19', putsR hR2 (by omega), obd_s, obd_s, obd_s]
    rfl
  · rw [if_neg (by decide)] at hl
    rw [if_neg (by decide), if_neg (by decide), if_neg (ixN hj (by omega)), h19', putsR hR2 (by omega), obd_s, obd_s, obd_s]
    rfl
theorem mkE0 {N : Nat} {G : gE} {st : Nat → Int32} {np : Int32} {k : Nat} {v w : Int} {A B C : fT} (hk : k = 1 ∨ k = 2 ∨ k = 3 ∨ k = 10) : MKp N G st np 2 (fN k v w A B C) := by
  intro lo hi i τ p b hr hR h36 h37 hp hb
  rw [rep_N] at hr
  obtain ⟨j, rfl, hj, hlh, r15, r19, r20, -⟩ := hr
  rw [cN_N] at hb
  have hg : (gl (fN k v w A B C)).2 ≤ 2 ∧ (gl (fN k v w A B C)).2 = (if k = 1 then [1, Int32.ofInt v] else if k = 2 then [2, Int32.ofInt v] else if k = 3 then [4, Int32.ofInt v] else [35]).length ∧ (k = 10 ∨ (gl (fN k v w A B C)).2 = 2) := by
    rw [gl_N]
    rcases hk with rfl | rfl | rfl | rfl
    · exact ⟨Nat.le_refl 2, rfl, Or.inr rfl⟩
    · exact ⟨Nat.le_refl 2, rfl, Or.inr rfl⟩
    · exact ⟨Nat.le_refl 2, rfl, Or.inr rfl⟩
    · exact ⟨show 1 ≤ 2 by omega, rfl, Or.inl rfl⟩
  have hp2 : p + 2 ≤ 29002 := by omega
  refine mkLeaf (l := if k = 1 then [1, Int32.ofInt v] else if k = 2 then [2, Int32.ofInt v] else if k = 3 then [4, Int32.ofInt v] else [35]) ?_ hg.2.1 (by rw [cN_N]; omega) hR (fun m => ?_)
  · rw [gn_N]; rcases hk with rfl | rfl | rfl | rfl <;> rfl
  · by_cases h10 : k = 10
    · subst h10
      have hq : p < 29001 := by omega
      rw [mk_pop hR.2.2 (by omega), h36, if_neg (by decide), if_pos rfl, h37]
      unfold fX12_beginsE
      have hR2 := RM_63 (b := b) hR
      rw [nI_clamp (by omega), if_neg (ixN hj (by omega)), zA_I, bnd_e, r15, if_neg (by decide), if_neg (by decide), if_neg (by decide), if_neg (by decide), if_neg (by decide), if_neg (by decide), if_neg (by decide), if_neg (by decide), if_neg (by decide), if_pos (show nI 10 = 10 from rfl), putsR hR2 (by omega), obd_s, obd_s]
      rfl
    · have h2 : (gl (fN k v w A B C)).2 = 2 := by rcases hg.2.2 with q | q; exact (h10 q).elim; exact q
      exact begE0 hR (by omega) (by omega) h36 h37 hj r15 r19 hk
theorem mkE1 {N : Nat} {G : gE} {st : Nat → Int32} {np : Int32} {k : Nat} {v w : Int} {A B C : fT} (hk : k = 4 ∨ k = 5) (hA : MKp N G st np 2 A) : MKp N G st np 2 (fN k v w A B C) := by
  intro lo hi i τ p b hr hR h36 h37 hp hb
  rw [rep_N] at hr
  obtain ⟨j, rfl, hj, hlh, r15, r19, r20, ly⟩ := hr
  obtain ⟨e, p1, q1, b1, b2, b3, ra, rb, rc⟩ := ly.1 (by omega)
  have hg : (gl (fN k v w A B C)).2 = (gl A).2 + (if k = 4 then [6, Int32.ofInt v, Int32.ofInt w] else [Int32.ofInt v]).length := by
    rw [gl_N]; rcases hk with rfl | rfl <;> rfl
  refine mk_one (l := if k = 4 then [6, Int32.ofInt v, Int32.ofInt w] else [Int32.ofInt v]) (lo' := j + 1) (hi' := p1) ?_ hg (by rw [cN_N]; omega) (MKp_l hA) hR ra (by omega) (by omega) hp hb (fun m => begE1 hR (by rw [cN_N] at hb; omega) h36 h37 hj (by rcases hk with rfl | rfl; exact Or.inl r15; exact Or.inr r15)) ?_
  · rw [gn_N]; rcases hk with rfl | rfl <;> rfl
  · intro u q hf hRu hq u36 u37 m
    rw [cN_N] at hb
    refine doneER (k := k) hRu ?_ (by omega) u36 u37 hj ((fM_n hf (by omega) j).trans r15) ((fM_n hf (by omega) j).trans r19) ((fM_n hf (by omega) j).trans r20) (by omega) ?_
    · rcases hk with rfl | rfl
      · simp only [reduceIte, List.length_cons, List.length_nil] at hq; omega
      · simp only [reduceIte, Nat.reduceEqDiff, List.length_cons, List.length_nil] at hq; omega
    · rcases hk with rfl | rfl
      · simp only [reduceIte, List.length_cons, List.length_nil] at hq ⊢; omega
      · simp only [reduceIte, Nat.reduceEqDiff, List.length_cons, List.length_nil] at hq ⊢; omega
theorem mkE2 {N : Nat} {G : gE} {st : Nat → Int32} {np : Int32} {v w : Int} {A B C : fT} (hA : MKp N G st np 2 A) (hB : MKp N G st np 2 B) : MKp N G st np 2 (fN 6 v w A B C) := by
  intro lo hi i τ p b hr hR h36 h37 hp hb
  rw [rep_N] at hr
  obtain ⟨j, rfl, hj, hlh, r15, r19, r20, ly⟩ := hr
  obtain ⟨ra, rb, rc⟩ := ly.2 (by omega)
  have hg : (gl (fN 6 v w A B C)).2 = (gl A).2 + ((gl B).2 + [Int32.ofInt v].length) := by rw [gl_N]; rfl
  refine mk_two (l := [Int32.ofInt v]) ?_ hg (by rw [cN_N]; omega) hA hB hR ra rb (Nat.le_refl _) (by omega) (by omega) (Nat.le_refl _) hp hb (fun m => begE2 hR (by rw [cN_N] at hb; omega) h36 h37 hj r15) ?_
  · rw [gn_N]; rfl
  · intro u q hf hRu hq u36 u37 m
    rw [cN_N] at hb
    rw [List.length_cons, List.length_nil] at hq
    exact doneER (k := 6) (v := Int32.ofInt v) (w := Int32.ofInt w) hRu (by omega) (by omega) u36 u37 hj ((fM_n hf (by omega) j).trans r15) ((fM_n hf (by omega) j).trans r19) ((fM_n hf (by omega) j).trans r20) (by omega) (by simp only [reduceIte, Nat.reduceEqDiff]; omega)
