/-! THE REFERENCE MAKES CODE: S -/
theorem begS1 {N m b j k : Nat} {G : gE} {st : Nat → Int32} {np : Int32} {p : Nat} {τ : zSt} (hR : RM G st np τ p (b + 1)) (hp : p + 2 < 29900) (hb : b < 5900) (h36 : zA τ 36 b = 0) (h37 : zA τ 37 b = nI j) (hj : j < 4200) (h15 : zA τ 15 j = nI k) (hk : k = 21 ∨ k = 24 ∨ k = 25 ∨ k = 26 ∨ k = 27 ∨ k = 29) :
    fX12_makeS_b11 N (m + 1) τ = fX12_makeS_b11 N m (if zA τ 16 j < 0 then wlS (tsS (zsI τ 0 63 (nI b)) b 4 (nI j)) p [1, 0] else tsS (tsS (zsI τ 0 63 (nI b)) b 4 (nI j)) (b + 1) 2 (zA τ 16 j)) := by
  rw [mk_pop hR.2.2 (by omega), h36, if_pos rfl, h37]
  unfold fX12_begins2
  have e63 : zI (zsI τ 0 63 (nI b)) 0 63 = nI b := by rw [zI_I, if_pos ⟨rfl, rfl⟩]
  have key : obd (obd (fX12_task N 4 (nI j) (zsI τ 0 63 (nI b))) (fun _ σ5 => if nI j < 0 ∨ 4200 ≤ j then none else if zA σ5 16 j < 0 then obd (fX12_put N 1 σ5) (fun _ σ7 => obd (fX12_put N 0 σ7) (fun _ σ9 => some ((), σ9))) else if nI j < 0 ∨ 4200 ≤ j then none else obd (fX12_task N 2 (zA σ5 16 j) σ5) (fun _ σ11 => some ((), σ11)))) (fun _ u => fX12_makeS_b11 N m u) = fX12_makeS_b11 N m (if zA τ 16 j < 0 then wlS (tsS (zsI τ 0 63 (nI b)) b 4 (nI j)) p [1, 0] else tsS (tsS (zsI τ 0 63 (nI b)) b 4 (nI j)) (b + 1) 2 (zA τ 16 j)) := by
    rw [taskR e63 (by omega), obd_s, if_neg (ixN hj (by omega)), ts_A (by omega), zA_I]
    by_cases h : zA τ 16 j < 0
    · rw [if_pos h, if_pos h, putR (p := p) (by rw [ts_61, zI_I, if_neg (by omega)]; exact hR.2.1) (by omega), obd_s, putR pt_61 (by omega), obd_s, obd_s]
      rfl
    · rw [if_neg h, if_neg h, if_neg (ixN hj (by omega)), taskR ts_63 (by omega), obd_s, obd_s]
  rw [nI_clamp (by omega), if_neg (ixN hj (by omega)), zA_I, bnd_e, h15]
  rcases hk with rfl | rfl | rfl | rfl | rfl | rfl
  · rw [if_neg (by decide), if_pos (show nI 21 = 21 from rfl)]
    exact key
  · rw [if_neg (by decide), if_neg (by decide), if_neg (by decide), if_neg (by decide), if_pos (show nI 24 = 24 from rfl)]
    exact key
  · rw [if_neg (by decide), if_neg (by decide), if_neg (by decide), if_neg (by decide), if_neg (by decide), if_pos (show nI 25 = 25 from rfl)]
    exact key
  · rw [if_neg (by decide), if_neg (by decide), if_neg (by decide), if_neg (by decide), if_neg (by decide), if_neg (by decide), if_pos (show nI 26 = 26 from rfl)]
    exact key
  · rw [if_neg (by decide), if_neg (by decide), if_neg (by decide), if_neg (by decide), if_neg (by decide), if_neg (by decide), if_neg (by decide), if_pos (show nI 27 = 27 from rfl)]
    exact key
  · rw [if_neg (by decide), if_neg (by decide), if_neg (by decide), if_neg (by decide), if_neg (by decide), if_neg (by decide), if_neg (by decide), if_neg (by decide), if_neg (by decide), if_pos (show nI 29 = 29 from rfl)]
    exact key
def dSl (k : Nat) (v w np : Int32) : List Int32 := if k = 21 ∨ k = 27 then [5, v] else if k = 26 then [3, v] else if k = 24 then [33, np] else if k = 25 then [34] else if k = 28 then [7, v, w] else [36]
theorem doneSR {N m b j k : Nat} {G : gE} {st : Nat → Int32} {np : Int32} {q : Nat} {u : zSt} {v w : Int32} (hR : RM G st np u q (b + 1)) (hq : q + (dSl k v w np).length ≤ 29000) (hb : b < 5900) (h36 : zA u 36 b = 4) (h37 : zA u 37 b = nI j) (hj : j < 4200) (h15 : zA u 15 j = nI k) (h19 : zA u 19 j = v) (h20 : zA u 20 j = w) (hk : k = 21 ∨ k = 24 ∨ k = 25 ∨ k = 26 ∨ k = 27 ∨ k = 29 ∨ k = 28) :
    fX12_makeS_b11 N (m + 1) u = fX12_makeS_b11 N m (wlS (zsI u 0 63 (nI b)) q (dSl k v w np)) := by
  rw [popG hR hb h36 (by decide) h37 hj h15, if_neg (by rcases hk with rfl | rfl | rfl | rfl | rfl | rfl | rfl <;> decide)]
  unfold fX12_goesOnS
  rw [if_pos rfl]
  unfold fX12_doneS
  have hR2 := RM_63 (b := b) hR
  have h19' : zA (zsI u 0 63 (nI b)) 19 j = v := h19
  have h20' : zA (zsI u 0 63 (nI b)) 20 j = w := h20
  obtain ⟨f, f1, f2, f3⟩ := (RM_pt (v := 33) hR2).1.1
  rw [nI_clamp (by omega), if_neg (ixN hj (by omega)), zA_I, bnd_e, h15]
  rcases hk with rfl | rfl | rfl | rfl | rfl | rfl | rfl
  · have hq2 : q + 2 ≤ 29000 := hq
    rw [if_pos (show nI 21 = 21 from rfl), putsR hR2 (by omega), obd_s, if_neg (ixN hj (by omega)), pt_A (by omega), h19', putsR (RM_pt hR2) (by omega), obd_s, obd_s, obd_s]
    rfl
  · have hq2 : q + 2 ≤ 29000 := hq
    rw [if_neg (by decide), if_neg (by decide), if_neg (by decide), if_pos (show nI 24 = 24 from rfl), putsR hR2 (by omega), obd_s, f1, nI_clamp (by omega), if_neg (ixN f2 (by omega)), f3, putsR (RM_pt hR2) (by omega), obd_s, obd_s, obd_s]
    rfl
  · have hq2 : q + 1 ≤ 29000 := hq
    rw [if_neg (by decide), if_neg (by decide), if_neg (by decide), if_neg (by decide), if_pos (show nI 25 = 25 from rfl), putsR hR2 (by omega), obd_s, obd_s, obd_s]
    rfl
  · have hq2 : q + 2 ≤ 29000 := hq
    rw [if_neg (by decide), if_neg (by decide), if_neg (by decide), if_neg (by decide), if_neg (by decide), if_pos (show nI 26 = 26 from rfl), putsR hR2 (by omega), obd_s, if_neg (ixN hj (by omega)), pt_A (by omega), h19', putsR (RM_pt hR2) (by omega), obd_s, obd_s, obd_s]
    rfl
  · have hq2 : q + 2 ≤ 29000 := hq
    rw [if_neg (by decide), if_neg (by decide), if_neg (by decide), if_neg (by decide), if_neg (by decide), if_neg (by decide), if_pos (show nI 27 = 27 from rfl), putsR hR2 (by omega), obd_s, if_neg (ixN hj (by omega)), pt_A (by omega), h19', putsR (RM_pt hR2) (by omega), obd_s, obd_s, obd_s]
    rfl
  · have hq2 : q + 1 ≤ 29000 := hq
    rw [if_neg (by decide), if_neg (by decide), if_neg (by decide), if_neg (by decide), if_neg (by decide), if_neg (by decide), if_neg (by decide), if_neg (by decide), putsR hR2 (by omega), obd_s, obd_s, obd_s]
    rfl
  · have hq2 : q + 3 ≤ 29000 := hq
    rw [if_neg (by decide), if_neg (by decide), if_neg (by decide), if_neg (by decide), if_neg (by decide), if_neg (by decide), if_neg (by decide), if_pos (show nI 28 = 28 from rfl), putsR hR2 (by omega), obd_s, if_neg (ixN hj (by omega)), pt_A (by omega), h19', putsR (RM_pt hR2) (by omega), obd_s, if_neg (ixN hj (by omega)), pt_A (by omega), pt_A (by omega), h20', putsR (RM_pt (RM_pt hR2)) (by omega), obd_s, obd_s, obd_s]
    rfl
/-- an S with one part -/
theorem mkS1 {N : Nat} {G : gE} {st : Nat → Int32} {np : Int32} {k : Nat} {v w : Int} {A B C : fT} (hk : k = 21 ∨ k = 24 ∨ k = 25 ∨ k = 26 ∨ k = 27 ∨ k = 29) (hA : MKp N G st np 2 A) (hn : ∃ a b c d e f, A = fN a b c d e f) : MKp N G st np 0 (fN k v w A B C) := by
  intro lo hi i τ p b hr hR h36 h37 hp hb
  rw [rep_N] at hr
  obtain ⟨j, rfl, hj, hlh, r15, r19, r20, ly⟩ := hr
  obtain ⟨e, p1, q1, b1, b2, b3, ra, rb, rc⟩ := ly.1 (by omega)
  obtain ⟨a', b', c', d', e', f', rfl⟩ := hn
  obtain ⟨j2, ej2, hj2, -⟩ := rep_pos ra
  have htrue : (gl (fN a' b' c' d' e' f')).1 = true := by rw [gl_N]; rfl
  have htrue2 : (gn st np (fN a' b' c' d' e' f')).1 = true := by rw [gn_N]; rfl
  have hg : (gl (fN k v w (fN a' b' c' d' e' f') B C)).2 = (gl (fN a' b' c' d' e' f')).2 + (dSl k (Int32.ofInt v) (Int32.ofInt w) np).length := by
    rw [gl_N]
    generalize gl (fN a' b' c' d' e' f') = x at htrue ⊢
    rcases hk with rfl | rfl | rfl | rfl | rfl | rfl
    · show (if x.1 = true then x.2 else 2) + 2 = _
      rw [if_pos htrue]; rfl
    all_goals rfl
  have hcn : cN (fN k v w (fN a' b' c' d' e' f') B C) = 1 + cN (fN a' b' c' d' e' f') + cN B + cN C := cN_N
  have hp1 : p + 2 < 29900 := by omega
  have hbeg := fun m => begS1 (N := N) (m := m) hR hp1 (by omega) h36 h37 hj r15 hk
  simp only [ej2, if_neg (nI_pos (show j2 < 2 ^ 31 by omega))] at hbeg
  rw [← ej2] at hbeg
  refine mk_one (l := dSl k (Int32.ofInt v) (Int32.ofInt w) np) (lo' := j + 1) (hi' := p1) ?_ hg (by omega) (MKp_l hA) hR ra (by omega) (by omega) hp hb hbeg ?_
  · rw [gn_N]
    generalize gn st np (fN a' b' c' d' e' f') = x at htrue2 ⊢
    rcases hk with rfl | rfl | rfl | rfl | rfl | rfl
    · show (if x.1 = true then x.2 p else [1, 0]) ++ [5, Int32.ofInt v] = _
      rw [if_pos htrue2]; rfl
    all_goals rfl
  · intro u q hf hRu hq u36 u37 m
    exact doneSR (k := k) hRu hq (by omega) u36 u37 hj ((fM_n hf (by omega) j).trans r15) ((fM_n hf (by omega) j).trans r19) ((fM_n hf (by omega) j).trans r20) (by omega)
/-- a LOCAL without a value -/
theorem mkS21 {N : Nat} {G : gE} {st : Nat → Int32} {np : Int32} {v w : Int} {A B C : fT} (hz : isZ A) : MKp N G st np 0 (fN 21 v w A B C) := by
  intro lo hi i τ p b hr hR h36 h37 hp hb
  rw [rep_N] at hr
  obtain ⟨j, rfl, hj, hlh, r15, r19, r20, ly⟩ := hr
  obtain ⟨e, p1, q1, b1, b2, b3, ra, rb, rc⟩ := ly.1 (by omega)
  rw [rep_isZ hz] at ra
  have hg : (gl (fN 21 v w A B C)).2 = 4 := by rw [gl_N, gl_isZ hz]; rfl
  have hcn : cN (fN 21 v w A B C) = 1 + cN A + cN B + cN C := cN_N
  have hbeg := fun m => begS1 (N := N) (m := m) hR (by omega) (by omega) h36 h37 hj r15 (Or.inl rfl)
  simp only [ra.2, show (-1 : Int32) < 0 from by decide, if_true] at hbeg
  have hRs : RM G st np (wlS (tsS (zsI τ 0 63 (nI b)) b 4 (nI j)) p [1, 0]) (p + 2) (b + 1) := RM_pl [1, 0] p _ (RM_ts (RM_63 hR))
  have hF : fM lo hi p b τ (wlS (tsS (zsI τ 0 63 (nI b)) b 4 (nI j)) p [1, 0]) := fM_pl _ _ _ (fM_ts (fM_63 fM_refl) (Nat.le_refl _)) (Nat.le_refl _)
  have hF2 : fM 0 0 p (b + 1) (tsS (zsI τ 0 63 (nI b)) b 4 (nI j)) (wlS (tsS (zsI τ 0 63 (nI b)) b 4 (nI j)) p [1, 0]) := fM_pl _ _ _ fM_refl (Nat.le_refl _)
  have s36 := (hF2.2.2.2 36 b (Or.inl (by omega)) (Or.inr (by omega)) (Or.inl (by omega))).trans ts_36
  have s37 := (hF2.2.2.2 37 b (Or.inl (by omega)) (Or.inr (by omega)) (Or.inl (by omega))).trans ts_37
  have hcd := cd_pl [1, 0] p (tsS (zsI τ 0 63 (nI b)) b 4 (nI j))
  clear hF2
  revert hF hRs s36 s37 hbeg hcd
  generalize wlS (tsS (zsI τ 0 63 (nI b)) b 4 (nI j)) p [1, 0] = s
  intro hbeg hRs hF s36 s37 hcd
  have hd := fun m => doneSR (N := N) (m := m) (k := 21) (v := Int32.ofInt v) (w := Int32.ofInt w) hRs (by show p + 2 + 2 ≤ 29000; omega) (by omega) s36 s37 hj ((fM_n hF (by omega) j).trans r15) ((fM_n hF (by omega) j).trans r19) ((fM_n hF (by omega) j).trans r20) (by omega)
  refine ⟨wlS (zsI s 0 63 (nI b)) (p + 2) (dSl 21 (Int32.ofInt v) (Int32.ofInt w) np), 2, fun m => ?_, by omega, fM_pl (dSl 21 (Int32.ofInt v) (Int32.ofInt w) np) (p + 2) _ (fM_63 hF) (by omega), ?_, ?_⟩
  · rw [show m + 2 = m + 1 + 1 from rfl, hbeg, hd]
  · rw [hg]; exact RM_pl (dSl 21 (Int32.ofInt v) (Int32.ofInt w) np) (p + 2) _ (RM_63 hRs)
  · rw [gn_N]
    show cd _ p ((if (gn st np A).1 = true then (gn st np A).2 p else [1, 0]) ++ [5, Int32.ofInt v])
    rw [gn_isZ hz, if_neg (by decide)]
    refine cd_app (cd_frame (fun q q1 q2 => ?_) hcd) ?_
    · have h := fM_pl (lo := 0) (hi := 0) (b := 0) (p := p + 2) (dSl 21 (Int32.ofInt v) (Int32.ofInt w) np) (p + 2) (zsI s 0 63 (nI b)) (fM_63 fM_refl) (Nat.le_refl _)
      simp only [List.length_cons, List.length_nil] at q2
      exact h.2.2.2 34 q (Or.inr (by omega)) (Or.inl (by omega)) (Or.inl (by omega))
    · exact cd_pl (dSl 21 (Int32.ofInt v) (Int32.ofInt w) np) (p + 2) _
theorem mkS28 {N : Nat} {G : gE} {st : Nat → Int32} {np : Int32} {v w : Int} {A B C : fT} (hA : MKp N G st np 2 A) (hB : MKp N G st np 2 B) : MKp N G st np 0 (fN 28 v w A B C) := by
  intro lo hi i τ p b hr hR h36 h37 hp hb
  rw [rep_N] at hr
  obtain ⟨j, rfl, hj, hlh, r15, r19, r20, ly⟩ := hr
  obtain ⟨e, p1, q1, b1, b2, b3, ra, rb, rc⟩ := ly.1 (by omega)
  have hg : (gl (fN 28 v w A B C)).2 = (gl A).2 + ((gl B).2 + [7, Int32.ofInt v, Int32.ofInt w].length) := by rw [gl_N]; rfl
  have hcn : cN (fN 28 v w A B C) = 1 + cN A + cN B + cN C := cN_N
  refine mk_two (j := j) (l := [7, Int32.ofInt v, Int32.ofInt w]) ?_ hg (by omega) hA hB hR ra rb (by omega) (by omega) (by omega) (by omega) hp hb (fun m => ?_) ?_
  · rw [gn_N]; rfl
  · rw [mk_pop hR.2.2 (by omega), h36, if_pos rfl, h37]
    unfold fX12_begins2
    have e63 : zI (zsI τ 0 63 (nI b)) 0 63 = nI b := by rw [zI_I, if_pos ⟨rfl, rfl⟩]
    have h15' : zA (zsI τ 0 63 (nI b)) 15 j = 28 := r15
    rw [nI_clamp (by omega), if_neg (ixN hj (by omega)), h15', bnd_e, if_neg (by decide), if_neg (by decide), if_neg (by decide), if_neg (by decide), if_neg (by decide), if_neg (by decide), if_neg (by decide), if_neg (by decide), if_pos rfl, taskR e63 (by omega), obd_s, if_neg (ixN hj (by omega)), ts_A (by omega), zA_I, taskR ts_63 (by omega), obd_s, if_neg (ixN hj (by omega)), ts_A (by omega), ts_A (by omega), zA_I, taskR ts_63 (by omega), obd_s, obd_s]
  · intro u q hf hRu hq u36 u37 m
    exact doneSR (k := 28) (v := Int32.ofInt v) (w := Int32.ofInt w) hRu hq (by omega) u36 u37 hj ((fM_n hf (by omega) j).trans r15) ((fM_n hf (by omega) j).trans r19) ((fM_n hf (by omega) j).trans r20) (by omega)
theorem mkS30 {N : Nat} {G : gE} {st : Nat → Int32} {np : Int32} {v w : Int} {A B C : fT} : MKp N G st np 0 (fN 30 v w A B C) := by
  intro lo hi i τ p b hr hR h36 h37 hp hb
  rw [rep_N] at hr
  obtain ⟨j, rfl, hj, hlh, r15, r19, r20, -⟩ := hr
  have hcn : cN (fN 30 v w A B C) = 1 + cN A + cN B + cN C := cN_N
  refine mkLeaf (l := []) (by rw [gn_N]; rfl) (by rw [gl_N]; rfl) (by omega) hR (fun m => ?_)
  rw [mk_pop hR.2.2 (by omega), h36, if_pos rfl, h37]
  unfold fX12_begins2
  have h15' : zA (zsI τ 0 63 (nI b)) 15 j = 30 := r15
  rw [nI_clamp (by omega), if_neg (ixN hj (by omega)), h15', bnd_e, if_neg (by decide), if_neg (by decide), if_neg (by decide), if_neg (by decide), if_neg (by decide), if_neg (by decide), if_neg (by decide), if_neg (by decide), if_neg (by decide), if_neg (by decide), if_pos rfl, obd_s]
  rfl
theorem mkS20 {N : Nat} {G : gE} {st : Nat → Int32} {np : Int32} {v w : Int} {A B C : fT} (hA : isZ A ∨ (MKl N G st np 1 A ∧ ∃ a q, A = fC a q)) : MKp N G st np 0 (fN 20 v w A B C) := by
  intro lo hi i τ p b hr hR h36 h37 hp hb
  rw [rep_N] at hr
  obtain ⟨j, rfl, hj, hlh, r15, r19, r20, ly⟩ := hr
  obtain ⟨e, p1, q1, b1, b2, b3, ra, rb, rc⟩ := ly.1 (by omega)
  have hg : (gl (fN 20 v w A B C)).2 = (gl A).2 := by rw [gl_N]; rfl
  have hcn : cN (fN 20 v w A B C) = 1 + cN A + cN B + cN C := cN_N
  have hgn : (gn st np (fN 20 v w A B C)).2 p = (gn st np A).2 p := by rw [gn_N]; rfl
  have h15' : zA (zsI τ 0 63 (nI b)) 15 j = 20 := r15
  have e63 : zI (zsI τ 0 63 (nI b)) 0 63 = nI b := by rw [zI_I, if_pos ⟨rfl, rfl⟩]
  rcases hA with hz | ⟨hA, a, q, rfl⟩
  · rw [rep_isZ hz] at ra
    refine mkLeaf (l := []) (by rw [hgn, gn_isZ hz]) (by rw [hg, gl_isZ hz]; rfl) (by omega) hR (fun m => ?_)
    rw [mk_pop hR.2.2 (by omega), h36, if_pos rfl, h37]
    unfold fX12_begins2
    rw [nI_clamp (by omega), if_neg (ixN hj (by omega)), h15', bnd_e, if_pos rfl, if_neg (ixN hj (by omega)), zA_I, ra.2, if_pos (by decide), obd_s]
    rfl
  · have ra0 := ra
    rw [rep_C] at ra0
    obtain ⟨j2, -, ej2, hj2, -⟩ := ra0
    have hbeg : ∀ m, fX12_makeS_b11 N (m + 1) τ = fX12_makeS_b11 N m (tsS (zsI τ 0 63 (nI b)) b 1 (zA τ 16 j)) := by
      intro m
      rw [mk_pop hR.2.2 (by omega), h36, if_pos rfl, h37]
      unfold fX12_begins2
      rw [nI_clamp (by omega), if_neg (ixN hj (by omega)), h15', bnd_e, if_pos rfl, if_neg (ixN hj (by omega)), zA_I, if_neg (by rw [ej2]; exact nI_pos (by omega)), if_neg (ixN hj (by omega)), taskR e63 (by omega), obd_s, obd_s]
    have hF : fM lo hi p b τ (tsS (zsI τ 0 63 (nI b)) b 1 (zA τ 16 j)) := fM_ts (fM_63 fM_refl) (Nat.le_refl _)
    obtain ⟨u, k, g1, g2, g3, g4, g5⟩ := hA (j + 1) p1 (zA τ 16 j) _ p b (rep_fM hF ra) (RM_ts (RM_63 hR)) ts_36 ts_37 (by omega) (by omega)
    refine ⟨u, k + 1, fun m => ?_, by omega, fM_trans hF g3 (by omega) (by omega) (Nat.le_refl _) (Nat.le_refl _), ?_, ?_⟩
    · rw [show m + (k + 1) = (m + k) + 1 by omega, hbeg, g1]
    · rw [hg]; exact g4
    · rw [hgn]; exact g5
