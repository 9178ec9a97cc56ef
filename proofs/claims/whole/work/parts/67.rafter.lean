/-! THE REFERENCE'S READER: E whole -/
def yRest (x : Nat → Int32) (n tc : Nat) (G : gE) (L : lE) (R : yRec) (f ns : Nat) (cl : Int32) (o : yOps × Nat × yTok × Nat) : Except Int32 (fT × yTok × Nat) :=
  xb (yOper x n tc R G L o.2.1 o.2.2.1 o.2.2.2) (fun u =>
      if yEnds cl u.2.1.2.2.1 = false ∧ rk u.2.1.2.2.1 = 0 then er 2 u.2.1.2.1
      else match u.2.2.2 with
      | some p => er 5 p
      | none => if rk u.2.1.2.2.1 = 0 then .ok ((jnA 0 (clO o.1 u.1).1 (clO o.1 u.1).2).2, u.2.1, u.2.2.1)
        else xb (fo tc u.2.2.1 u.2.1.2.1) (fun c3 => xb (cm x n u.2.1) (fun t3 =>
          yLoop x n tc G L R f ((u.2.1.2.2.1, (jnA (rk u.2.1.2.2.1) (clO o.1 u.1).1 (clO o.1 u.1).2).2) :: (jnA (rk u.2.1.2.2.1) (clO o.1 u.1).1 (clO o.1 u.1).2).1) ns cl t3 c3)))
theorem yLoop_R {x : Nat → Int32} {n tc : Nat} {G : gE} {L : lE} {R : yRec} {f : Nat} {ops : yOps} {ns : Nat} {cl : Int32} {tk : yTok} {c : Nat} : yLoop x n tc G L R (f + 1) ops ns cl tk c = xb (yOpen x n tc 42 ops ns tk c) (yRest x n tc G L R f ns cl) := by
  rw [yLoop]
  rfl
/-- how a whole E goes on, well: from a pile that stands above lo -/
def OKL (x : Nat → Int32) (n tc : Nat) (G : gE) (L : lE) (N : Nat) (tk : yTok) (ns lo nd v : Nat) (cl : Int32) (τ : zSt) (Q : Int32 → zSt → Prop) (res : Except Int32 (fT × yTok × Nat)) : Prop :=
  ∀ t tk' c' i nd' m' u, res = .ok (t, tk', c') → RV x n tc G L tk' c' ns nd' (v + 1) u → BD n tc tk' c' ns nd' (v + 1) → fE lo (v + 1) τ u → nd ≤ nd' → rep u t lo nd' (nI i) → zA u 21 i = -1 → i < 4200 → yEnds cl tk'.2.2.1 = true → tk.2.1 < tk'.2.1 → n + 5 ≤ m' + 1 + tk'.2.1 → wp (obd (fX12_endsOpen N (nI i) u) (fun r z => fX12_works_b2 N m' r z)) Q
theorem BD_w {n tc : Nat} {tk : yTok} {c ns nd w w' : Nat} (h : BD n tc tk c ns nd w) (hw : w' ≤ w) : BD n tc tk c ns nd w' := ⟨h.1, h.2.1, h.2.2.1, h.2.2.2.1, h.2.2.2.2.1, by have := h.2.2.2.2.2; omega⟩
/-- a part is there, and the token behind it may stand there -/
theorem afterP {x : Nat → Int32} {n tc : Nat} {G : gE} {L : lE} {N : Nat} {R : yRec} {f ns lo nd v w lw m i0 c : Nat} {cl : Int32} {tk : yTok} {l ops : yOps} {t : fT} {τ : zSt} {Q : Int32 → zSt → Prop} {Y : Nat → Except Int32 (fT × yTok × Nat)}
    (hn : n ≤ 512) (hN : 5000 ≤ N) (hV : RV x n tc G L tk c (ns + l.length) nd w τ) (hB : BD n tc tk c (ns + l.length) nd w) (hS : STK τ v lo cl l ops w lw nd) (hr : rep τ t lw nd (nI i0)) (h21 : zA τ 21 i0 = -1) (hi : i0 < 4200) (hm : n + 5 ≤ m + tk.2.1)
    (hset : ¬ (yEnds cl tk.2.2.1 = false ∧ rk tk.2.2.1 = 0)) (res : Except Int32 (fT × yTok × Nat))
    (hres : res = if rk tk.2.2.1 = 0 then .ok ((jnA 0 ops (wrap l t)).2, tk, c) else xb (fo tc c tk.2.1) (fun c3 => xb (cm x n tk) (fun t3 => yLoop x n tc G L R f ((tk.2.2.1, (jnA (rk tk.2.2.1) ops (wrap l t)).2) :: (jnA (rk tk.2.2.1) ops (wrap l t)).1) ns cl t3 c3)))
    (hok : ∀ i m' u, rk tk.2.2.1 = 0 → RV x n tc G L tk c ns nd (v + 1) u → BD n tc tk c ns nd (v + 1) → fE lo (v + 1) τ u → rep u (jnA 0 ops (wrap l t)).2 lo nd (nI i) → zA u 21 i = -1 → i < 4200 → yEnds cl tk.2.2.1 = true → n + 5 ≤ m' + 1 + tk.2.1 → wp (obd (fX12_endsOpen N (nI i) u) (fun r z => fX12_works_b2 N m' r z)) Q)
    (hgo : ∀ c3 t3 m' w' u, rk tk.2.2.1 ≠ 0 → fo tc c tk.2.1 = .ok c3 → cm x n tk = .ok t3 → RV x n tc G L t3 c3 ns (nd + 1) w' u → BD n tc t3 c3 ns (nd + 1) w' → fE lo (v + 1) τ u → STK u v lo cl [] ((tk.2.2.1, (jnA (rk tk.2.2.1) ops (wrap l t)).2) :: (jnA (rk tk.2.2.1) ops (wrap l t)).1) w' (nd + 1) (nd + 1) → n + 5 ≤ m' + t3.2.1 → wp (fX12_works_b2 N m' (-1) u) Q)
    (her : ∀ e r u, res = .error e → e ≠ 0 → FO x n e v cl τ u → Q r u) : wp (fX12_works_b2 N m (nI i0) τ) Q := by
  have hBl := BD_le hB hn
  have hws := STK_w hS
  obtain ⟨b1, b2, b3, b4, b5, b6⟩ := hB
  obtain ⟨s1, s2, s3, s4, s5⟩ := hS
  obtain ⟨w', rfl⟩ : ∃ g, w = g + 1 := ⟨w - 1, by omega⟩
  obtain ⟨m, rfl⟩ : ∃ g, m = g + 2 := ⟨m - 2, by have := b1.1; have := b1.2.1; omega⟩
  have hK := rT_K hV.2.1
  rw [wkX hV.2.2.1 hV.2.2.2.2.2.2 (by omega) hi]
  obtain ⟨i1, u, w2, l2, p1, p2, p3, p4, p5, p6, p7, p8, p9, p10, p11⟩ := popO (N := N) (k2 := fX12_works_b2 N (m + 1)) l t i0 τ (w' + 1) lw nd ns (N - l.length) s2 s4 hV.2.2.2.2.2.2 (by omega) hV.2.2.2.2.1 hi s5
  rw [show N - l.length + l.length = N by omega] at p1
  rw [p1]
  have hle2 := rOps_le p3
  have hr1 := p10 hr
  have ha1 := p11 h21
  have hlo : lo ≤ l2 := hle2.2.1
  obtain ⟨w2', rfl⟩ : ∃ g, w2 = g + 1 := ⟨w2 - 1, by omega⟩
  have u21 : zI u 0 21 = 0 := p8.2.2.2.1.trans hV.2.2.1
  have huK := rK_same hK p8
  have hopu : opn u v cl := opn_fE s1 p9 (by omega)
  have hVu : RV x n tc G L tk c ns nd (w2' + 1) u := ⟨rS_fE hV.1 p9, rT_same p8 hV.2.1, u21, p8.2.2.2.2.1.trans hV.2.2.2.1, p7, p8.2.2.2.2.2.1.trans hV.2.2.2.2.2.1, p5⟩
  have h4 : ¬ zA u 29 w2' = 4 := by
    cases ops with
    | nil => obtain ⟨q1, -⟩ := p3; rw [show w2' = v by omega]; exact (opn_5 hopu).2
    | cons o r =>
      obtain ⟨q1, q2, q3, q4, q5, q6, q7, q8, q9, q10, q11, q12, q12b, q13⟩ := p3
      have hp := s3 o (List.mem_cons_self ..)
      rw [if_neg (fun q => by rw [isOne_rk q] at hp; omega)] at q13
      rw [show w2' = q1 by omega, q13.1]
      decide
  obtain ⟨ff, hff⟩ : ∃ g, N - l.length = g + 1 := ⟨N - l.length - 1, by omega⟩
  rw [hff, fX12_works_b28]
  simp (disch := omega) only [p5, nIneg, nI_clamp, leF, or_false, false_or, or_self, if_false, reduceIte, nI_1, nI_pred, bnd_e, obd_s, h4]
  have hop29 : zA u 29 (v + 1 - 1) ≠ 5 := by rw [Nat.add_sub_cancel]; exact (opn_5 hopu).1
  by_cases hrk : rk tk.2.2.1 = 0
  · rw [if_pos hrk] at hres
    have hEnd : yEnds cl tk.2.2.1 = true := by
      by_cases q : yEnds cl tk.2.2.1 = true
      · exact q
      · exact (hset ⟨Bool.not_eq_true _ ▸ q, hrk⟩).elim
    obtain ⟨j1, z, w3, l3, c1, c2, c3, c4, c5, c6, c7, c8, c9, c10, c11⟩ := secR (N := N) (k := 0) (by omega) (by omega) (fun _ => trivial) ops (wrap l t) i1 u (w2' + 1) l2 nd N s3 p3 p5 (by omega) (by omega) hop29 p2 p4 (by omega)
    have hbr : wp (fX12_works_b119 N (fX12_works_b2 N (m + 1)) (nI i1) u) Q := by
      unfold fX12_works_b119 fX12_second
      rw [show (-1 : Int32) = nI 0 - 1 from rfl, c1, obd_s]
      have hj : ∀ (ops : yOps) (t : fT), (jnA 0 ops t).1 = [] := by
        intro ops
        induction ops with
        | nil => intro t; rfl
        | cons o r ih => intro t; rw [jnA, if_neg (by omega)]; exact ih _
      rw [hj ops _] at c3
      obtain ⟨q1, q2⟩ := c3
      subst q1
      subst q2
      refine hok j1 (m + 1) z hrk ⟨rS_fE hVu.1 c9, rT_same c8 hVu.2.1, c8.2.2.2.1.trans u21, c8.2.2.2.2.1.trans hVu.2.2.2.1, c7.trans p7, c8.2.2.2.2.2.1.trans hVu.2.2.2.2.2.1, c5⟩ ⟨b1, b2, b3, by omega, b5, by omega⟩ (fE_trans p9 c9 (Nat.le_refl _) (Nat.le_refl _)) (c10 hr1) (c11 ha1) c2 hEnd (by omega)
    by_cases hk4 : zI u 0 19 = 4
    · obtain ⟨g1, g2⟩ := rK_4 huK hk4
      rw [if_pos hk4, levelR g2, obd_s, g1, hrk, if_pos (by decide)]
      exact hbr
    · rw [if_neg hk4]
      exact hbr
  · rw [if_neg hrk] at hres
    have hk4 : zI u 0 19 = 4 := by
      by_cases q : zI u 0 19 = 4
      · exact q
      · exact (hrk (rk_k4 huK q).1).elim
    obtain ⟨g1, g2⟩ := rK_4 huK hk4
    have hlt : tk.2.1 < tk.1 := by
      rcases b1.2.2.1 with q | q
      · rw [q] at hrk; exact absurd (by decide) hrk
      · exact q
    rw [if_pos hk4, levelR g2, obd_s, g1, if_neg (fun q => hrk ((rk_lt _).mp q))]
    obtain ⟨j1, z, w3, l3, c1, c2, c3, c4, c5, c6, c7, c8, c9, c10, c11⟩ := secR (N := N) (k := rk tk.2.2.1) (rk_le _) (by omega) (fun _ => trivial) ops (wrap l t) i1 u (w2' + 1) l2 nd N s3 p3 p5 (by omega) (by omega) hop29 p2 p4 (by omega)
    have hle3 := rOps_le c3
    unfold fX12_binary fX12_second
    rw [levelR g2, obd_s, g1, c1, obd_s]
    have hVz : RV x n tc G L tk c ns nd w3 z := ⟨rS_fE hVu.1 c9, rT_same c8 hVu.2.1, c8.2.2.2.1.trans u21, c8.2.2.2.2.1.trans hVu.2.2.2.1, c7.trans p7, c8.2.2.2.2.2.1.trans hVu.2.2.2.2.2.1, c5⟩
    have hEz : fE lo (v + 1) τ z := fE_trans p9 c9 (Nat.le_refl _) (Nat.le_refl _)
    have hrz := c10 hr1
    have hgz2 : sgOf (zL z 0 20) = tk.2.2.1 := by rw [c8.2.2.2.2.2.2]; exact g1
    rw [hVz.2.1.2.1]
    -- all three kinds of node at once
    have hsame : ∀ (s : zSt), (if nI (rk tk.2.2.1) - 1 = 0 then fX12_binary_b45 N (nI (rk tk.2.2.1) - 1) (nI j1) 8 s else if nI (rk tk.2.2.1) - 1 = 1 then fX12_binary_b45 N (nI (rk tk.2.2.1) - 1) (nI j1) 7 s else fX12_binary_b45 N (nI (rk tk.2.2.1) - 1) (nI j1) 6 s) = fX12_binary_b45 N (nI (rk tk.2.2.1) - 1) (nI j1) (opK tk.2.2.1) s := by
      intro s
      rcases rk_in (Nat.pos_of_ne_zero hrk) with q | q | q | q | q | q | q | q | q | q | q | q | q | q | q | q | q | q <;> rw [q] <;> rfl
    -- node, sign, waiting
    have hb45 : ∀ (s : zSt) (d : Nat), zI s 0 38 = nI d → d < 4200 → sgOf (zL s 0 20) = tk.2.2.1 → zI s 0 54 = nI w3 → srcR x n s → zI s 0 17 = nI tk.1 → fX12_binary_b45 N (nI (rk tk.2.2.1) - 1) (nI j1) (opK tk.2.2.1) s = some ((), nxS x n tk.1 (wtS (zsA (zsA (ndS s (opK tk.2.2.1) d) 19 d (opV tk.2.2.1)) 16 d (nI j1)) w3 5 (nI d) (nI (rk tk.2.2.1) - 1))) := by
      intro s d q1 q2 q3 q4 q5 q6
      unfold fX12_binary_b45
      rw [nodeR q1 q2, obd_s, ndS_L, opOfR (by rw [q3]; exact Nat.pos_of_ne_zero hrk), obd_s, q3, nI_clamp (show d < 2 ^ 31 by omega), if_neg (ixN q2 (by omega)), bnd_e, if_neg (ixN q2 (by omega)), bnd_e, waitsR (w := w3) (by rw [zI_A, zI_A, ndS_I (by omega)]; exact q4) (by omega), obd_s, nx_eq (x := x) (n := n) (p := tk.1) (srcR_fP q5 (wtS_P (fP_A (fP_A (ndS_P fP_refl) (by omega)) (by omega)))) (by rw [wtS_I (by omega), zI_A, zI_A, ndS_I (by omega)]; exact q6) b1.2.1 (by omega), obd_s]
      rfl
    cases hfo : fo tc c tk.2.1 with
    | error e =>
      rw [hfo, xb_e] at hres
      have he0 := fo_ne hfo (by omega)
      have hfx : FXb x n 1100 e τ (zsI (zsI z 0 21 e) 0 36 (nI (c + 4))) := FX_tr (FX_I (FX_mk (RV_rD hVz b1.2.1 (by omega))) (by omega)) (fE_P hEz)
      rw [fourE hfo hVz.2.2.1 hVz.2.2.2.1 hVz.1.2.1 (by omega), obd_s, hsame, hb45 (zsI (zsI z 0 21 e) 0 36 (nI (c + 4))) nd (by simp only [zI_I, zI_L, zI_R, zI_A, zI_B, zL_I, zL_L, zL_R, zL_A, zL_B, zA_I, zA_L, zA_R, zA_A, zA_B, zB_I, zB_L, zB_R, zB_A, zB_B, reduceIte, Nat.reduceEqDiff, Nat.reduceEqDiff, false_and, and_false, true_and, and_true, ne_eq, not_false_eq_true, not_true_eq_false]; exact hVz.2.2.2.2.2.1) (by omega) hgz2 (by simp only [zI_I, zI_L, zI_R, zI_A, zI_B, zL_I, zL_L, zL_R, zL_A, zL_B, zA_I, zA_L, zA_R, zA_A, zA_B, zB_I, zB_L, zB_R, zB_A, zB_B, reduceIte, Nat.reduceEqDiff, Nat.reduceEqDiff, false_and, and_false, true_and, and_true, ne_eq, not_false_eq_true, not_true_eq_false]; exact c5) hfx.2.1.1 (by simp only [zI_I, zI_L, zI_R, zI_A, zI_B, zL_I, zL_L, zL_R, zL_A, zL_B, zA_I, zA_L, zA_R, zA_A, zA_B, zB_I, zB_L, zB_R, zB_A, zB_B, reduceIte, Nat.reduceEqDiff, Nat.reduceEqDiff, false_and, and_false, true_and, and_true, ne_eq, not_false_eq_true, not_true_eq_false]; exact hVz.2.1.1), obd_s]
      have hf2 : FXb x n 1100 e τ (nxS x n tk.1 (wtS (zsA (zsA (ndS (zsI (zsI z 0 21 e) 0 36 (nI (c + 4))) (opK tk.2.2.1) nd) 19 nd (opV tk.2.2.1)) 16 nd (nI j1)) w3 5 (nI nd) (nI (rk tk.2.2.1) - 1))) := by
        refine FX_nx ?_ b1.2.1
        unfold wtS
        exact FX_I (FX_A (FX_A (FX_A (FX_A (FX_A (FX_A (FX_A (FX_nd hfx (by omega)) (by omega)) (by omega)) (by omega)) (by omega)) (by omega)) (by omega)) (by omega)) (by omega)
      exact deadV hf2 (by omega) he0 (by omega) (fun r y hy => her e r y hres he0 hy)
    | ok c3' =>
      rw [hfo, xb_k] at hres
      obtain ⟨hc1, hc2⟩ := fo_kk hfo
      have hVz2 : RV x n tc G L tk c3' ns nd w3 (zsI z 0 36 (nI c3')) := RV_36 hVz
      have hEz2 : fE lo (v + 1) τ (zsI z 0 36 (nI c3')) := fE_I hEz (by omega)
      rw [fourT hfo hVz.2.2.2.1 hVz.1.2.1 b3, obd_s, hsame, hb45 _ nd hVz2.2.2.2.2.2.1 (by omega) hgz2 hVz2.2.2.2.2.2.2 hVz2.1.1 hVz2.2.1.1, obd_s]
      -- the pile with the new sign
      have hV5 : RV x n tc G L tk c3' ns (nd + 1) (w3 + 1) (wtS (zsA (zsA (ndS (zsI z 0 36 (nI c3')) (opK tk.2.2.1) nd) 19 nd (opV tk.2.2.1)) 16 nd (nI j1)) w3 5 (nI nd) (nI (rk tk.2.2.1) - 1)) := RV_wt (RV_A (RV_A (RV_nd hVz2) (by omega)) (by omega))
      have hE5 : fE lo (v + 1) τ (wtS (zsA (zsA (ndS (zsI z 0 36 (nI c3')) (opK tk.2.2.1) nd) 19 nd (opV tk.2.2.1)) 16 nd (nI j1)) w3 5 (nI nd) (nI (rk tk.2.2.1) - 1)) := wtS_E (fE_A (fE_A (ndS_E hEz2 (by omega)) (by omega)) (by omega)) (by omega)
      have hS5 : STK (wtS (zsA (zsA (ndS (zsI z 0 36 (nI c3')) (opK tk.2.2.1) nd) 19 nd (opV tk.2.2.1)) 16 nd (nI j1)) w3 5 (nI nd) (nI (rk tk.2.2.1) - 1)) v lo cl [] ((tk.2.2.1, (jnA (rk tk.2.2.1) ops (wrap l t)).2) :: (jnA (rk tk.2.2.1) ops (wrap l t)).1) (w3 + 1) (nd + 1) (nd + 1) := by
        have hfr : ∀ a i, (i ≠ nd ∨ a < 15 ∨ 21 < a) → (i ≠ w3 ∨ a < 29 ∨ 33 < a) → zA (wtS (zsA (zsA (ndS (zsI z 0 36 (nI c3')) (opK tk.2.2.1) nd) 19 nd (opV tk.2.2.1)) 16 nd (nI j1)) w3 5 (nI nd) (nI (rk tk.2.2.1) - 1)) a i = zA z a i := by
          intro a i q1 q2
          rw [wtS_A q2, zA_A, if_neg (by omega), zA_A, if_neg (by omega), ndS_A q1, zA_I]
        refine ⟨opn_cong hopu (fun a q1 q2 => ?_), fun o ho => (List.not_mem_nil ho).elim, ?_, ⟨w3, l3, nd, rfl, ?_, c4, rfl, by omega, ?_, ?_, ?_, ?_, ?_, ?_⟩, Nat.le_refl _⟩
        · rw [hfr a v (by omega) (by omega), c9.2.1 a v (by omega) (by omega)]
        · intro o ho
          have hmem : ∀ (k : Nat) (ops : yOps) (t : fT), (∀ o ∈ ops, 0 < rk o.1) → ∀ o ∈ (jnA k ops t).1, 0 < rk o.1 := by
            intro k ops
            induction ops with
            | nil => intro t h o ho; exact h o ho
            | cons a r ih =>
              intro t h o ho
              unfold jnA at ho
              split at ho
              · exact h o ho
              · exact ih _ (fun q hq => h q (List.mem_cons_of_mem _ hq)) o ho
          rcases List.mem_cons.mp ho with e | e
          · rw [e]; exact Nat.pos_of_ne_zero hrk
          · exact hmem _ _ _ s3 o e
        · exact rOps_frame (fun a i q1 q2 q3 q4 => hfr a i (by omega) (by omega)) (fun a i q1 q2 q3 q4 => hfr a i (by omega) (by omega)) c3
        · exact wtS_t.2.1
        · rw [wtS_A (by omega), zA_A, if_neg (by omega), zA_A, if_neg (by omega), nd17]
        · rw [wtS_A (by omega), zA_A, if_neg (by omega), zA_A, if_neg (by omega), nd18]
        · rw [wtS_A (by omega), zA_A, if_neg (by omega), zA_A, if_neg (by omega), nd20]
        · rw [wtS_A (by omega), zA_A, if_neg (by omega), zA_A, if_neg (by omega), nd21]
        · have hone : ¬ isOne tk.2.2.1 = true := fun q => hrk (isOne_rk q)
          rw [if_neg hone]
          refine ⟨wtS_t.1, wtS_t.2.2.1, ?_, ?_, ?_⟩
          · rw [wtS_A (by omega), zA_A, if_neg (by omega), zA_A, if_neg (by omega), nd15]
          · rw [wtS_A (by omega), zA_A, if_neg (by omega), zA_A, if_pos ⟨rfl, rfl⟩]
          · rw [wtS_A (by omega), zA_A, if_pos ⟨rfl, rfl⟩]
            refine rep_frame _ _ _ _ (fun j hj => ⟨⟨hj.1, hj.2⟩, fun a q1 q2 => hfr a j (by have := hj.2; omega) (by omega)⟩) hrz
      revert hV5 hE5 hS5
      generalize wtS (zsA (zsA (ndS (zsI z 0 36 (nI c3')) (opK tk.2.2.1) nd) 19 nd (opV tk.2.2.1)) 16 nd (nI j1)) w3 5 (nI nd) (nI (rk tk.2.2.1) - 1) = s5
      intro hV5 hE5 hS5
      cases hcm : cm x n tk with
      | error e =>
        rw [hcm, xb_e] at hres
        have he0 := cm_ne hn hcm b1.2.1
        have hpd := PD_nx (τ := s5) hcm hV5.2.2.1
        obtain ⟨m, rfl⟩ : ∃ g, m = g + 1 := ⟨m - 1, by omega⟩
        exact badF (v := v) (cl := cl) (K := -1) (w := w3) (rD_le (rD_nx (RV_rD hV5 b1.2.1 (by omega)) b1.2.1) (by omega)) ((nxS_I (by omega)).trans hV5.2.2.2.2.2.2) (by omega) hpd.1 (PD_K hpd) (by decide) (stE_P hpd).symm he0 (fun r y hy => her e r y hres he0 (FO_tr hy (nxS_P (fE_P hE5)) (by rw [nxS_A]; exact hE5.2.1 29 v (by omega) (by omega))))
      | ok t3 =>
        have ht3 := sat_get (cm_ok (x := x) (n := n) (t := tk) (by omega) b1.2.1) hcm
        have hh3 := ht3.2
        exact hgo c3' t3 (m + 1) (w3 + 1) _ hrk hfo hcm (RV_n hcm hV5) ⟨ht3.1, by omega, b3, by omega, by omega, by omega⟩ (nxS_E hE5) (STK_fE (nd' := nd + 1) hS5 (nxS_E fE_refl) (Nat.le_refl _)) (by omega)
