/-! THE REFERENCE: compile(), whole -/
/-- the kept text -/
def KP (tc : Nat) (P : yP) (xk : Nat → Int32) (nk : Nat) (τ : zSt) : Prop := zI τ 0 70 = nI nk ∧ nk ≤ 512 ∧ (∀ j, j < nk → zA τ 41 j = xk j) ∧ yRead xk nk tc = .ok P
def PG (P : yP) (τ : zSt) : Prop := PM P τ ∧ zI τ 0 29 = nI P.2.1
def fCf (τ u : zSt) : Prop := (∀ j, j ≤ 15 ∨ 64 ≤ j → zI u 0 j = zI τ 0 j) ∧ (∀ a i, a ≤ 5 ∨ 41 ≤ a → zA u a i = zA τ a i)
theorem fCf_trans {τ u v : zSt} (h : fCf τ u) (h2 : fCf u v) : fCf τ v := ⟨fun j q => (h2.1 j q).trans (h.1 j q), fun a i q => (h2.2 a i q).trans (h.2 a i q)⟩
theorem PV_PG {x : Nat → Int32} {n tc : Nat} {P : yP} {tk : yTok} {c nd : Nat} {τ : zSt} (h : PV x n tc P tk c nd τ) : PG P τ :=
  ⟨⟨h.2.1, fun g hg => ⟨(h.1.2.2 g hg).1, (h.1.2.2 g hg).2.1, (h.1.2.2 g hg).2.2.1⟩, h.2.2.2.2.2.2.2.2.1⟩, h.2.2.2.2.2.2.2.1⟩
theorem cd_2 {τ z : zSt} {n : Nat} {l : List Int32} (h : cd τ 0 l) (hl : l.length = n) (hz : ∀ i, i < n → zA z 2 i = zA τ 34 i) : ∀ (j : Nat) (v : Int32), l[j]? = some v → zA z 2 j = v := by
  intro j v hj
  have hlt := (List.getElem?_eq_some_iff.mp hj).1
  rw [hz j (by omega)]
  have := h j v hj
  rw [show 0 + j = j by omega] at this
  exact this
section
variable {N n tc cc : Nat} {x xk : Nat → Int32} {P : yP} {nk : Nat} {τ u : zSt}
theorem keptR (hN : 5000 ≤ N) (h3 : zI u 0 3 = nI tc) (htc : tc ≤ 4096) (hk : zI u 0 71 ≠ 0 → KP tc P xk nk u) : wp (fX12_readKept N u) (fun _ z => fCf u z ∧ (zI u 0 71 ≠ 0 → PG P z)) := by
  unfold fX12_readKept
  by_cases c : zI u 0 71 = 0
  · rw [if_pos c]
    exact wp_s ⟨⟨fun _ _ => rfl, fun _ _ _ => rfl⟩, fun h => absurd c h⟩
  · rw [if_neg c]
    obtain ⟨k1, k2, k3, k4⟩ := hk c
    have h16 : zI (zsI u 0 16 (zI u 0 70)) 0 16 = nI (0 + nk) := by rw [zI_I, if_pos ⟨rfl, rfl⟩, k1, Nat.zero_add]
    rw [bnd_e, bnd_e, show (0 : Int32) = nI 0 from rfl, b18R nk 0 N _ h16 (by omega) (by omega)]
    have e1 : ∀ j, j ≠ 16 → zI (cpS 6 41 0 nk (zsI u 0 16 (zI u 0 70))) 0 j = zI u 0 j := fun j hj => by rw [cpS_I, zI_I, if_neg (by omega)]
    have e2 : zI (cpS 6 41 0 nk (zsI u 0 16 (zI u 0 70))) 0 16 = nI nk := by rw [cpS_I, h16, Nat.zero_add]
    have e3 : ∀ a i, a ≠ 6 → zA (cpS 6 41 0 nk (zsI u 0 16 (zI u 0 70))) a i = zA u a i := fun a i ha => by rw [cpS_n _ _ _ (Or.inl ha), zA_I]
    have e4 : ∀ j, j < nk → zA (cpS 6 41 0 nk (zsI u 0 16 (zI u 0 70))) 6 j = xk j := fun j hj => by rw [cpS_v (by omega) _ _ _ (Nat.zero_le _) (by omega), zA_I]; exact k3 j hj
    revert e1 e2 e3 e4
    generalize cpS 6 41 0 nk (zsI u 0 16 (zI u 0 70)) = y
    intro e1 e2 e3 e4
    refine wp_obd (wp_mono (readR (x := xk) (n := nk) (tc := tc) (τ := y) k2 hN ⟨e2, by omega, e4⟩ ((e1 3 (by omega)).trans h3) htc) (fun _ z hz => ?_))
    obtain ⟨tk, c', nd, p1, p2, p3⟩ := hz.2 P k4
    exact wp_s ⟨⟨fun j hj => (p3.1 j (by omega)).trans (e1 j (by omega)), fun a i ha => (p3.2 a i (by omega)).trans (e3 a i (by omega))⟩, fun _ => PV_PG p1⟩
theorem b72F {e : Int32} (hN : 5000 ≤ N) (h21 : zI u 0 21 = e) (he : e ≠ 0) (h3 : zI u 0 3 = nI tc) (htc : tc ≤ 4096) (hk : zI u 0 71 ≠ 0 → KP tc P xk nk u) : wp (fX12_compile_b72 N u) (fun r z => r = e ∧ fCf u z ∧ (zI u 0 71 ≠ 0 → PG P z)) := by
  unfold fX12_compile_b72
  rw [isWellF (by rw [h21]; exact he), obd_s, if_pos rfl, bnd_e, h21]
  exact wp_obd (wp_mono (keptR hN h3 htc hk) (fun _ z hz => wp_s ⟨rfl, hz⟩))
def fCo (τ u : zSt) : Prop := (∀ j, j ≤ 5 ∨ (7 ≤ j ∧ j ≤ 11) → zI u 0 j = zI τ 0 j) ∧ (∀ a i, a = 1 ∨ a = 4 ∨ a = 5 → zA u a i = zA τ a i)
theorem KP_f (h : fCf τ u) (hk : KP tc P xk nk τ) : KP tc P xk nk u := ⟨(h.1 70 (by omega)).trans hk.1, hk.2.1, fun j hj => (h.2 41 j (by omega)).trans (hk.2.2.1 j hj), hk.2.2.2⟩
theorem PG_c (hp : PG P τ) (h22 : zI u 0 22 = zI τ 0 22) (h29 : zI u 0 29 = zI τ 0 29) (hB : ∀ i, zB u 7 i = zB τ 7 i) (hA : ∀ a i, 8 ≤ a → a ≤ 21 → zA u a i = zA τ a i) : PG P u :=
  ⟨⟨h22.trans hp.1.1, fun g hg => ⟨(hB g).trans (hp.1.2.1 g hg).1, (hA 8 g (by omega) (by omega)).trans (hp.1.2.1 g hg).2.1, (hA 10 g (by omega) (by omega)).trans (hp.1.2.1 g hg).2.2⟩, fun g hg hk => by
    obtain ⟨r1, r2⟩ := hp.1.2.2 g hg hk
    exact ⟨by rw [hA 11 g (by omega) (by omega)]; exact rep_frame _ _ _ _ (fun m hm => ⟨hm, fun a a1 a2 => hA a m (by omega) (by omega)⟩) r1, (hA 12 g (by omega) (by omega)).trans r2⟩⟩, h29.trans hp.2⟩
theorem b72T {v : Int32} {Q : yP} (hN : 5000 ≤ N) (hn : n ≤ 512) (h21 : zI u 0 21 = 0) (h16 : zI u 0 16 = nI n) (hx : ∀ j, j < n → zA u 6 j = x j) (h61 : zI u 0 61 = nI Q.2.2.1) (hc : Q.2.2.1 ≤ 4096) (hcd : cd u 0 (prL Q v Q.1.2.2.2.2)) (hl : szN Q Q.1.2.2.2.2 = Q.2.2.1) (hPG : PG Q u) (hy : yRead x n tc = .ok Q) :
    wp (fX12_compile_b72 N u) (fun r z => r = 0 ∧ fCo u z ∧ KP tc Q x n z ∧ PG Q z ∧ zI z 0 71 = 1 ∧ zI z 0 6 = nI Q.2.2.1 ∧ (∀ (j : Nat) (w : Int32), (prL Q v Q.1.2.2.2.2)[j]? = some w → zA z 2 j = w) ∧ RSg z) := by
  unfold fX12_compile_b72
  rw [isWellT h21, obd_s, if_neg (by decide), bnd_e, bnd_e, h16, show (0 : Int32) = nI 0 from rfl]
  rw [b100R n 0 N (zsI u 0 70 (nI n)) (by rw [zI_I, if_neg (by omega), h16, Nat.zero_add]) (by omega) (by omega)]
  rw [zI_I, if_neg (by omega), h61]
  have f1 : ∀ j, j ≠ 6 → j ≠ 70 → zI (zsI (cpS 41 6 0 n (zsI u 0 70 (nI n))) 0 6 (nI Q.2.2.1)) 0 j = zI u 0 j := fun j a b => by rw [zI_I, if_neg (by omega), cpS_I, zI_I, if_neg (by omega)]
  have f2 : zI (zsI (cpS 41 6 0 n (zsI u 0 70 (nI n))) 0 6 (nI Q.2.2.1)) 0 6 = nI (0 + Q.2.2.1) := by rw [zI_I, if_pos ⟨rfl, rfl⟩, Nat.zero_add]
  have f3 : zI (zsI (cpS 41 6 0 n (zsI u 0 70 (nI n))) 0 6 (nI Q.2.2.1)) 0 70 = nI n := by rw [zI_I, if_neg (by omega), cpS_I, zI_I, if_pos ⟨rfl, rfl⟩]
  have f4 : ∀ a i, a ≠ 41 → zA (zsI (cpS 41 6 0 n (zsI u 0 70 (nI n))) 0 6 (nI Q.2.2.1)) a i = zA u a i := fun a i ha => by rw [zA_I, cpS_n _ _ _ (Or.inl ha), zA_I]
  have f5 : ∀ j, j < n → zA (zsI (cpS 41 6 0 n (zsI u 0 70 (nI n))) 0 6 (nI Q.2.2.1)) 41 j = x j := fun j hj => by rw [zA_I, cpS_v (by omega) _ _ _ (Nat.zero_le _) (by omega), zA_I]; exact hx j hj
  have f6 : ∀ a i, zB (zsI (cpS 41 6 0 n (zsI u 0 70 (nI n))) 0 6 (nI Q.2.2.1)) a i = zB u a i := fun a i => by rw [zB_I, cpS_B, zB_I]
  revert f1 f2 f3 f4 f5 f6
  generalize zsI (cpS 41 6 0 n (zsI u 0 70 (nI n))) 0 6 (nI Q.2.2.1) = y
  intro f1 f2 f3 f4 f5 f6
  rw [show (0 : Int32) = nI 0 from rfl, b136R Q.2.2.1 0 N y f2 (by omega) (by omega)]
  have g1 : ∀ j, j ≠ 6 → j ≠ 70 → j ≠ 71 → zI (zsI (cpS 2 34 0 Q.2.2.1 y) 0 71 1) 0 j = zI u 0 j := fun j a b c => by rw [zI_I, if_neg (by omega), cpS_I]; exact f1 j a b
  have g2 : zI (zsI (cpS 2 34 0 Q.2.2.1 y) 0 71 1) 0 6 = nI Q.2.2.1 := by rw [zI_I, if_neg (by omega), cpS_I, f2, Nat.zero_add]
  have g3 : zI (zsI (cpS 2 34 0 Q.2.2.1 y) 0 71 1) 0 70 = nI n := by rw [zI_I, if_neg (by omega), cpS_I, f3]
  have g4 : zI (zsI (cpS 2 34 0 Q.2.2.1 y) 0 71 1) 0 71 = 1 := by rw [zI_I, if_pos ⟨rfl, rfl⟩]
  have g5 : ∀ a i, a ≠ 41 → a ≠ 2 → zA (zsI (cpS 2 34 0 Q.2.2.1 y) 0 71 1) a i = zA u a i := fun a i ha hb => by rw [zA_I, cpS_n _ _ _ (Or.inl hb), f4 a i ha]
  have g6 : ∀ j, j < n → zA (zsI (cpS 2 34 0 Q.2.2.1 y) 0 71 1) 41 j = x j := fun j hj => by rw [zA_I, cpS_n _ _ _ (Or.inl (by omega)), f5 j hj]
  have g7 : ∀ i, i < Q.2.2.1 → zA (zsI (cpS 2 34 0 Q.2.2.1 y) 0 71 1) 2 i = zA u 34 i := fun i hi => by rw [zA_I, cpS_v (by omega) _ _ _ (Nat.zero_le _) (by omega), f4 34 i (by omega)]
  have g8 : ∀ a i, zB (zsI (cpS 2 34 0 Q.2.2.1 y) 0 71 1) a i = zB u a i := fun a i => by rw [zB_I, cpS_B, f6]
  revert g1 g2 g3 g4 g5 g6 g7 g8
  generalize zsI (cpS 2 34 0 Q.2.2.1 y) 0 71 1 = w
  intro g1 g2 g3 g4 g5 g6 g7 g8
  refine wp_obd (wp_mono (resetR hN) (fun _ z hz => wp_s ?_))
  obtain ⟨⟨r1, r2, r3⟩, hrs⟩ := hz
  refine ⟨rfl, ⟨fun j hj => (r1 j (by omega)).trans (g1 j (by omega) (by omega) (by omega)), fun a i ha => (r2 a i (by omega) (by omega) (by omega) (by omega)).trans (g5 a i (by omega) (by omega))⟩, ⟨(r1 70 (by omega)).trans g3, hn, fun j hj => (r2 41 j (by omega) (by omega) (by omega) (by omega)).trans (g6 j hj), hy⟩, ?_, (r1 71 (by omega)).trans g4, (r1 6 (by omega)).trans g2, ?_, hrs⟩
  · exact PG_c hPG ((r1 22 (by omega)).trans (g1 22 (by omega) (by omega) (by omega))) ((r1 29 (by omega)).trans (g1 29 (by omega) (by omega) (by omega))) (fun i => (r3 7 i).trans (g8 7 i)) (fun a i a1 a2 => (r2 a i (by omega) (by omega) (by omega) (by omega)).trans (g5 a i (by omega) (by omega)))
  · exact cd_2 hcd prL_len (fun i hi => (r2 2 i (by omega) (by omega) (by omega) (by omega)).trans (g7 i (by omega)))
/-- what comes of the reference's compile() -/
def CRq (tc cc n : Nat) (x : Nat → Int32) (P : yP) (τ : zSt) (r : Int32) (z : zSt) : Prop := (∀ e, yAll x n tc cc = .error e → r = e ∧ e ≠ 0 ∧ fCf τ z ∧ (zI τ 0 71 ≠ 0 → PG P z)) ∧
  (∀ Q, yAll x n tc cc = .ok Q → r = 0 ∧ fCo τ z ∧ KP tc Q x n z ∧ PG Q z ∧ zI z 0 71 = 1 ∧ zI z 0 6 = nI Q.2.2.1 ∧ (∀ (j : Nat) (w : Int32), (prL Q (mnF Q (fun m => nI (szN Q m)) 0) Q.1.2.2.2.2)[j]? = some w → zA z 2 j = w) ∧ RSg z)
theorem compR (hn : n ≤ 512) (hN : 12000 ≤ N) (h2 : zI τ 0 2 = nI n) (hx : ∀ j, j < n → zA τ 1 j = x j) (h3 : zI τ 0 3 = nI tc) (htc : tc ≤ 4096) (h5 : zI τ 0 5 = nI cc) (hcc : cc ≤ 4096) (hk : zI τ 0 71 ≠ 0 → KP tc P xk nk τ) : wp (fX12_compile N τ) (fun r z => CRq tc cc n x P τ r z) := by
  unfold fX12_compile
  rw [bnd_e, bnd_e, h2, show (0 : Int32) = nI 0 from rfl, b10R n 0 N (zsI τ 0 16 (nI n)) (by rw [zI_I, if_pos ⟨rfl, rfl⟩, Nat.zero_add]) (by omega) (by omega)]
  have e1 : ∀ j, j ≠ 16 → zI (cpS 6 1 0 n (zsI τ 0 16 (nI n))) 0 j = zI τ 0 j := fun j hj => by rw [cpS_I, zI_I, if_neg (by omega)]
  have e2 : zI (cpS 6 1 0 n (zsI τ 0 16 (nI n))) 0 16 = nI n := by rw [cpS_I, zI_I, if_pos ⟨rfl, rfl⟩]
  have e3 : ∀ a i, a ≠ 6 → zA (cpS 6 1 0 n (zsI τ 0 16 (nI n))) a i = zA τ a i := fun a i ha => by rw [cpS_n _ _ _ (Or.inl ha), zA_I]
  have e4 : ∀ j, j < n → zA (cpS 6 1 0 n (zsI τ 0 16 (nI n))) 6 j = x j := fun j hj => by rw [cpS_v (by omega) _ _ _ (Nat.zero_le _) (by omega), zA_I]; exact hx j hj
  revert e1 e2 e3 e4
  generalize cpS 6 1 0 n (zsI τ 0 16 (nI n)) = y
  intro e1 e2 e3 e4
  have hsr : srcR x n y := ⟨e2, by omega, e4⟩
  have h3y : zI y 0 3 = nI tc := (e1 3 (by omega)).trans h3
  refine wp_obd (wp_mono (readR (x := x) (n := n) (tc := tc) (τ := y) hn (by omega) hsr h3y htc) (fun _ z hz => ?_))
  have hbad : ∀ e s, yAll x n tc cc = .error e → e ≠ 0 → zI s 0 21 = e → fCf τ s → wp (fX12_compile_b72 N s) (fun r z => CRq tc cc n x P τ r z) := by
    intro e s hy he h21 hf
    refine wp_mono (b72F (N := N) (P := P) (xk := xk) (nk := nk) (by omega) h21 he ((hf.1 3 (by omega)).trans h3) htc (fun c => KP_f hf (hk (by rw [← hf.1 71 (by omega)]; exact c)))) (fun r w hw => ?_)
    refine ⟨fun e' he' => ?_, fun Q h' => by rw [hy] at h'; cases h'⟩
    rw [hy] at he'
    cases he'
    exact ⟨hw.1, he, fCf_trans hf hw.2.1, fun c => hw.2.2 (by rw [hf.1 71 (by omega)]; exact c)⟩
  have hfy : ∀ s, fW y s → fCf τ s := fun s hs => ⟨fun j hj => (hs.1 j (by omega)).trans (e1 j (by omega)), fun a i ha => (hs.2 a i (by omega)).trans (e3 a i (by omega))⟩
  cases hr : yRead x n tc with
  | error e =>
    obtain ⟨he, h21, hw⟩ := hz.1 e hr
    rw [isWellF (by rw [h21]; exact he), obd_s, if_pos rfl]
    exact hbad e z (by unfold yAll; rw [hr, xb_e]) he h21 (hfy z hw)
  | ok Q =>
    obtain ⟨tk, c, nd, hV, hnd, hw⟩ := hz.2 Q hr
    obtain ⟨⟨u, hO, hu⟩, m, hm1, hm2, hm3⟩ := sat_get (yRead_ok (x := x) (n := n) (tc := tc) (by omega)) hr
    have hPG := PV_PG hV
    have hQn : Q.1.2.2.2.2 ≤ 512 := by have := hO.2.1; have := hu.1; have := hu.2.1; omega
    have hF : pFin Q 1026 := ⟨by omega, by rw [← hV.2.2.2.2.2.2.2.2.2]; exact hnd, fun g hg hk => (hO.2.2.2.2.1 g hg hk).2.2⟩
    rw [isWellT hV.2.2.2.1, obd_s, if_neg (by decide)]
    obtain ⟨z1, m1, m2, m3, m4⟩ := makeR (N := N) hN hF hm1 hm2 hPG.1
    rw [m1, obd_s, m3, m2.1 5 (by omega) (by omega) (by omega), (hfy z hw).1 5 (by omega), h5]
    have hsz := hO.2.2.2.2.2
    have hszb : szN Q Q.1.2.2.2.2 ≤ 24604 := by
      have := szN_le (P := Q) Q.1.2.2.2.2 (fun g hg hk => by
        obtain ⟨mm, _, _, hwf⟩ := hF.2.2 g hg hk
        obtain ⟨a, b, c, d, e, f, h⟩ := wf_isN hwf (Or.inr rfl)
        rw [h, cN_N]; omega)
      have h2 := hF.2.1
      omega
    have hK : fCf τ z1 := fCf_trans (hfy z hw) ⟨fun j hj => m2.1 j (by omega) (by omega) (by omega), fun a i ha => m2.2.2.2 a i (by omega)⟩
    by_cases cs : Q.2.2.1 ≤ cc
    · have hy : yAll x n tc cc = .ok Q := by unfold yAll; rw [hr, xb_k, if_pos cs]
      rw [if_pos ((nI_le' (by omega) (by omega)).mpr (by omega))]
      have hmn : mnF Q (fun m => nI (szN Q m)) 0 = nI (szN Q m) := by unfold mnF; rw [hm1]; show (if _ then _ else _) = _; rw [if_pos ⟨hm2, hm3⟩]
      rw [← hmn] at m4
      refine wp_mono (b72T (n := n) (tc := tc) (x := x) (Q := Q) (N := N) (by omega) hn ((m2.1 21 (by omega) (by omega) (by omega)).trans hV.2.2.2.1) ((m2.1 16 (by omega) (by omega) (by omega)).trans hV.1.1.1) (fun j hj => (m2.2.2.2 6 j (by omega)).trans (hV.1.1.2.2 j hj)) (by rw [m3, ← hsz]) (by omega) m4 hsz.symm (PG_c hPG (m2.1 22 (by omega) (by omega) (by omega)) (m2.1 29 (by omega) (by omega) (by omega)) (fun i => m2.2.2.1 7 i) (fun a i a1 a2 => m2.2.2.2 a i (by omega))) hr) (fun r w hw2 => ?_)
      refine ⟨fun e h' => (by rw [hy] at h'; cases h'), fun Q' h' => ?_⟩
      rw [hy] at h'
      cases h'
      obtain ⟨w1, w2, w3⟩ := hw2
      exact ⟨w1, ⟨fun j hj => (w2.1 j hj).trans (hK.1 j (by omega)), fun a i ha => (w2.2 a i ha).trans (hK.2 a i (by omega))⟩, w3⟩
    · have hy : yAll x n tc cc = er 10 n := by unfold yAll; rw [hr, xb_k, if_neg cs]
      rw [if_neg (fun w => by rw [nI_le' (by omega) (by omega)] at w; omega), failsR, flS_eq ((m2.1 21 (by omega) (by omega) (by omega)).trans hV.2.2.2.1), obd_s, (m2.1 16 (by omega) (by omega) (by omega)).trans hV.1.1.1]
      exact hbad (10 + 16 * nI n) _ hy (er_ne ⟨10, by omega, by omega, rfl⟩ (by omega)) (by rw [zI_I, if_pos ⟨rfl, rfl⟩]) ⟨fun j hj => (by rw [zI_I, if_neg (by omega)]; exact hK.1 j hj), fun a i ha => hK.2 a i ha⟩
end
