/-! THE REFERENCE'S READER: all of a text -/
theorem nI_cl {s : Int32} (h : 0 ≤ s.toInt) : s = nI s.toNatClampNeg := by
  have hc : (s.toNatClampNeg : Int) = s.toInt := by rw [Int32.toNatClampNeg]; omega
  have hl := Int32.toInt_lt s
  apply Int32.toInt_inj.mp
  rw [nI_toInt (by omega), hc]
theorem nI_addS {a : Nat} {s : Int32} (h : 1 ≤ s.toInt) : nI a + s = nI (a + s.toNatClampNeg) := by
  have e := nI_cl (s := s) (by omega)
  conv => lhs; rw [e]
  exact nI_add _ _
/-- what comes of reading a text -/
def RQ (x : Nat → Int32) (n tc : Nat) (τ : zSt) (res : Except Int32 yP) (z : zSt) : Prop :=
  (∀ e, res = .error e → e ≠ 0 ∧ zI z 0 21 = e ∧ fW τ z) ∧
  (∀ P, res = .ok P → ∃ tk c nd, PV x n tc P tk c nd z ∧ nd ≤ 1026 ∧ fW τ z)
/-- told: the end changes nothing -/
theorem b60D {N g : Nat} {τ : zSt} (hN : 2000 ≤ N) (h21 : zI τ 0 21 ≠ 0) (hg : g ≤ 1400) (h22 : zI τ 0 22 = nI g) : fX12_read_b60 N τ = some ((), τ) := by
  unfold fX12_read_b60 fX12_named
  rw [h22, bnd_e, namR (G := (fun j => zB τ 7 j, fun _ => 0, fun _ => 0, fun _ => 0, g)) hg (fun _ _ => rfl) g N (Nat.le_refl _) (by show g < N; omega), obd_s, isWellF h21, obd_s, if_pos rfl]
theorem b60R {x : Nat → Int32} {n tc N : Nat} {P : yP} {tk : yTok} {c nd : Nat} {τ : zSt} (hn : n ≤ 512) (hN : 2000 ≤ N) (hG : P.1.2.2.2.2 ≤ 1400) (hd : nd ≤ 1026) (hP : PV x n tc P tk c nd τ) :
    wp (fX12_read_b60 N τ) (fun _ z => RQ x n tc τ (if yHas P = true then .ok P else er 7 n) z) := by
  unfold fX12_read_b60
  rw [show (1835100526 : Int64) = yMain from rfl, namedG hP.1 hP.2.1 hG hN, obd_s, isWellT hP.2.2.2.1, obd_s, if_neg (by decide)]
  have bad : wp (fX12_read_b98 N τ) (fun _ z => RQ x n tc τ (er 7 n) z) := by
    unfold fX12_read_b98
    rw [failsR, flS_eq hP.2.2.2.1, obd_s, hP.1.1.1]
    refine wp_s ⟨fun e h => ?_, fun P' h => (by cases h)⟩
    cases h
    exact ⟨er_ne erK7 (by omega), by rw [zI_I, if_pos ⟨rfl, rfl⟩], fW_I fW_refl (by omega)⟩
  unfold yHas
  cases hl : lkN P.1.1 yMain P.1.2.2.2.2 with
  | none =>
    rw [if_pos (show ixI none < 0 by decide), if_neg (show ¬ (false = true) from Bool.false_ne_true)]
    exact bad
  | some m =>
    have hm : m < P.1.2.2.2.2 := (lkN_lt hl).1
    obtain ⟨g1, g2, g3, g4⟩ := hP.1.2.2 m hm
    show wp (if nI m < 0 then _ else if nI m < 0 ∨ 1400 ≤ (nI m).toNatClampNeg then none else if zA τ 8 (nI m).toNatClampNeg = 2 then if nI m < 0 ∨ 1400 ≤ (nI m).toNatClampNeg then none else if zA τ 10 (nI m).toNatClampNeg = 0 then some ((), τ) else fX12_read_b98 N τ else fX12_read_b98 N τ) _
    rw [if_neg (nI_pos (by omega)), nI_clamp (by omega), if_neg (ixN (by omega) (by omega)), g2, g3]
    show wp _ (fun _ z => RQ x n tc τ (if decide (P.1.2.1 m = 2 ∧ P.1.2.2.2.1 m = 0) = true then .ok P else er 7 n) z)
    by_cases k2 : P.1.2.1 m = 2
    · rw [if_pos k2, if_neg (ixN (by omega) (by omega))]
      by_cases k0 : P.1.2.2.2.1 m = 0
      · rw [if_pos k0, if_pos (by rw [decide_eq_true_eq]; exact ⟨k2, k0⟩)]
        refine wp_s ⟨fun e h => (by cases h), fun P' h => ?_⟩
        cases h
        exact ⟨tk, c, nd, hP, hd, fW_refl⟩
      · rw [if_neg k0, if_neg (by rw [decide_eq_true_eq]; exact fun q => k0 q.2)]
        exact bad
    · rw [if_neg k2, if_neg (by rw [decide_eq_true_eq]; exact fun q => k2 q.1)]
      exact bad
theorem RQ_w {x : Nat → Int32} {n tc : Nat} {τ u z : zSt} {res : Except Int32 yP} (h : RQ x n tc u res z) (hw : fW τ u) : RQ x n tc τ res z := by
  refine ⟨fun e he => ?_, fun P hP => ?_⟩
  · obtain ⟨a, b, c⟩ := h.1 e he
    exact ⟨a, b, fW_trans hw c⟩
  · obtain ⟨tk, c, nd, a, b, d⟩ := h.2 P hP
    exact ⟨tk, c, nd, a, b, fW_trans hw d⟩
/-- a wrong token waits: it is told next -/
theorem b39P {x : Nat → Int32} {n tc N g m : Nat} {e : Int32} {τ : zSt} (hN : 2000 ≤ N) (he : e ≠ 0) (hg : g ≤ 1400) (h22 : zI τ 0 22 = nI g) (h : zI τ 0 21 = e ∨ PD e τ) :
    wp (fX12_read_b39 N (m + 2) τ) (fun _ z => RQ x n tc τ (.error e) z) := by
  have told : ∀ (u : zSt), zI u 0 21 = e → zI u 0 22 = nI g → fW τ u → ∀ m, wp (fX12_read_b39 N (m + 1) u) (fun _ z => RQ x n tc τ (.error e) z) := by
    intro u h1 h2 hw m
    rw [fX12_read_b39, isWellF (by rw [h1]; exact he), obd_s, if_pos rfl, b60D hN (by rw [h1]; exact he) hg h2]
    refine wp_s ⟨fun e' h => ?_, fun P' h => (by cases h)⟩
    cases h
    exact ⟨he, h1, hw⟩
  rcases h with h | h
  · exact told τ h h22 fW_refl (m + 1)
  · rw [fX12_read_b39, isWellT h.1, obd_s, if_neg (by decide), if_neg (by rw [h.2.1]; decide)]
    unfold fX12_declaration
    rw [isWordF (wF42 h.1 (PD_K h) (by decide)), obd_s, if_pos rfl, strayR, stS_eq h.1, stE_P h, obd_s, obd_s]
    exact told _ (by rw [zI_I, if_pos ⟨rfl, rfl⟩]) (by rw [zI_I, if_neg (by omega)]; exact h22) (fW_I fW_refl (by omega)) m
theorem b39R {x : Nat → Int32} {n tc N : Nat} (hn : n ≤ 512) (hN : 5000 ≤ N) : ∀ (f : Nat) (P : yP) (tk : yTok) (c nd m : Nat) (τ : zSt), PV x n tc P tk c nd τ → BD n tc tk c 0 nd 0 → pOk P tk → n + 1 ≤ f + tk.2.1 → n + 3 ≤ m + tk.2.1 →
    wp (fX12_read_b39 N m τ) (fun _ z => RQ x n tc τ (xb (yDecls x n tc f P tk c) (fun P => if yHas P = true then .ok P else er 7 n)) z) := by
  intro f
  induction f with
  | zero => intro P tk c nd m τ _ hB _ h; have := hB.1.1; have := hB.1.2.1; omega
  | succ f ih =>
    intro P tk c nd m τ hP hB hO hf hm
    have hBl := BD_le hB hn
    have hO2 := hO
    obtain ⟨o1, o2, o3, o4⟩ := hO2
    have hpn : tk.2.1 ≤ n := by have := hB.1.1; have := hB.1.2.1; omega
    obtain ⟨m, rfl⟩ : ∃ g, m = g + 1 := ⟨m - 1, by omega⟩
    have hK := rT_K hP.2.2.1
    rw [fX12_read_b39, isWellT hP.2.2.2.1, obd_s, if_neg (by decide)]
    unfold yDecls
    by_cases hk : tk.2.2.1 = 58
    · rw [if_pos ((kd58 hK.1 hK.2).mpr hk), if_pos hk, xb_k]
      exact b60R hn (by omega) (by omega) (by omega) hP
    · have hlt := tk_ne hB.1 rfl hk
      rw [if_neg (fun q => hk ((kd58 hK.1 hK.2).mp q)), if_neg hk]
      have hsat := yDecl_ok (x := x) (tc := tc) (by omega) hO hB.1 hB.2.1
      have h0 : yDecl x n tc P tk c ≠ .error 0 := fun q => by
        rw [q] at hsat
        exact hsat rfl
      refine wp_obd (wp_mono (declR hn hN (by omega) (fun s h1 _ => nI_addS h1) hP hB h0) (fun _ z hz => ?_))
      cases hd : yDecl x n tc P tk c with
      | error e =>
        rw [hd] at hz
        obtain ⟨z1, z2, z3, z4, g, z5, z6⟩ := hz.1 e rfl
        obtain ⟨m, rfl⟩ : ∃ g, m = g + 2 := ⟨m - 2, by omega⟩
        exact wp_mono (b39P (x := x) (n := n) (tc := tc) (m := m) (by omega) z1 z5 z6 z2) (fun _ y hy => RQ_w hy z4)
      | ok v =>
        obtain ⟨P', tk', c'⟩ := v
        rw [hd] at hz
        obtain ⟨nd', z1, z2, z3, z4⟩ := hz.2 P' tk' c' rfl
        have hs := sat_get hsat hd
        rw [xb_k]
        exact wp_mono (ih P' tk' c' nd' m z z1 z2 hs.1 (by omega) (by omega)) (fun _ y hy => RQ_w hy z4)
/-- all of a text: the fields that it begins with -/
def rd0 (τ : zSt) : zSt := zsI (zsI (zsI (zsI (zsI (zsI (zsI τ 0 21 0) 0 17 0) 0 22 0) 0 29 0) 0 38 0) 0 36 0) 0 37 0
theorem readR {x : Nat → Int32} {n tc N : Nat} {τ : zSt} (hn : n ≤ 512) (hN : 5000 ≤ N) (hs : srcR x n τ) (h3 : zI τ 0 3 = nI tc) (htc : tc ≤ 4096) :
    wp (fX12_read N τ) (fun _ z => RQ x n tc τ (yRead x n tc) z) := by
  unfold fX12_read
  rw [bnd_e, bnd_e, bnd_e, bnd_e, bnd_e, bnd_e, bnd_e]
  show wp (obd (fX12_next N (rd0 τ)) _) _
  have hI : ∀ j, j ≠ 21 → j ≠ 17 → j ≠ 22 → j ≠ 29 → j ≠ 38 → j ≠ 36 → j ≠ 37 → zI (rd0 τ) 0 j = zI τ 0 j := by
    intro j a b c d e f g
    unfold rd0
    rw [zI_I, if_neg (by omega), zI_I, if_neg (by omega), zI_I, if_neg (by omega), zI_I, if_neg (by omega), zI_I, if_neg (by omega), zI_I, if_neg (by omega), zI_I, if_neg (by omega)]
  have h21 : zI (rd0 τ) 0 21 = 0 := by unfold rd0; simp only [zI_I, zI_L, zI_R, zI_A, zI_B, zL_I, zL_L, zL_R, zL_A, zL_B, zA_I, zA_L, zA_R, zA_A, zA_B, zB_I, zB_L, zB_R, zB_A, zB_B, reduceIte, Nat.reduceEqDiff, Nat.reduceEqDiff, false_and, and_false, true_and, and_true, ne_eq, not_false_eq_true, not_true_eq_false]
  have h17 : zI (rd0 τ) 0 17 = nI 0 := by unfold rd0; simp only [zI_I, zI_L, zI_R, zI_A, zI_B, zL_I, zL_L, zL_R, zL_A, zL_B, zA_I, zA_L, zA_R, zA_A, zA_B, zB_I, zB_L, zB_R, zB_A, zB_B, reduceIte, Nat.reduceEqDiff, Nat.reduceEqDiff, false_and, and_false, true_and, and_true, ne_eq, not_false_eq_true, not_true_eq_false]; rfl
  have h22 : zI (rd0 τ) 0 22 = nI 0 := by unfold rd0; simp only [zI_I, zI_L, zI_R, zI_A, zI_B, zL_I, zL_L, zL_R, zL_A, zL_B, zA_I, zA_L, zA_R, zA_A, zA_B, zB_I, zB_L, zB_R, zB_A, zB_B, reduceIte, Nat.reduceEqDiff, Nat.reduceEqDiff, false_and, and_false, true_and, and_true, ne_eq, not_false_eq_true, not_true_eq_false]; rfl
  have h29 : zI (rd0 τ) 0 29 = nI 0 := by unfold rd0; simp only [zI_I, zI_L, zI_R, zI_A, zI_B, zL_I, zL_L, zL_R, zL_A, zL_B, zA_I, zA_L, zA_R, zA_A, zA_B, zB_I, zB_L, zB_R, zB_A, zB_B, reduceIte, Nat.reduceEqDiff, Nat.reduceEqDiff, false_and, and_false, true_and, and_true, ne_eq, not_false_eq_true, not_true_eq_false]; rfl
  have h38 : zI (rd0 τ) 0 38 = nI 0 := by unfold rd0; simp only [zI_I, zI_L, zI_R, zI_A, zI_B, zL_I, zL_L, zL_R, zL_A, zL_B, zA_I, zA_L, zA_R, zA_A, zA_B, zB_I, zB_L, zB_R, zB_A, zB_B, reduceIte, Nat.reduceEqDiff, Nat.reduceEqDiff, false_and, and_false, true_and, and_true, ne_eq, not_false_eq_true, not_true_eq_false]; rfl
  have h36 : zI (rd0 τ) 0 36 = nI 0 := by unfold rd0; simp only [zI_I, zI_L, zI_R, zI_A, zI_B, zL_I, zL_L, zL_R, zL_A, zL_B, zA_I, zA_L, zA_R, zA_A, zA_B, zB_I, zB_L, zB_R, zB_A, zB_B, reduceIte, Nat.reduceEqDiff, Nat.reduceEqDiff, false_and, and_false, true_and, and_true, ne_eq, not_false_eq_true, not_true_eq_false]; rfl
  have h37 : zI (rd0 τ) 0 37 = nI 0 := by unfold rd0; simp only [zI_I, zI_L, zI_R, zI_A, zI_B, zL_I, zL_L, zL_R, zL_A, zL_B, zA_I, zA_L, zA_R, zA_A, zA_B, zB_I, zB_L, zB_R, zB_A, zB_B, reduceIte, Nat.reduceEqDiff, Nat.reduceEqDiff, false_and, and_false, true_and, and_true, ne_eq, not_false_eq_true, not_true_eq_false]; rfl
  have hw : fW τ (rd0 τ) := ⟨fun j hj => hI j (by omega) (by omega) (by omega) (by omega) (by omega) (by omega) (by omega), fun a i _ => rfl⟩
  have hs0 : srcR x n (rd0 τ) := ⟨(hI 16 (by omega) (by omega) (by omega) (by omega) (by omega) (by omega) (by omega)).trans hs.1, hs.2.1, hs.2.2⟩
  have h30 : zI (rd0 τ) 0 3 = nI tc := (hI 3 (by omega) (by omega) (by omega) (by omega) (by omega) (by omega) (by omega)).trans h3
  revert h21 h17 h22 h29 h38 h36 h37 hw hs0 h30
  generalize rd0 τ = s
  intro h21 h17 h22 h29 h38 h36 h37 hw hs0 h30
  rw [nx_eq hs0 h17 (Nat.zero_le _) (by omega), obd_s]
  unfold yRead
  have hw1 := fW_nx (x := x) (n := n) (p := 0) hw
  cases hcm : cm x n (0, 0, 0, 0) with
  | error e =>
    have hpd : PD e (nxS x n 0 s) := PD_nx (tk := (0, 0, 0, 0)) hcm h21
    have he0 := cm_ne hn hcm (Nat.zero_le _)
    obtain ⟨m, hm⟩ : ∃ m, N = m + 2 := ⟨N - 2, by omega⟩
    have key := b39P (x := x) (n := n) (tc := tc) (N := N) (g := 0) (m := m) (by omega) he0 (by omega) ((nxS_I (by omega)).trans h22) (Or.inr hpd)
    rw [← hm] at key
    exact wp_mono key (fun _ y hy => RQ_w hy hw1)
  | ok t0 =>
    have ht0 := sat_get (cm_ok (x := x) (n := n) (t := (0, 0, 0, 0)) (by omega) (Nat.zero_le _)) hcm
    rw [xb_k]
    have hP : PV x n tc yP0 t0 0 0 (nxS x n 0 s) := by
      have hf : ∀ j, ¬ (j = 17 ∨ j = 18 ∨ j = 19) → zI (nxS x n 0 s) 0 j = zI s 0 j := fun j hj => nxS_I hj
      exact ⟨⟨⟨(hf 16 (by omega)).trans hs0.1, hs0.2.1, fun j hj => nxS_A.trans (hs0.2.2 j hj)⟩, (hf 3 (by omega)).trans h30, fun g hg => absurd hg (Nat.not_lt_zero _)⟩, (hf 22 (by omega)).trans h22, (by rw [(cm_k hcm).1]; exact rT_nx), (hf 21 (by omega)).trans h21, (hf 36 (by omega)).trans h36, (hf 37 (by omega)).trans h37, (hf 38 (by omega)).trans h38, (hf 29 (by omega)).trans h29, fun g hg => absurd hg (Nat.not_lt_zero _), rfl⟩
    exact wp_mono (b39R hn hN (n + 2) yP0 t0 0 0 N _ hP ⟨ht0.1, Nat.zero_le _, htc, by omega, by omega, by omega⟩ ⟨fun g hg => absurd hg (Nat.not_lt_zero _), Nat.zero_le _, Nat.zero_le _, fun i j _ hj => absurd hj (Nat.not_lt_zero _), fun g hg => absurd hg (Nat.not_lt_zero _), rfl⟩ (by omega) (by omega)) (fun _ y hy => RQ_w hy hw1)
