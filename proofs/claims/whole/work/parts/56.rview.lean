/-! THE REFERENCE'S READER: what is held, what stays -/
def rT (tk : yTok) (τ : zSt) : Prop := zI τ 0 17 = nI tk.1 ∧ zI τ 0 18 = nI tk.2.1 ∧ zL τ 0 20 = tk.2.2.2 ∧ kOf (zI τ 0 19) tk.2.2.2 = tk.2.2.1 ∧ kV (zI τ 0 19) tk.2.2.2
def rS (x : Nat → Int32) (n tc : Nat) (G : gE) (L : lE) (τ : zSt) : Prop := srcR x n τ ∧ zI τ 0 3 = nI tc ∧ zI τ 0 22 = nI G.2.2.2.2 ∧
  (∀ g, g < G.2.2.2.2 → zB τ 7 g = G.1 g ∧ zA τ 8 g = G.2.1 g ∧ zA τ 10 g = G.2.2.2.1 g ∧ (G.2.1 g ≠ 2 → zA τ 9 g = G.2.2.1 g)) ∧
  zI τ 0 30 = nI L.2.2 ∧ (∀ j, j < L.2.2 → zB τ 13 j = L.1 j ∧ zA τ 14 j = L.2.1 j)
def RV (x : Nat → Int32) (n tc : Nat) (G : gE) (L : lE) (tk : yTok) (c ns nd w : Nat) (τ : zSt) : Prop :=
  rS x n tc G L τ ∧ rT tk τ ∧ zI τ 0 21 = 0 ∧ zI τ 0 36 = nI c ∧ zI τ 0 37 = nI ns ∧ zI τ 0 38 = nI nd ∧ zI τ 0 54 = nI w
/-- what an E leaves as it was: nodes below lo, waiting ones below w0, all that is no business of it -/
def fE (lo w0 : Nat) (τ u : zSt) : Prop := (∀ j, ¬ (j = 17 ∨ j = 18 ∨ j = 19 ∨ j = 21 ∨ j = 36 ∨ j = 37 ∨ j = 38 ∨ j = 54) → zI u 0 j = zI τ 0 j) ∧
  (∀ a i, ¬ (15 ≤ a ∧ a ≤ 21 ∧ lo ≤ i) → ¬ (29 ≤ a ∧ a ≤ 33 ∧ w0 ≤ i) → zA u a i = zA τ a i) ∧ (∀ a i, zB u a i = zB τ a i)
theorem fE_refl {lo w0 : Nat} {τ : zSt} : fE lo w0 τ τ := ⟨fun _ _ => rfl, fun _ _ _ _ => rfl, fun _ _ => rfl⟩
theorem fE_trans {lo w0 lo' w0' : Nat} {τ u v : zSt} (h : fE lo w0 τ u) (h2 : fE lo' w0' u v) (h3 : lo ≤ lo') (h4 : w0 ≤ w0') : fE lo w0 τ v :=
  ⟨fun j hj => (h2.1 j hj).trans (h.1 j hj), fun a i h5 h6 => (h2.2.1 a i (by omega) (by omega)).trans (h.2.1 a i h5 h6), fun a i => (h2.2.2 a i).trans (h.2.2 a i)⟩
theorem fE_I {lo w0 : Nat} {τ u : zSt} {k : Nat} {v : Int32} (h : fE lo w0 τ u) (hk : k = 17 ∨ k = 18 ∨ k = 19 ∨ k = 21 ∨ k = 36 ∨ k = 37 ∨ k = 38 ∨ k = 54) : fE lo w0 τ (zsI u 0 k v) := by
  refine ⟨fun j hj => ?_, h.2.1, h.2.2⟩
  rw [zI_I, if_neg (by rintro ⟨-, rfl⟩; exact hj hk)]
  exact h.1 j hj
theorem fE_L {lo w0 : Nat} {τ u : zSt} {o k : Nat} {v : Int64} (h : fE lo w0 τ u) : fE lo w0 τ (zsL u o k v) := h
theorem fE_A {lo w0 : Nat} {τ u : zSt} {a i : Nat} {v : Int32} (h : fE lo w0 τ u) (hk : (15 ≤ a ∧ a ≤ 21 ∧ lo ≤ i) ∨ (29 ≤ a ∧ a ≤ 33 ∧ w0 ≤ i)) : fE lo w0 τ (zsA u a i v) := by
  refine ⟨h.1, fun b j h1 h2 => ?_, h.2.2⟩
  rw [zA_A, if_neg (by rintro ⟨rfl, rfl⟩; rcases hk with q | q; exact h1 q; exact h2 q)]
  exact h.2.1 b j h1 h2
theorem srcR_fE {x : Nat → Int32} {n lo w0 : Nat} {τ u : zSt} (h : srcR x n τ) (hf : fE lo w0 τ u) : srcR x n u :=
  ⟨(hf.1 16 (by omega)).trans h.1, h.2.1, fun j hj => (hf.2.1 6 j (by omega) (by omega)).trans (h.2.2 j hj)⟩
theorem rS_fE {x : Nat → Int32} {n tc : Nat} {G : gE} {L : lE} {lo w0 : Nat} {τ u : zSt} (h : rS x n tc G L τ) (hf : fE lo w0 τ u) : rS x n tc G L u := by
  obtain ⟨h1, h2, h3, h4, h5, h6⟩ := h
  refine ⟨srcR_fE h1 hf, (hf.1 3 (by omega)).trans h2, (hf.1 22 (by omega)).trans h3, fun g hg => ?_, (hf.1 30 (by omega)).trans h5, fun j hj => ?_⟩
  · obtain ⟨a, b, c, d⟩ := h4 g hg
    exact ⟨(hf.2.2 7 g).trans a, (hf.2.1 8 g (by omega) (by omega)).trans b, (hf.2.1 10 g (by omega) (by omega)).trans c, fun q => (hf.2.1 9 g (by omega) (by omega)).trans (d q)⟩
  · exact ⟨(hf.2.2 13 j).trans (h6 j hj).1, (hf.2.1 14 j (by omega) (by omega)).trans (h6 j hj).2⟩
/-- what the reading of a text leaves as it was -/
def fP (τ u : zSt) : Prop := (∀ j, j < 17 ∨ 60 ≤ j ∨ j = 22 → zI u 0 j = zI τ 0 j) ∧ (∀ a i, a ≤ 6 ∨ 34 ≤ a → zA u a i = zA τ a i)
theorem fP_refl {τ : zSt} : fP τ τ := ⟨fun _ _ => rfl, fun _ _ _ => rfl⟩
theorem fP_trans {τ u v : zSt} (h : fP τ u) (h2 : fP u v) : fP τ v := ⟨fun j hj => (h2.1 j hj).trans (h.1 j hj), fun a i h3 => (h2.2 a i h3).trans (h.2 a i h3)⟩
theorem fP_I {τ u : zSt} {k : Nat} {v : Int32} (h : fP τ u) (hk : 17 ≤ k ∧ k < 60 ∧ k ≠ 22) : fP τ (zsI u 0 k v) := by
  refine ⟨fun j hj => ?_, h.2⟩
  rw [zI_I, if_neg (by omega)]
  exact h.1 j hj
theorem fP_L {τ u : zSt} {o k : Nat} {v : Int64} (h : fP τ u) : fP τ (zsL u o k v) := h
theorem fP_B {τ u : zSt} {o k : Nat} {v : Int64} (h : fP τ u) : fP τ (zsB u o k v) := h
theorem fP_A {τ u : zSt} {a i : Nat} {v : Int32} (h : fP τ u) (hk : 7 ≤ a ∧ a ≤ 33) : fP τ (zsA u a i v) := by
  refine ⟨h.1, fun b j h1 => ?_⟩
  rw [zA_A, if_neg (by omega)]
  exact h.2 b j h1
theorem fE_P {lo w0 : Nat} {τ u : zSt} (h : fE lo w0 τ u) : fP τ u := ⟨fun j hj => h.1 j (by omega), fun a i ha => h.2.1 a i (by omega) (by omega)⟩
theorem srcR_fP {x : Nat → Int32} {n : Nat} {τ u : zSt} (h : srcR x n τ) (hf : fP τ u) : srcR x n u :=
  ⟨(hf.1 16 (by omega)).trans h.1, h.2.1, fun j hj => (hf.2 6 j (by omega)).trans (h.2.2 j hj)⟩
/-- something is wrong, e; what goes on behind it can still run -/
def rD (x : Nat → Int32) (n : Nat) (b : Nat) (τ : zSt) : Prop := srcR x n τ ∧ (∃ p, p ≤ n ∧ zI τ 0 17 = nI p) ∧ (∃ d, d ≤ b ∧ zI τ 0 38 = nI d)
def FX (x : Nat → Int32) (n : Nat) (e : Int32) (τ u : zSt) : Prop := zI u 0 21 = e ∧ rD x n 1200 u ∧ fP τ u
/-! next() -/
def nxS (x : Nat → Int32) (n p : Nat) (τ : zSt) : zSt := tokS τ (lxTok x n p).1 (lxTok x n p).2.1 (lxTok x n p).2.2.1 (lxTok x n p).2.2.2
theorem nxS_I {x : Nat → Int32} {n p : Nat} {τ : zSt} {j : Nat} (h : ¬ (j = 17 ∨ j = 18 ∨ j = 19)) : zI (nxS x n p τ) 0 j = zI τ 0 j := by
  unfold nxS tokS
  rw [zI_L, zI_I, if_neg (by omega), zI_I, if_neg (by omega), zI_I, if_neg (by omega)]
theorem nxS_A {x : Nat → Int32} {n p : Nat} {τ : zSt} {a i : Nat} : zA (nxS x n p τ) a i = zA τ a i := rfl
theorem nxS_B {x : Nat → Int32} {n p : Nat} {τ : zSt} {a i : Nat} : zB (nxS x n p τ) a i = zB τ a i := rfl
theorem nxS_E {x : Nat → Int32} {n p lo w0 : Nat} {τ u : zSt} (h : fE lo w0 τ u) : fE lo w0 τ (nxS x n p u) := by
  unfold nxS tokS
  exact fE_L (fE_I (fE_I (fE_I h (by omega)) (by omega)) (by omega))
theorem nxS_P {x : Nat → Int32} {n p : Nat} {τ u : zSt} (h : fP τ u) : fP τ (nxS x n p u) := by
  unfold nxS tokS
  exact fP_L (fP_I (fP_I (fP_I h (by omega)) (by omega)) (by omega))
theorem rT_nx {x : Nat → Int32} {n p : Nat} {τ : zSt} : rT (yAt x n p) (nxS x n p τ) := by
  have h19 : zI (nxS x n p τ) 0 19 = (lxTok x n p).2.2.1 := by unfold nxS tokS; rw [zI_L, zI_I, if_pos ⟨rfl, rfl⟩]
  refine ⟨?_, ?_, ?_, ?_, ?_⟩
  · unfold nxS tokS; rw [zI_L, zI_I, if_neg (by decide), zI_I, if_pos ⟨rfl, rfl⟩]; rfl
  · unfold nxS tokS; rw [zI_L, zI_I, if_neg (by decide), zI_I, if_neg (by decide), zI_I, if_pos ⟨rfl, rfl⟩]; rfl
  · unfold nxS tokS; rw [zL_L, if_pos ⟨rfl, rfl⟩]; rfl
  · rw [h19]; rfl
  · rw [h19]; exact lxTok_V x n p
theorem nx_eq {x : Nat → Int32} {n p N : Nat} {τ : zSt} (h : srcR x n τ) (h17 : zI τ 0 17 = nI p) (hp : p ≤ n) (hN : n + 20 ≤ N) : fX12_next N τ = some ((), nxS x n p τ) := nextR h h17 hp hN
theorem cm_k {x : Nat → Int32} {n : Nat} {tk t1 : yTok} (h : cm x n tk = .ok t1) : t1 = yAt x n tk.1 ∧ (yAt x n tk.1).2.2.1 ≠ -1 := by
  unfold cm er at h
  split at h
  · cases h
  · cases h; exact ⟨rfl, by assumption⟩
theorem cm_e {x : Nat → Int32} {n : Nat} {tk : yTok} {e : Int32} (h : cm x n tk = .error e) : e = 1 + 16 * nI (yAt x n tk.1).2.1 ∧ (yAt x n tk.1).2.2.1 = -1 := by
  unfold cm er at h
  split at h
  · cases h; exact ⟨rfl, by assumption⟩
  · cases h
/-- a token that is none has been come to, and nobody has looked at it yet -/
def PD (e : Int32) (τ : zSt) : Prop := zI τ 0 21 = 0 ∧ zI τ 0 19 = 5 ∧ e = 1 + 16 * zI τ 0 18
theorem PD_nx {x : Nat → Int32} {n : Nat} {tk : yTok} {e : Int32} {τ : zSt} (h : cm x n tk = .error e) (hf : zI τ 0 21 = 0) : PD e (nxS x n tk.1 τ) := by
  obtain ⟨h1, h2⟩ := cm_e h
  obtain ⟨a1, a2, a3, a4, a5⟩ := rT_nx (x := x) (n := n) (p := tk.1) (τ := τ)
  exact ⟨(nxS_I (by omega)).trans hf, (kdm1 a4 a5).mpr h2, by rw [a2]; exact h1⟩
theorem RV_nx {x : Nat → Int32} {n tc : Nat} {G : gE} {L : lE} {tk t1 : yTok} {c ns nd w : Nat} {τ : zSt} (h : cm x n tk = .ok t1) (hr : rS x n tc G L τ) (h1 : zI τ 0 21 = 0) (h2 : zI τ 0 36 = nI c) (h3 : zI τ 0 37 = nI ns) (h4 : zI τ 0 38 = nI nd) (h5 : zI τ 0 54 = nI w) : RV x n tc G L t1 c ns nd w (nxS x n tk.1 τ) := by
  rw [(cm_k h).1]
  exact ⟨rS_fE hr (lo := 0) (w0 := 0) (nxS_E fE_refl), rT_nx, (nxS_I (by omega)).trans h1, (nxS_I (by omega)).trans h2, (nxS_I (by omega)).trans h3, (nxS_I (by omega)).trans h4, (nxS_I (by omega)).trans h5⟩
/-! node(), waits() -/
theorem nIneg {n : Nat} (h : n < 2 ^ 31) : (nI n < 0) = False := eq_false (nI_pos h)
theorem leF {a b : Nat} (h : b < a) : (a ≤ b) = False := eq_false (Nat.not_le.mpr h)
def ndS (τ : zSt) (k : Int32) (d : Nat) : zSt := zsA (zsA (zsA (zsA (zsA (zsA (zsA (zsI τ 0 38 (nI (d + 1))) 15 d k) 16 d (-1)) 17 d (-1)) 18 d (-1)) 19 d 0) 20 d 0) 21 d (-1)
theorem nodeR {N d : Nat} {k : Int32} {τ : zSt} (h : zI τ 0 38 = nI d) (hd : d < 4200) : fX12_node N k τ = some (nI d, ndS τ k d) := by
  unfold fX12_node ndS
  simp (disch := omega) only [h, nIneg, nI_clamp, leF, or_false, false_or, or_self, if_false, reduceIte, nI_1, nI_pred, bnd_e, obd_s]
theorem ndS_I {τ : zSt} {k : Int32} {d j : Nat} (h : j ≠ 38) : zI (ndS τ k d) 0 j = zI τ 0 j := by
  unfold ndS
  simp only [zI_I, zI_L, zI_R, zI_A, zI_B, zL_I, zL_L, zL_R, zL_A, zL_B, zA_I, zA_L, zA_R, zA_A, zA_B, zB_I, zB_L, zB_R, zB_A, zB_B, reduceIte, Nat.reduceEqDiff, Nat.reduceEqDiff, false_and, and_false, true_and, and_true, ne_eq, not_false_eq_true, not_true_eq_false]
  rw [if_neg h]
theorem ndS_38 {τ : zSt} {k : Int32} {d : Nat} : zI (ndS τ k d) 0 38 = nI (d + 1) := by
  unfold ndS
  simp only [zI_I, zI_L, zI_R, zI_A, zI_B, zL_I, zL_L, zL_R, zL_A, zL_B, zA_I, zA_L, zA_R, zA_A, zA_B, zB_I, zB_L, zB_R, zB_A, zB_B, reduceIte, Nat.reduceEqDiff, Nat.reduceEqDiff, false_and, and_false, true_and, and_true, ne_eq, not_false_eq_true, not_true_eq_false]
theorem ndS_B {τ : zSt} {k : Int32} {d a i : Nat} : zB (ndS τ k d) a i = zB τ a i := rfl
theorem ndS_L {τ : zSt} {k : Int32} {d a i : Nat} : zL (ndS τ k d) a i = zL τ a i := rfl
theorem ndS_A {τ : zSt} {k : Int32} {d a i : Nat} (h : i ≠ d ∨ a < 15 ∨ 21 < a) : zA (ndS τ k d) a i = zA τ a i := by
  unfold ndS
  rw [zA_A, if_neg (by omega), zA_A, if_neg (by omega), zA_A, if_neg (by omega), zA_A, if_neg (by omega), zA_A, if_neg (by omega), zA_A, if_neg (by omega), zA_A, if_neg (by omega)]
  rfl
theorem ndS_t {τ : zSt} {k : Int32} {d : Nat} : zA (ndS τ k d) 15 d = k ∧ zA (ndS τ k d) 16 d = -1 ∧ zA (ndS τ k d) 17 d = -1 ∧ zA (ndS τ k d) 18 d = -1 ∧ zA (ndS τ k d) 19 d = 0 ∧ zA (ndS τ k d) 20 d = 0 ∧ zA (ndS τ k d) 21 d = -1 := by
  unfold ndS
  simp only [zI_I, zI_L, zI_R, zI_A, zI_B, zL_I, zL_L, zL_R, zL_A, zL_B, zA_I, zA_L, zA_R, zA_A, zA_B, zB_I, zB_L, zB_R, zB_A, zB_B, reduceIte, Nat.reduceEqDiff, Nat.reduceEqDiff, false_and, and_false, true_and, and_true, ne_eq, not_false_eq_true, not_true_eq_false, and_self]
theorem ndS_E {lo w0 d : Nat} {τ u : zSt} {k : Int32} (h : fE lo w0 τ u) (hd : lo ≤ d) : fE lo w0 τ (ndS u k d) := by
  unfold ndS
  exact fE_A (fE_A (fE_A (fE_A (fE_A (fE_A (fE_A (fE_I h (by omega)) (by omega)) (by omega)) (by omega)) (by omega)) (by omega)) (by omega)) (by omega)
theorem ndS_P {d : Nat} {τ u : zSt} {k : Int32} (h : fP τ u) : fP τ (ndS u k d) := by
  unfold ndS
  exact fP_A (fP_A (fP_A (fP_A (fP_A (fP_A (fP_A (fP_I h (by omega)) (by omega)) (by omega)) (by omega)) (by omega)) (by omega)) (by omega)) (by omega)
def wtS (τ : zSt) (w : Nat) (k m l : Int32) : zSt := zsI (zsA (zsA (zsA (zsA (zsA τ 29 w k) 30 w m) 31 w l) 32 w (-1)) 33 w (-1)) 0 54 (nI (w + 1))
theorem waitsR {N w : Nat} {k m l : Int32} {τ : zSt} (h : zI τ 0 54 = nI w) (hw : w < 1300) : fX12_waits N k m l τ = some ((), wtS τ w k m l) := by
  unfold fX12_waits wtS
  simp (disch := omega) only [zI_A, h, nIneg, nI_clamp, leF, or_false, false_or, or_self, if_false, reduceIte, nI_1, nI_pred, bnd_e, obd_s]
theorem wtS_I {τ : zSt} {w : Nat} {k m l : Int32} {j : Nat} (h : j ≠ 54) : zI (wtS τ w k m l) 0 j = zI τ 0 j := by
  unfold wtS
  rw [zI_I, if_neg (by omega)]
  rfl
theorem wtS_54 {τ : zSt} {w : Nat} {k m l : Int32} : zI (wtS τ w k m l) 0 54 = nI (w + 1) := by
  unfold wtS
  rw [zI_I, if_pos ⟨rfl, rfl⟩]
theorem wtS_B {τ : zSt} {w : Nat} {k m l : Int32} {a i : Nat} : zB (wtS τ w k m l) a i = zB τ a i := rfl
theorem wtS_L {τ : zSt} {w : Nat} {k m l : Int32} {a i : Nat} : zL (wtS τ w k m l) a i = zL τ a i := rfl
theorem wtS_A {τ : zSt} {w : Nat} {k m l : Int32} {a i : Nat} (h : i ≠ w ∨ a < 29 ∨ 33 < a) : zA (wtS τ w k m l) a i = zA τ a i := by
  unfold wtS
  rw [zA_I, zA_A, if_neg (by omega), zA_A, if_neg (by omega), zA_A, if_neg (by omega), zA_A, if_neg (by omega), zA_A, if_neg (by omega)]
theorem wtS_t {τ : zSt} {w : Nat} {k m l : Int32} : zA (wtS τ w k m l) 29 w = k ∧ zA (wtS τ w k m l) 30 w = m ∧ zA (wtS τ w k m l) 31 w = l ∧ zA (wtS τ w k m l) 32 w = -1 ∧ zA (wtS τ w k m l) 33 w = -1 := by
  unfold wtS
  simp only [zI_I, zI_L, zI_R, zI_A, zI_B, zL_I, zL_L, zL_R, zL_A, zL_B, zA_I, zA_L, zA_R, zA_A, zA_B, zB_I, zB_L, zB_R, zB_A, zB_B, reduceIte, Nat.reduceEqDiff, Nat.reduceEqDiff, false_and, and_false, true_and, and_true, ne_eq, not_false_eq_true, not_true_eq_false, and_self]
theorem wtS_E {lo w0 w : Nat} {τ u : zSt} {k m l : Int32} (h : fE lo w0 τ u) (hd : w0 ≤ w) : fE lo w0 τ (wtS u w k m l) := by
  unfold wtS
  exact fE_I (fE_A (fE_A (fE_A (fE_A (fE_A h (by omega)) (by omega)) (by omega)) (by omega)) (by omega)) (by omega)
theorem wtS_P {w : Nat} {τ u : zSt} {k m l : Int32} (h : fP τ u) : fP τ (wtS u w k m l) := by
  unfold wtS
  exact fP_I (fP_A (fP_A (fP_A (fP_A (fP_A h (by omega)) (by omega)) (by omega)) (by omega)) (by omega)) (by omega)
/-! TREES in the reference's rows: t has the nodes from lo on, up to hi, each one, in the order of their tokens -/
abbrev yRp : Type := Nat → Nat → Int32 → Prop
def lyN (k lo hi m : Nat) (A B C : Nat → Nat → Prop) : Prop := (¬ (k = 6 ∨ k = 7 ∨ k = 8) → lo = m ∧ ∃ p q, m + 1 ≤ p ∧ p ≤ q ∧ q ≤ hi ∧ A (m + 1) p ∧ B p q ∧ C q hi) ∧ ((k = 6 ∨ k = 7 ∨ k = 8) → A lo m ∧ B (m + 1) hi ∧ C hi hi)
def rpN (τ : zSt) (k : Nat) (v w : Int) (A B C : yRp) : yRp := fun lo hi i => ∃ m, i = nI m ∧ m < 4200 ∧ (lo ≤ m ∧ m < hi) ∧ zA τ 15 m = nI k ∧ zA τ 19 m = Int32.ofInt v ∧ zA τ 20 m = Int32.ofInt w ∧
  lyN k lo hi m (fun p q => A p q (zA τ 16 m)) (fun p q => B p q (zA τ 17 m)) (fun p q => C p q (zA τ 18 m))
def rpC (τ : zSt) (t r : yRp) : yRp := fun lo hi i => ∃ m p, i = nI m ∧ m < 4200 ∧ (lo ≤ m ∧ m < p) ∧ p ≤ hi ∧ t lo p i ∧ r p hi (zA τ 21 m)
def rep (τ : zSt) (t : fT) : yRp := ff (fun lo hi i => lo = hi ∧ i = -1) (rpN τ) (rpC τ) t
theorem rep_N {τ : zSt} {k : Nat} {v w : Int} {A B C : fT} : rep τ (fN k v w A B C) = rpN τ k v w (rep τ A) (rep τ B) (rep τ C) := ff_N _ _ _ _ _ _ _ _ _
theorem rep_C {τ : zSt} {t r : fT} : rep τ (fC t r) = rpC τ (rep τ t) (rep τ r) := ff_C _ _ _ _ _
theorem rep_Z {τ : zSt} : rep τ fZ = fun lo hi i => lo = hi ∧ i = -1 := ff_Z _ _ _
theorem lyN_mono {k lo hi m : Nat} {A B C A' B' C' : Nat → Nat → Prop} (hm : lo ≤ m ∧ m < hi) (hA : ∀ p q, lo ≤ p → q ≤ hi → ¬ (p ≤ m ∧ m < q) → A p q → A' p q) (hB : ∀ p q, lo ≤ p → q ≤ hi → ¬ (p ≤ m ∧ m < q) → B p q → B' p q) (hC : ∀ p q, lo ≤ p → q ≤ hi → ¬ (p ≤ m ∧ m < q) → C p q → C' p q) (h : lyN k lo hi m A B C) : lyN k lo hi m A' B' C' := by
  refine ⟨fun hk => ?_, fun hk => ?_⟩
  · obtain ⟨e, p, q, h1, h2, h3, h4, h5, h6⟩ := h.1 hk
    exact ⟨e, p, q, h1, h2, h3, hA _ _ (by omega) (by omega) (by omega) h4, hB _ _ (by omega) (by omega) (by omega) h5, hC _ _ (by omega) (by omega) (by omega) h6⟩
  · obtain ⟨h4, h5, h6⟩ := h.2 hk
    exact ⟨hA _ _ (by omega) (by omega) (by omega) h4, hB _ _ (by omega) (by omega) (by omega) h5, hC _ _ (by omega) (by omega) (by omega) h6⟩
theorem rep_frame {τ u : zSt} : ∀ (t : fT) (lo hi : Nat) (i : Int32), (∀ m, (lo ≤ m ∧ m < hi) → (lo ≤ m ∧ m < hi) ∧ ∀ a, 15 ≤ a → a ≤ 21 → zA u a m = zA τ a m) → rep τ t lo hi i → rep u t lo hi i := by
  apply ff_ind
  · intro t hz lo hi i _
    unfold rep
    rw [hz, hz]
    exact id
  · intro k v w A B C hA hB hC lo hi i hf
    rw [rep_N, rep_N]
    rintro ⟨m, h1, h2, h3, h4, h5, h6, h7⟩
    obtain ⟨p1, p2⟩ := hf m h3
    refine ⟨m, h1, h2, h3, (p2 15 (by omega) (by omega)).trans h4, (p2 19 (by omega) (by omega)).trans h5, (p2 20 (by omega) (by omega)).trans h6, ?_⟩
    refine lyN_mono h3 ?_ ?_ ?_ h7
    · intro p q b1 b2 b3 h; rw [p2 16 (by omega) (by omega)]; exact hA p q _ (fun j hj => ⟨hj, (hf j ⟨by omega, by omega⟩).2⟩) h
    · intro p q b1 b2 b3 h; rw [p2 17 (by omega) (by omega)]; exact hB p q _ (fun j hj => ⟨hj, (hf j ⟨by omega, by omega⟩).2⟩) h
    · intro p q b1 b2 b3 h; rw [p2 18 (by omega) (by omega)]; exact hC p q _ (fun j hj => ⟨hj, (hf j ⟨by omega, by omega⟩).2⟩) h
  · intro t r ht hr lo hi i hf
    rw [rep_C, rep_C]
    rintro ⟨m, p, h1, h2, h3, h3b, h4, h5⟩
    obtain ⟨p1, p2⟩ := hf m ⟨h3.1, by omega⟩
    refine ⟨m, p, h1, h2, h3, h3b, ht _ _ _ (fun j hj => ⟨hj, (hf j ⟨hj.1, by omega⟩).2⟩) h4, ?_⟩
    rw [p2 21 (by omega) (by omega)]
    exact hr _ _ _ (fun j hj => ⟨hj, (hf j ⟨by omega, hj.2⟩).2⟩) h5
/-- a node may be used though the row 'after' has changed at it -/
theorem rep_root {τ u : zSt} {k : Nat} {v w : Int} {A B C : fT} {lo hi : Nat} {m : Nat} (hf : ∀ j, (lo ≤ j ∧ j < hi) → (lo ≤ j ∧ j < hi) ∧ (∀ a, 15 ≤ a → a ≤ 20 → zA u a j = zA τ a j) ∧ (j ≠ m → zA u 21 j = zA τ 21 j)) (hm : m < 4200) (h : rep τ (fN k v w A B C) lo hi (nI m)) : rep u (fN k v w A B C) lo hi (nI m) := by
  rw [rep_N] at h ⊢
  obtain ⟨m', h1, h2, h3, h4, h5, h6, h7⟩ := h
  have em : m' = m := ((nI_eq (by omega) (by omega)).mp h1).symm
  subst em
  obtain ⟨p1, p2, -⟩ := hf m' h3
  have hf2 : ∀ p q, lo ≤ p → q ≤ hi → ¬ (p ≤ m' ∧ m' < q) → ∀ j, (p ≤ j ∧ j < q) → (p ≤ j ∧ j < q) ∧ ∀ a, 15 ≤ a → a ≤ 21 → zA u a j = zA τ a j := fun p q b1 b2 b3 j hj => ⟨hj, fun a h1 h2 => by
    by_cases e : a = 21
    · rw [e]; exact (hf j ⟨by omega, by omega⟩).2.2 (by omega)
    · exact (hf j ⟨by omega, by omega⟩).2.1 a h1 (by omega)⟩
  refine ⟨m', h1, h2, h3, (p2 15 (by omega) (by omega)).trans h4, (p2 19 (by omega) (by omega)).trans h5, (p2 20 (by omega) (by omega)).trans h6, ?_⟩
  refine lyN_mono h3 ?_ ?_ ?_ h7
  · intro p q b1 b2 b3 h; rw [p2 16 (by omega) (by omega)]; exact rep_frame _ _ _ _ (hf2 p q b1 b2 b3) h
  · intro p q b1 b2 b3 h; rw [p2 17 (by omega) (by omega)]; exact rep_frame _ _ _ _ (hf2 p q b1 b2 b3) h
  · intro p q b1 b2 b3 h; rw [p2 18 (by omega) (by omega)]; exact rep_frame _ _ _ _ (hf2 p q b1 b2 b3) h
theorem wf_isN {G : gE} {gs np K : Nat} {t : fT} {r m : Nat} (h : wf G gs np K t r m) (hr : r = 0 ∨ r = 1) : ∃ k v w A B C, t = fN k v w A B C := by
  by_cases h1 : ∃ k v w A B C, t = fN k v w A B C
  · exact h1
  · exfalso
    unfold wf ff at h
    split at h
    · exact h1 ⟨_, _, _, _, _, _, rfl⟩
    · unfold wfC at h
      rcases hr with rfl | rfl <;> simp at h
    · unfold wfZ at h
      rcases hr with rfl | rfl <;> simp at h
theorem rep_pos {τ : zSt} {k : Nat} {v w : Int} {A B C : fT} {lo hi : Nat} {i : Int32} (h : rep τ (fN k v w A B C) lo hi i) : ∃ m, i = nI m ∧ m < 4200 ∧ lo ≤ m ∧ m < hi := by
  rw [rep_N] at h
  obtain ⟨m, h1, h2, h3, -⟩ := h
  exact ⟨m, h1, h2, h3⟩
/-- a node with one part, two parts, three parts behind it -/
theorem rep_3 {τ : zSt} {k : Nat} {v w : Int} {A B C : fT} {m p q hi : Nat} {i : Int32} (e : i = nI m) (hk : ¬ (k = 6 ∨ k = 7 ∨ k = 8)) (hm : m < 4200) (h1 : zA τ 15 m = nI k) (h2 : zA τ 19 m = Int32.ofInt v) (h3 : zA τ 20 m = Int32.ofInt w) (b1 : m + 1 ≤ p) (b2 : p ≤ q) (b3 : q ≤ hi) (hA : rep τ A (m + 1) p (zA τ 16 m)) (hB : rep τ B p q (zA τ 17 m)) (hC : rep τ C q hi (zA τ 18 m)) : rep τ (fN k v w A B C) m hi i := by
  rw [rep_N]
  exact ⟨m, e, hm, by omega, h1, h2, h3, fun _ => ⟨rfl, p, q, b1, b2, b3, hA, hB, hC⟩, fun q => absurd q hk⟩
theorem rep_e {τ : zSt} {m : Nat} {i : Int32} (h : i = -1) : rep τ fZ m m i := by
  rw [rep_Z]; exact ⟨rfl, h⟩
theorem rep_1 {τ : zSt} {k : Nat} {v w : Int} {A : fT} {m hi : Nat} {i : Int32} (e : i = nI m) (hk : ¬ (k = 6 ∨ k = 7 ∨ k = 8)) (hm : m < 4200) (h1 : zA τ 15 m = nI k) (h2 : zA τ 19 m = Int32.ofInt v) (h3 : zA τ 20 m = Int32.ofInt w) (b : m + 1 ≤ hi) (hA : rep τ A (m + 1) hi (zA τ 16 m)) (hB : zA τ 17 m = -1) (hC : zA τ 18 m = -1) : rep τ (fN k v w A fZ fZ) m hi i := rep_3 e hk hm h1 h2 h3 b (Nat.le_refl _) (Nat.le_refl _) hA (rep_e hB) (rep_e hC)
theorem rep_0 {τ : zSt} {k : Nat} {v w : Int} {m : Nat} {i : Int32} (e : i = nI m) (hk : ¬ (k = 6 ∨ k = 7 ∨ k = 8)) (hm : m < 4200) (h1 : zA τ 15 m = nI k) (h2 : zA τ 19 m = Int32.ofInt v) (h3 : zA τ 20 m = Int32.ofInt w) (hA : zA τ 16 m = -1) (hB : zA τ 17 m = -1) (hC : zA τ 18 m = -1) : rep τ (fN k v w fZ fZ fZ) m (m + 1) i := rep_1 e hk hm h1 h2 h3 (Nat.le_refl _) (rep_e hA) hB hC
theorem rep_2 {τ : zSt} {k : Nat} {v w : Int} {A B : fT} {m p hi : Nat} {i : Int32} (e : i = nI m) (hk : ¬ (k = 6 ∨ k = 7 ∨ k = 8)) (hm : m < 4200) (h1 : zA τ 15 m = nI k) (h2 : zA τ 19 m = Int32.ofInt v) (h3 : zA τ 20 m = Int32.ofInt w) (b : m + 1 ≤ p) (b2 : p ≤ hi) (hA : rep τ A (m + 1) p (zA τ 16 m)) (hB : rep τ B p hi (zA τ 17 m)) (hC : zA τ 18 m = -1) : rep τ (fN k v w A B fZ) m hi i := rep_3 e hk hm h1 h2 h3 b b2 (Nat.le_refl _) hA hB (rep_e hC)
/-- a sign between its parts -/
theorem rep_T {τ : zSt} {k : Nat} {v w : Int} {A B : fT} {lo m hi : Nat} {i : Int32} (e : i = nI m) (hk : k = 6 ∨ k = 7 ∨ k = 8) (hm : m < 4200) (b1 : lo ≤ m) (b2 : m < hi) (h1 : zA τ 15 m = nI k) (h2 : zA τ 19 m = Int32.ofInt v) (h3 : zA τ 20 m = Int32.ofInt w) (hA : rep τ A lo m (zA τ 16 m)) (hB : rep τ B (m + 1) hi (zA τ 17 m)) (hC : zA τ 18 m = -1) : rep τ (fN k v w A B fZ) lo hi i := by
  rw [rep_N]
  exact ⟨m, e, hm, ⟨b1, b2⟩, h1, h2, h3, fun q => absurd hk q, fun _ => ⟨hA, hB, rep_e hC⟩⟩
/-- how many nodes -/
def cN : fT → Nat := ff 0 (fun _ _ _ a b c => 1 + a + b + c) (fun t r => t + r)
theorem cN_Z : cN fZ = 0 := ff_Z _ _ _
theorem cN_N {k : Nat} {v w : Int} {A B C : fT} : cN (fN k v w A B C) = 1 + cN A + cN B + cN C := ff_N _ _ _ _ _ _ _ _ _
theorem cN_C {t r : fT} : cN (fC t r) = cN t + cN r := ff_C _ _ _ _ _
theorem rep_cnt {τ : zSt} : ∀ (t : fT) (lo hi : Nat) (i : Int32), rep τ t lo hi i → hi = lo + cN t := by
  apply ff_ind
  · intro t hz lo hi i
    unfold rep cN
    rw [hz, hz]
    rintro ⟨h, -⟩
    omega
  · intro k v w A B C hA hB hC lo hi i
    rw [rep_N, cN_N]
    rintro ⟨m, h1, h2, h3, h4, h5, h6, h7⟩
    by_cases hk : k = 6 ∨ k = 7 ∨ k = 8
    · obtain ⟨a, b, c⟩ := h7.2 hk
      have := hA _ _ _ a
      have := hB _ _ _ b
      have := hC _ _ _ c
      omega
    · obtain ⟨e, p, q, b1, b2, b3, a, b, c⟩ := h7.1 hk
      have := hA _ _ _ a
      have := hB _ _ _ b
      have := hC _ _ _ c
      omega
  · intro t r ht hr lo hi i
    rw [rep_C, cN_C]
    rintro ⟨m, p, h1, h2, h3, h3b, h4, h5⟩
    have := ht _ _ _ h4
    have := hr _ _ _ h5
    omega
