/-! THE CLASS: S -/
theorem iteM {α : Type} {c : Prop} [Decidable c] {a b : α} (h : b = a) : (if c then a else b) = a := by
  by_cases e : c
  · rw [if_pos e]
  · rw [if_neg e]; exact h
section
variable {ln : Nat → Nat} {N M q cc : Nat} {x : Nat → Int32} {n tc : Nat} {G : gE} {L L0 : lE} {np : Nat} {fnd st : Nat → Int32} {mu : Int32} {tk : yTok} {c ns ns0 s p t D pl pl0 ms : Nat} {σ τ : zSt}
theorem misp {K : zSt → Option (Int32 × zSt)} {k : Int32} (hk : zI σ 1 3 = k) (k1 : k ≠ 40) (k2 : k ≠ 43) (k3 : k ≠ 45) (k4 : k ≠ 46) (k5 : k ≠ 47) (k6 : k ≠ 51) (k7 : k ≠ 56) : fX6_statementB ln N M K σ = obd (fX6_misplaced ln N M σ) (fun r z => some (r, z)) := by
  unfold fX6_statementB
  rw [bnd_e, hk, if_neg k1]
  refine iteM (iteM ?_)
  rw [if_neg k2]
  refine iteM ?_
  rw [if_neg k3, if_neg k4, if_neg k5]
  refine iteM (iteM (iteM ?_))
  rw [if_neg k6]
  refine iteM (iteM (iteM (iteM ?_)))
  rw [if_neg k7]
theorem stmD {e0 : Nat} (hL : LN ln q cc) : KSD ln q (fX6_statement ln N M (e0 + 1)) := by
  intro e b σ h
  show wp (fX6_statementB ln N M (fX6_statement ln N M e0) σ) _
  rw [misp h.2.2.1 (by decide) (by decide) (by decide) (by decide) (by decide) (by decide) (by decide)]
  unfold fX6_misplaced
  rw [failHD h, obd_s, obd_s]
  exact wpS h (Nat.le_refl _)
theorem stC {K : zSt → Option (Int32 × zSt)} {R : ySrec} (hL : LN ln q cc) (hn : n ≤ 512) (hN : 5000 ≤ N) (hM : 43 ≤ M) (hG : G.2.2.2.2 + L.2.2 ≤ tk.2.1) (hgs : gSr G) (hst : ∀ g, g < G.2.2.2.2 → G.2.1 g = 2 → G.2.2.1 g = st g) (hKv : KSv ln q x n tc G np fnd st R K) (hKS : KSD ln q K) (h : SVc ln q x n tc G np fnd L tk c ns s p pl ms σ) (hB : CB n tc tk c ns s p D) (hP : p ≤ 4 + 20 * (s + D)) (hpm : pl ≤ tk.2.1) (hms : ms ≤ tk.2.1) (h0 : ySt x n tc G R ns L pl ms tk c ≠ .error 0) :
    wp (fX6_statementB ln N M K σ) (SQ ln q x n tc G np fnd st L tk ns s p D pl (SBc ns) σ (ySt x n tc G R ns L pl ms tk c)) := by
  generalize hres : ySt x n tc G R ns L pl ms tk c = res at h0 ⊢
  unfold ySt at hres
  have hkd := h.1.2.1.2.2.1
  have hp1 := hB.1.1
  have hp2 := hB.1.2.1
  have hSB := (SB_ge (ns := ns)).1
  by_cases k51 : tk.2.2.1 = 51
  · rw [if_pos k51] at hres
    rw [← hres] at h0 ⊢
    unfold fX6_statementB
    rw [bnd_e, hkd, k51, if_neg (by decide), if_neg (by decide), if_neg (by decide), if_neg (by decide), if_neg (by decide), if_neg (by decide), if_neg (by decide), if_neg (by decide), if_neg (by decide), if_neg (by decide), if_neg (by decide), if_pos rfl]
    exact bkC hL hn hN hM hG hgs hst hKv hKS h hB hP hpm hms k51 h0
  rw [if_neg k51] at hres
  by_cases k43 : tk.2.2.1 = 43
  · rw [if_pos k43] at hres
    rw [← hres] at h0 ⊢
    unfold fX6_statementB
    rw [bnd_e, hkd, k43, if_neg (by decide), if_neg (by decide), if_neg (by decide), if_pos rfl]
    exact wp_ret (ifC hL hn hN hM hG hgs hst hKv hKS h hB hP hpm hms k43 h0)
  rw [if_neg k43] at hres
  by_cases k45 : tk.2.2.1 = 45
  · rw [if_pos k45] at hres
    rw [← hres] at h0 ⊢
    unfold fX6_statementB
    rw [bnd_e, hkd, k45, if_neg (by decide), if_neg (by decide), if_neg (by decide), if_neg (by decide), if_neg (by decide), if_pos rfl]
    exact wp_ret (whC hL hn hN hM hG hgs hst hKv hKS h hB hP hpm hms k45 h0)
  rw [if_neg k45] at hres
  by_cases k46 : tk.2.2.1 = 46
  · rw [if_pos k46] at hres
    rw [← hres] at h0 ⊢
    unfold fX6_statementB
    rw [bnd_e, hkd, k46, if_neg (by decide), if_neg (by decide), if_neg (by decide), if_neg (by decide), if_neg (by decide), if_neg (by decide), if_pos rfl]
    exact wp_ret (retC hL hn hN hM hG hgs hst h hB hP hms k46 R h0)
  rw [if_neg k46] at hres
  by_cases k47 : tk.2.2.1 = 47
  · rw [if_pos k47] at hres
    rw [← hres] at h0 ⊢
    unfold fX6_statementB
    rw [bnd_e, hkd, k47, if_neg (by decide), if_neg (by decide), if_neg (by decide), if_neg (by decide), if_neg (by decide), if_neg (by decide), if_neg (by decide), if_pos rfl]
    exact wp_ret (prC hL hn hN hM hG hgs hst h hB hP hms k47 R h0)
  rw [if_neg k47] at hres
  by_cases k56 : tk.2.2.1 = 56
  · rw [if_pos k56] at hres
    rw [← hres] at h0 ⊢
    unfold fX6_statementB
    rw [bnd_e, hkd, k56, if_neg (by decide), if_neg (by decide), if_neg (by decide), if_neg (by decide), if_neg (by decide), if_neg (by decide), if_neg (by decide), if_neg (by decide), if_neg (by decide), if_neg (by decide), if_neg (by decide), if_neg (by decide), if_neg (by decide), if_neg (by decide), if_neg (by decide), if_neg (by decide), if_pos rfl]
    exact wp_ret (empC hL hn hN hG h hB hP hms k56 R)
  rw [if_neg k56] at hres
  by_cases k40 : tk.2.2.1 = 40
  · rw [if_pos k40] at hres
    rw [← hres] at h0 ⊢
    unfold fX6_statementB
    rw [bnd_e, hkd, k40, if_pos rfl]
    exact nmC hL hn hN hM hG hgs hst h hB hP hms k40 R h0
  rw [if_neg k40] at hres
  rw [misp hkd k40 k43 k45 k46 k47 k51 k56]
  have he0 : (2 : Int32) + 16 * nI tk.2.1 ≠ 0 := er_ne ⟨2, by omega, by omega, rfl⟩ (by omega)
  unfold fX6_misplaced
  rw [failHL h.1.2.2.1, h.1.2.1.2.1, obd_s, obd_s]
  have hE := CV_ER (k := 0) hL hn (by omega) (by omega) h.1 hB he0
  exact wp_s (SQ_e hres.symm he0 hE.1 hE.2 (by omega))
theorem stmC (hL : LN ln q cc) (hn : n ≤ 512) (hN : 5000 ≤ N) (hM : 43 ≤ M) (hgs : gSr G) (hst : ∀ g, g < G.2.2.2.2 → G.2.1 g = 2 → G.2.2.1 g = st g) : ∀ (d e : Nat), d ≤ e → KSv ln q x n tc G np fnd st (yS x n tc G d) (fX6_statement ln N M (e + 1)) := by
  intro d
  induction d with
  | zero => intro e _ ns L pl ms tk c s p D τ _ _ _ _ _ _ h0; exact absurd rfl h0
  | succ d ih =>
    intro e hde ns L pl ms tk c s p D τ h hB hP hG hpm hms h0
    obtain ⟨e', rfl⟩ : ∃ g, e = g + 1 := ⟨e - 1, by omega⟩
    exact stC (K := fX6_statement ln N M (e' + 1)) (R := yS x n tc G d) hL hn hN hM hG hgs hst (ih e' (by omega)) (stmD hL) h hB hP hpm hms h0
end
