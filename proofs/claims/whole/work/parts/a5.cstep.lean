/-! THE CLASS: steps of a reader that goes on -/
theorem CV_f {ln : Nat → Nat} {q : Nat} {x : Nat → Int32} {n tc : Nat} {G : gE} {L : lE} {np : Nat} {fnd : Nat → Int32} {mu : Int32} {tk : yTok} {c ns s p t c' ns' s' p' t' : Nat} {σ u : zSt} (hq : q = 9 ∨ q = 10) (h : CV ln q x n tc G L np fnd mu tk c ns s p t σ) (hf : fX q 0 0 0 σ u) (h1 : ∀ k, zI u 1 k = zI σ 1 k) (hl : ∀ k, zL u 1 k = zL σ 1 k) (h33 : zI u 3 3 = nI (tc - c')) (h34 : zI u 3 4 = nI ns') (hs : zI u (q + 2) 6 = nI s') (hp : zI u (q + 4) 1 = nI p') (ht : zI u 5 6 = nI t') (hm : zI u 5 7 = mu) : CV ln q x n tc G L np fnd mu tk c' ns' s' p' t' u := by
  obtain ⟨g1, ⟨k1, k2, k3, k4, k5⟩, g3, -⟩ := h
  exact ⟨CS_fX hq hf g1, ⟨(h1 2).trans k1, (h1 4).trans k2, (h1 3).trans k3, fun e => (hl 5).trans (k4 e), fun e => (hl 6).trans (k5 e)⟩, (h1 7).trans g3, h33, h34, hs, hp, ht, hm⟩
/-- errors that are told here: 11000 cells at most -/
def ER (ln : Nat → Nat) (q : Nat) (σ : zSt) (e : Int32) (z : zSt) : Prop := DS ln q e 11000 z ∧ fR q σ z
theorem CV_ER {ln : Nat → Nat} {q cc : Nat} {x : Nat → Int32} {n tc : Nat} {G : gE} {L : lE} {np : Nat} {fnd : Nat → Int32} {mu : Int32} {c ns s p t : Nat} {e k : Int32} {σ : zSt} {tk : yTok} {D : Nat} (hL : LN ln q cc) (hn : n ≤ 512) (hG : G.2.2.2.2 + L.2.2 ≤ n) (ht : t ≤ 512) (h : CV ln q x n tc G L np fnd mu tk c ns s p t σ) (hB : CB n tc tk c ns s p D) (he : e ≠ 0) : ER ln q σ e (zsI (zsI σ 1 7 e) 1 3 (-1)) := by
  have hnl := h.1.1.2.1
  obtain ⟨b1, b2, b3, b4, b5, b6⟩ := hB
  have hpl := b1.1
  have hpn := b1.2.1
  refine ⟨CV_DS hL.1 h he (by rw [zI_I, if_neg (by omega), zI_I, if_pos ⟨rfl, rfl⟩]) (by rw [zI_I, if_pos ⟨rfl, rfl⟩]) (fun o k h1 h2 h3 => by rw [zI_I, if_neg (by omega), zI_I, if_neg (by omega)]) (by rw [zI_I, if_neg (by omega), zI_I, if_neg (by omega)]) (fun o k => rfl) (by omega) (by omega) ht (by omega) (by omega), fR_I (fR_I fR_refl (by unfold okI; omega)) (by unfold okI; omega)⟩
theorem failHL {ln : Nat → Nat} {N M : Nat} {k : Int32} {σ : zSt} (h : zI σ 1 7 = 0) : fX7_failHere ln N M k σ = some ((), zsI (zsI σ 1 7 (k + 16 * zI σ 1 4)) 1 3 (-1)) := by
  unfold fX7_failHere fX7_failHere_b20
  rw [if_pos h, bnd_e, bnd_e]
section
variable {ln : Nat → Nat} {N M q cc : Nat} {x : Nat → Int32} {n tc : Nat} {G : gE} {L : lE} {np : Nat} {fnd : Nat → Int32} {mu : Int32} {tk : yTok} {c ns s p t D : Nat} {σ : zSt} {β : Type} {Q : β → zSt → Prop}
theorem stCome {f : Unit → zSt → Option (β × zSt)} (hL : LN ln q cc) (hn : n ≤ 512) (hN : 5000 ≤ N) (hG : G.2.2.2.2 + L.2.2 ≤ n) (ht : t ≤ 512) (h : CV ln q x n tc G L np fnd mu tk c ns s p t σ) (hB : CB n tc tk c ns s p D)
    (hok : ∀ t1, cm x n tk = .ok t1 → CV ln q x n tc G L np fnd mu t1 c ns s p t (cS x n tk.1 σ) → fX q s p t σ (cS x n tk.1 σ) → CB n tc t1 c ns s p D → tk.1 ≤ t1.2.1 → wp (f () (cS x n tk.1 σ)) Q)
    (her : ∀ e z, cm x n tk = .error e → e ≠ 0 → ER ln q σ e z → wp (f () z) Q) : wp (obd (fX7_come ln N M σ) f) Q := by
  have hnl := h.1.1.2.1
  have hB2 := hB
  obtain ⟨b1, b2, b3, b4, b5, b6⟩ := hB
  have hpl := b1.1
  have hpn := b1.2.1
  cases hcm : cm x n tk with
  | error e =>
    obtain ⟨e1, e2, e3⟩ := comeE (N := N) (M := M) h.1 h.2.1.1 h.2.2.1 hpn (by omega) hcm
    rw [e1, obd_s]
    have he0 := cm_ne hn hcm hpn
    have hf : fX q 0 0 0 σ (cS x n tk.1 σ) := comS_fX fX_refl
    refine her e _ hcm he0 ⟨CV_DS hL.1 h he0 e2 e3 (fun o k h1 h2 h3 => by unfold cS; exact comS_I h1) (hf.1 1 1 (by unfold eI; omega)) (fun o k => hf.2.2.1 o k) (by omega) (by omega) ht (by omega) (by omega), fX_R hL.1 hf⟩
  | ok t1 =>
    obtain ⟨e1, e2, e3⟩ := comeT (N := N) (M := M) h.1 h.2.1.1 h.2.2.1 hpn (by omega) hcm
    rw [e1, obd_s]
    have ht1 := sat_get (cm_ok (x := x) (n := n) (t := tk) (by omega) hpn) hcm
    have hh := ht1.2
    exact hok t1 hcm (CV_n hL.1 h e3 e2) (comS_fX fX_refl) ⟨ht1.1, b2, b3, b4, by omega, by omega⟩ hh
theorem stTake {f : Unit → zSt → Option (β × zSt)} {pl : Nat} (hL : LN ln q cc) (hn : n ≤ 512) (hG : G.2.2.2.2 + L.2.2 ≤ n) (ht : t ≤ 512) (hpl : pl ≤ 512) (h : CV ln q x n tc G L np fnd mu tk c ns s p t σ) (hB : CB n tc tk c ns s p D)
    (hok : ∀ c1, fo tc c pl = .ok c1 → CV ln q x n tc G L np fnd mu tk c1 ns s p t (zsI σ 3 3 (nI (tc - c1))) → fX q s p t σ (zsI σ 3 3 (nI (tc - c1))) → CB n tc tk c1 ns s p D → wp (f () (zsI σ 3 3 (nI (tc - c1)))) Q)
    (her : ∀ e z, fo tc c pl = .error e → e ≠ 0 → ER ln q σ e z → wp (f () z) Q) : wp (obd (fX1_takeCells ln N M (nI pl) σ) f) Q := by
  have hB2 := hB
  obtain ⟨b1, b2, b3, b4, b5, b6⟩ := hB
  unfold fX1_takeCells
  rw [h.2.2.2.1]
  cases hfo : fo tc c pl with
  | error e =>
    obtain ⟨e1, e2⟩ := fo_ee hfo
    rw [if_neg (show ¬ (4 : Int32) ≤ nI (tc - c) from fun q => by rw [show (4 : Int32) = nI 4 from rfl, nI_le' (by omega) (by omega)] at q; omega), failC _ _ h.2.2.1, obd_s, obd_s]
    have he0 := fo_ne hfo (by omega)
    rw [← e1]
    exact her e _ hfo he0 (CV_ER (k := 0) hL hn hG ht h hB2 he0)
  | ok c1 =>
    obtain ⟨e1, e2⟩ := fo_kk hfo
    have e3 : nI (tc - c) - 4 = nI (tc - c1) := by
      rw [show tc - c = (tc - c1) + 4 by omega, ← nI_add (tc - c1) 4]
      exact Int32.add_sub_cancel ..
    rw [if_pos (show (4 : Int32) ≤ nI (tc - c) by rw [show (4 : Int32) = nI 4 from rfl, nI_le' (by omega) (by omega)]; omega), bnd_e, obd_s, e3]
    have hf : fX q s p t σ (zsI σ 3 3 (nI (tc - c1))) := fX_I fX_refl (by unfold eI; omega)
    refine hok c1 hfo (CV_f hL.1 h (fX_I fX_refl (by unfold eI; omega)) (fun k => by rw [zI_I, if_neg (by omega)]) (fun k => rfl) (by rw [zI_I, if_pos ⟨rfl, rfl⟩]) ?_ ?_ ?_ ?_ ?_) hf ⟨b1, by omega, b3, b4, b5, b6⟩
    · rw [zI_I, if_neg (by omega)]; exact h.2.2.2.2.1
    · rw [zI_I, if_neg (by have := hL.1; omega)]; exact h.2.2.2.2.2.1
    · rw [zI_I, if_neg (by have := hL.1; omega)]; exact h.2.2.2.2.2.2.1
    · rw [zI_I, if_neg (by omega)]; exact h.2.2.2.2.2.2.2.1
    · rw [zI_I, if_neg (by omega)]; exact h.2.2.2.2.2.2.2.2
theorem stEnter {f : Unit → zSt → Option (β × zSt)} (hL : LN ln q cc) (hn : n ≤ 512) (hG : G.2.2.2.2 + L.2.2 ≤ n) (ht : t ≤ 512) (h : CV ln q x n tc G L np fnd mu tk c ns s p t σ) (hB : CB n tc tk c ns s p D)
    (hok : ∀ y, ne ns tk.2.1 = .ok y → CV ln q x n tc G L np fnd mu tk c (ns + 1) s p t (zsI σ 3 4 (nI (ns + 1))) → fX q s p t σ (zsI σ 3 4 (nI (ns + 1))) → CB n tc tk c (ns + 1) s p D → wp (f () (zsI σ 3 4 (nI (ns + 1)))) Q)
    (her : ∀ e z, ne ns tk.2.1 = .error e → e ≠ 0 → ER ln q σ e z → wp (f () z) Q) : wp (obd (fX1_enter ln N M σ) f) Q := by
  have hB2 := hB
  obtain ⟨b1, b2, b3, b4, b5, b6⟩ := hB
  have hp1 := b1.1
  have hp2 := b1.2.1
  unfold fX1_enter
  rw [h.2.2.2.2.1]
  cases hne : ne ns tk.2.1 with
  | error e =>
    obtain ⟨e1, e2⟩ := ne_ee hne
    rw [if_neg (show ¬ nI ns < 40 from fun q => by rw [e2] at q; exact absurd q (by decide)), failHL h.2.2.1, h.2.1.2.1, obd_s, obd_s]
    have he0 := ne_ne hne (by omega)
    rw [← e1]
    exact her e _ hne he0 (CV_ER (k := 0) hL hn hG ht h hB2 he0)
  | ok y =>
    have e1 := ne_kk hne
    rw [if_pos (show nI ns < 40 from nI_lt (b := 40) (by omega) (by omega)), bnd_e, obd_s, nI_1]
    refine hok y hne (CV_f hL.1 h (fX_I fX_refl (by unfold eI; omega)) (fun k => by rw [zI_I, if_neg (by omega)]) (fun k => rfl) ?_ (by rw [zI_I, if_pos ⟨rfl, rfl⟩]) ?_ ?_ ?_ ?_) (fX_I fX_refl (by unfold eI; omega)) ⟨b1, b2, b3, by omega, b5, b6⟩
    · rw [zI_I, if_neg (by omega)]; exact h.2.2.2.1
    · rw [zI_I, if_neg (by have := hL.1; omega)]; exact h.2.2.2.2.2.1
    · rw [zI_I, if_neg (by have := hL.1; omega)]; exact h.2.2.2.2.2.2.1
    · rw [zI_I, if_neg (by omega)]; exact h.2.2.2.2.2.2.2.1
    · rw [zI_I, if_neg (by omega)]; exact h.2.2.2.2.2.2.2.2
theorem stLeave {f : Unit → zSt → Option (β × zSt)} (hL : LN ln q cc) (h : CV ln q x n tc G L np fnd mu tk c (ns + 1) s p t σ) (hB : CB n tc tk c (ns + 1) s p D)
    (hok : CV ln q x n tc G L np fnd mu tk c ns s p t (zsI σ 3 4 (nI ns)) → fX q s p t σ (zsI σ 3 4 (nI ns)) → CB n tc tk c ns s p D → wp (f () (zsI σ 3 4 (nI ns))) Q) : wp (obd (fX1_leave ln N M σ) f) Q := by
  obtain ⟨b1, b2, b3, b4, b5, b6⟩ := hB
  unfold fX1_leave
  rw [h.2.2.2.2.1, nI_pred, bnd_e, obd_s]
  refine hok (CV_f hL.1 h (fX_I fX_refl (by unfold eI; omega)) (fun k => by rw [zI_I, if_neg (by omega)]) (fun k => rfl) ?_ (by rw [zI_I, if_pos ⟨rfl, rfl⟩]) ?_ ?_ ?_ ?_) (fX_I fX_refl (by unfold eI; omega)) ⟨b1, b2, b3, by omega, b5, b6⟩
  · rw [zI_I, if_neg (by omega)]; exact h.2.2.2.1
  · rw [zI_I, if_neg (by have := hL.1; omega)]; exact h.2.2.2.2.2.1
  · rw [zI_I, if_neg (by have := hL.1; omega)]; exact h.2.2.2.2.2.2.1
  · rw [zI_I, if_neg (by omega)]; exact h.2.2.2.2.2.2.2.1
  · rw [zI_I, if_neg (by omega)]; exact h.2.2.2.2.2.2.2.2
theorem stNeed {f : Unit → zSt → Option (β × zSt)} {k : Int32} (hL : LN ln q cc) (hn : n ≤ 512) (hG : G.2.2.2.2 + L.2.2 ≤ n) (ht : t ≤ 512) (h : CV ln q x n tc G L np fnd mu tk c ns s p t σ) (hB : CB n tc tk c ns s p D)
    (hok : ∀ y, need k tk = .ok y → wp (f () σ) Q)
    (her : ∀ e z, need k tk = .error e → e ≠ 0 → ER ln q σ e z → wp (f () z) Q) : wp (obd (fX7_need ln N M k σ) f) Q := by
  have hB2 := hB
  obtain ⟨b1, b2, b3, b4, b5, b6⟩ := hB
  have hp1 := b1.1
  have hp2 := b1.2.1
  unfold fX7_need
  rw [h.2.1.2.2.1]
  cases hne : need k tk with
  | error e =>
    obtain ⟨e1, e2⟩ := need_ee hne
    rw [if_neg e2, failHL h.2.2.1, h.2.1.2.1, obd_s, obd_s]
    have he0 := need_ne hne (by omega)
    rw [← e1]
    exact her e _ hne he0 (CV_ER (k := 0) hL hn hG ht h hB2 he0)
  | ok y =>
    rw [if_pos (need_kk hne), obd_s]
    exact hok y hne
theorem ck_CV {l : List Int32} (hL : LN ln q cc) (h : CV ln q x n tc G L np fnd mu tk c ns s p t σ) : CV ln q x n tc G L np fnd mu tk c ns s (p + l.length) t (ckS ln q σ p l) ∧ fX q s p t σ (ckS ln q σ p l) := by
  have hq := hL.1
  refine ⟨CV_f hL.1 h (fX_ck fX_refl (Nat.zero_le _)) (fun k => ckS_I (by omega)) (fun k => ckS_L) ?_ ?_ ?_ ckS_s ?_ ?_, fX_ck fX_refl (Nat.le_refl _)⟩
  · rw [ckS_I (by omega)]; exact h.2.2.2.1
  · rw [ckS_I (by omega)]; exact h.2.2.2.2.1
  · rw [ckS_I (by omega)]; exact h.2.2.2.2.2.1
  · rw [ckS_I (by omega)]; exact h.2.2.2.2.2.2.2.1
  · rw [ckS_I (by omega)]; exact h.2.2.2.2.2.2.2.2
theorem ta_CV {k a b d : Int32} (hL : LN ln q cc) (h : CV ln q x n tc G L np fnd mu tk c ns s p t σ) : CV ln q x n tc G L np fnd mu tk c ns (s + 1) p t (taS σ q s k a b d) ∧ fX q s p t σ (taS σ q s k a b d) := by
  have hq := hL.1
  refine ⟨CV_f hL.1 h (fX_ta fX_refl (Nat.zero_le _) hq) (fun k => taS_I (by omega)) (fun k => rfl) ?_ ?_ taS_s ?_ ?_ ?_, fX_ta fX_refl (Nat.le_refl _) hq⟩
  · rw [taS_I (by omega)]; exact h.2.2.2.1
  · rw [taS_I (by omega)]; exact h.2.2.2.2.1
  · rw [taS_I (by omega)]; exact h.2.2.2.2.2.2.1
  · rw [taS_I (by omega)]; exact h.2.2.2.2.2.2.2.1
  · rw [taS_I (by omega)]; exact h.2.2.2.2.2.2.2.2
end
