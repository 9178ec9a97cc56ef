/-! THE CLASS: names that are told, added, cut -/
theorem toldD {ln : Nat → Nat} {N M q b : Nat} {e mk : Int32} {σ : zSt} (h : DS ln q e b σ) : fX6_toldName ln N M mk σ = some ((), σ) := by
  unfold fX6_toldName fX6_toldName_b49
  rw [h.2.2.1, if_neg (by decide), failHD h, obd_s, comeD h, obd_s]
/-- looked up from name fr on -/
theorem findF {ln : Nat → Nat} {N M q cc : Nat} {G : gE} {L : lE} {fnd : Nat → Int32} {bf : Nat} {w : Int64} {σ : zSt} (hL : LN ln q cc) (hN : 5000 ≤ N) (hG : G.2.2.2.2 + L.2.2 ≤ ln 15) (hbf : bf ≤ L.2.2) (h : NV G L fnd σ) : ∃ r, fX4_find ln N M w (nI (G.2.2.2.2 + bf)) σ = some (r, σ) ∧ (r < 0 ↔ dupL L bf w = false) := by
  have h16 := hL.2.2.1
  have h15 := hL.2.1
  unfold fX4_find
  rw [bnd_e, h.1, findB (W := wds G L) (by omega) _ N (by omega) (by omega) (by omega) (NV_w h)]
  have := look_lk (G := G) (w := w) (f := L.1) (g := L.2.1) L.2.2
  rw [show wds G L = wds G (L.1, L.2.1, L.2.2) from rfl, this]
  refine ⟨_, rfl, ?_⟩
  unfold dupL
  cases h1 : lkN L.1 w L.2.2 with
  | some j =>
    have hj := (lkN_lt h1).1
    show ((if G.2.2.2.2 + bf ≤ G.2.2.2.2 + j then nI (G.2.2.2.2 + j) else -1) < 0) ↔ decide (bf ≤ j) = false
    by_cases c : bf ≤ j
    · rw [if_pos (by omega), decide_eq_true c]
      exact ⟨fun q => by rw [Int32.lt_iff_toInt_lt, nI_toInt (by omega)] at q; have : (0 : Int32).toInt = 0 := rfl; omega, fun q => by cases q⟩
    · rw [if_neg (by omega), decide_eq_false c]
      exact ⟨fun _ => rfl, fun _ => by decide⟩
  | none =>
    show ((match lkN G.1 w G.2.2.2.2 with | some j => if G.2.2.2.2 + bf ≤ j then nI j else -1 | none => -1) < 0) ↔ false = false
    cases h2 : lkN G.1 w G.2.2.2.2 with
    | some g =>
      have hg := (lkN_lt h2).1
      show ((if G.2.2.2.2 + bf ≤ g then nI g else -1) < 0) ↔ false = false
      rw [if_neg (by omega)]
      exact ⟨fun _ => rfl, fun _ => by decide⟩
    | none => exact ⟨fun _ => rfl, fun _ => (by decide : (-1 : Int32) < 0)⟩
section
variable {ln : Nat → Nat} {N M q cc : Nat} {x : Nat → Int32} {n tc : Nat} {G : gE} {L : lE} {np : Nat} {fnd st : Nat → Int32} {mu : Int32} {tk : yTok} {c ns s p t D pl ms : Nat} {σ τ : zSt} {β : Type} {Q : β → zSt → Prop}
theorem stTold {f : Unit → zSt → Option (β × zSt)} {dup : Bool} {mk : Int32} (hL : LN ln q cc) (hn : n ≤ 512) (hN : 5000 ≤ N) (hG : G.2.2.2.2 + L.2.2 ≤ n) (ht : t ≤ 512) (h : CV ln q x n tc G L np fnd mu tk c ns s p t σ) (hB : CB n tc tk c ns s p D)
    (hfd : ∃ r, fX4_find ln N M tk.2.2.2 mk σ = some (r, σ) ∧ (r < 0 ↔ dup = false))
    (hok : ∀ t1, tk.2.2.1 = 40 → dup = false → cm x n tk = .ok t1 → CV ln q x n tc G L np fnd mu t1 c ns s p t (cS x n tk.1 σ) → fX q s p t σ (cS x n tk.1 σ) → CB n tc t1 c ns s p D → tk.1 ≤ t1.2.1 → wp (f () (cS x n tk.1 σ)) Q)
    (her : ∀ e z, xb (need 40 tk) (fun _ => if dup = true then er 4 tk.2.1 else cm x n tk) = .error e → e ≠ 0 → ER ln q σ e z → wp (f () z) Q) : wp (obd (fX6_toldName ln N M mk σ) f) Q := by
  have hB2 := hB
  obtain ⟨b1, b2, b3, b4, b5, b6⟩ := hB
  have hp1 := b1.1
  have hp2 := b1.2.1
  refine wp_obd ?_
  unfold fX6_toldName
  rw [h.2.1.2.2.1]
  by_cases k40 : tk.2.2.1 = 40
  · have hnd : need 40 tk = .ok () := by unfold need; rw [if_pos k40]
    rw [hnd] at her
    obtain ⟨r, h1, h2⟩ := hfd
    rw [if_pos k40, h.2.1.2.2.2.1 k40, h1, obd_s]
    cases dup with
    | true =>
      have he0 : (4 : Int32) + 16 * nI tk.2.1 ≠ 0 := er_ne erK4 (by omega)
      rw [if_neg (fun q => by cases h2.mp q), failHL h.2.2.1, h.2.1.2.1, obd_s]
      have hE := CV_ER (k := 0) hL hn hG ht h hB2 he0
      unfold fX6_toldName_b49
      rw [comeD hE.1, obd_s]
      exact wp_s (her _ _ rfl he0 hE)
    | false =>
      rw [if_pos (h2.mpr rfl)]
      unfold fX6_toldName_b49
      refine stCome hL hn hN hG ht h hB2 ?_ ?_
      · intro t1 a1 a2 a3 a4 a5
        exact wp_s (hok t1 k40 rfl a1 a2 a3 a4 a5)
      · intro e z a1 a2 a3
        exact wp_s (her e z a1 a2 a3)
  · have hnd : need 40 tk = er 2 tk.2.1 := by unfold need; rw [if_neg k40]
    have he0 : (2 : Int32) + 16 * nI tk.2.1 ≠ 0 := er_ne ⟨2, by omega, by omega, rfl⟩ (by omega)
    rw [if_neg k40, failHL h.2.2.1, h.2.1.2.1, obd_s]
    have hE := CV_ER (k := 0) hL hn hG ht h hB2 he0
    unfold fX6_toldName_b49
    rw [comeD hE.1, obd_s]
    exact wp_s (her _ _ (by rw [hnd]; rfl) he0 hE)
/-- a name is added -/
def naS (σ : zSt) (k : Nat) (w : Int64) (a b d : Int32) : zSt := zsI (zsA (zsA (zsA (zsA (zsB σ 16 k w) 17 k a) 18 k b) 19 k d) 20 k (-1)) 4 5 (nI (k + 1))
theorem nAddC {k : Nat} {w : Int64} {a b d : Int32} (hL : LN ln q cc) (hk : k < ln 15) (h : zI σ 4 5 = nI k) : fX4_add ln N M w a b d σ = some ((), naS σ k w a b d) := by
  have h15 := hL.2.1
  have e16 := hL.2.2.1
  have e17 := hL.2.2.2.1
  have e18 := hL.2.2.2.2.1
  have e19 := hL.2.2.2.2.2.1
  have e20 := hL.2.2.2.2.2.2.1
  unfold fX4_add naS
  rw [h, if_neg (by rw [nI_le' (by omega) (by omega)]; omega), nI_clamp (by omega), if_neg (ixN (by omega) (by omega)), bnd_e, zI_B, h, nI_clamp (by omega), if_neg (ixN (by omega) (by omega)), bnd_e, zI_A, zI_B, h, nI_clamp (by omega), if_neg (ixN (by omega) (by omega)), bnd_e, zI_A, zI_A, zI_B, h, nI_clamp (by omega), if_neg (ixN (by omega) (by omega)), bnd_e, zI_A, zI_A, zI_A, zI_B, h, nI_clamp (by omega), if_neg (ixN (by omega) (by omega)), bnd_e, zI_A, zI_A, zI_A, zI_A, zI_B, h, bnd_e, nI_1]
theorem naS_I {k o j : Nat} {w : Int64} {a b d : Int32} (h : ¬ (o = 4 ∧ j = 5)) : zI (naS σ k w a b d) o j = zI σ o j := by
  unfold naS
  rw [zI_I, if_neg h, zI_A, zI_A, zI_A, zI_A, zI_B]
theorem naS_f {k : Nat} {w : Int64} {a b d : Int32} : ∀ s1 p1, fSt q s1 p1 k σ (naS σ k w a b d) := fun s1 p1 => by
  unfold naS
  exact fSt_I (fSt_A (fSt_A (fSt_A (fSt_A (fSt_B fSt_refl (Nat.le_refl _)) (Or.inr (by omega))) (Or.inr (by omega))) (Or.inr (by omega))) (Or.inr (by omega))) (Or.inr (Or.inr ⟨rfl, rfl⟩))
theorem naS_A {k a' i : Nat} {w : Int64} {a b d : Int32} (h : ¬ (17 ≤ a' ∧ a' ≤ 20 ∧ i = k)) : zA (naS σ k w a b d) a' i = zA σ a' i := by
  unfold naS
  rw [zA_I, zA_A, if_neg (by omega), zA_A, if_neg (by omega), zA_A, if_neg (by omega), zA_A, if_neg (by omega), zA_B]
theorem naS_B {k i : Nat} {w : Int64} {a b d : Int32} (h : i ≠ k) : zB (naS σ k w a b d) 16 i = zB σ 16 i := by
  unfold naS
  rw [zB_I, zB_A, zB_A, zB_A, zB_A, zB_B, if_neg (by omega)]
theorem naS_Bk {k : Nat} {w : Int64} {a b d : Int32} : zB (naS σ k w a b d) 16 k = w ∧ zA (naS σ k w a b d) 17 k = a ∧ zA (naS σ k w a b d) 18 k = b ∧ zA (naS σ k w a b d) 19 k = d := by
  unfold naS
  refine ⟨by rw [zB_I, zB_A, zB_A, zB_A, zB_A, zB_B, if_pos ⟨rfl, rfl⟩], ?_, ?_, ?_⟩
  · rw [zA_I, zA_A, if_neg (by omega), zA_A, if_neg (by omega), zA_A, if_neg (by omega), zA_A, if_pos ⟨rfl, rfl⟩]
  · rw [zA_I, zA_A, if_neg (by omega), zA_A, if_neg (by omega), zA_A, if_pos ⟨rfl, rfl⟩]
  · rw [zA_I, zA_A, if_neg (by omega), zA_A, if_pos ⟨rfl, rfl⟩]
theorem na_NV {w : Int64} {b d : Int32} (h : NV G L fnd σ) : NV G (lAdd L w b) fnd (naS σ (G.2.2.2.2 + L.2.2) w 3 b d) := by
  refine ⟨by unfold naS; rw [zI_I, if_pos ⟨rfl, rfl⟩]; rfl, fun g hg => ?_, fun j hj => ?_⟩
  · obtain ⟨a1, a2, a3, a4, a5⟩ := h.2.1 g hg
    exact ⟨(naS_B (by omega)).trans a1, (naS_A (by omega)).trans a2, (naS_A (by omega)).trans a3, (naS_A (by omega)).trans a4, fun e => (naS_A (by omega)).trans (a5 e)⟩
  · have hj2 : j < L.2.2 + 1 := hj
    by_cases e : j = L.2.2
    · subst e
      obtain ⟨a1, a2, a3, -⟩ := naS_Bk (σ := σ) (k := G.2.2.2.2 + L.2.2) (w := w) (a := 3) (b := b) (d := d)
      exact ⟨a1.trans (by show w = if _ then _ else _; rw [if_pos rfl]), a2, a3.trans (by show b = if _ then _ else _; rw [if_pos rfl])⟩
    · obtain ⟨a1, a2, a3⟩ := h.2.2 j (by omega)
      exact ⟨(naS_B (by omega)).trans (a1.trans (by show _ = if _ then _ else _; rw [if_neg e])), (naS_A (by omega)).trans a2, (naS_A (by omega)).trans (a3.trans (by show _ = if _ then _ else _; rw [if_neg e]))⟩
theorem na_CV {w : Int64} {b d : Int32} (hL : LN ln q cc) (h : CV ln q x n tc G L np fnd mu tk c ns s p t σ) : CV ln q x n tc G (lAdd L w b) np fnd mu tk c ns s p t (naS σ (G.2.2.2.2 + L.2.2) w 3 b d) := by
  have hq := hL.1
  obtain ⟨⟨⟨s1', s2', s3', s4'⟩, hR, hN, c1, c2⟩, ⟨k1, k2, k3, k4, k5⟩, g3, g4, g5, g6, g7, g8, g9⟩ := h
  refine ⟨⟨⟨(naS_I (by omega)).trans s1', s2', s3', fun j hj => (naS_A (by omega)).trans (s4' j hj)⟩, hR, na_NV hN, (naS_I (by omega)).trans c1, (naS_I (by omega)).trans c2⟩, ⟨(naS_I (by omega)).trans k1, (naS_I (by omega)).trans k2, (naS_I (by omega)).trans k3, k4, k5⟩, (naS_I (by omega)).trans g3, (naS_I (by omega)).trans g4, (naS_I (by omega)).trans g5, (naS_I (by omega)).trans g6, (naS_I (by omega)).trans g7, (naS_I (by omega)).trans g8, (naS_I (by omega)).trans g9⟩
theorem cutD {e a : Int32} {b : Nat} (hL : LN ln q cc) (h : DS ln q e b σ) : wp (fX4_cutTo ln N M a σ) (fun _ z => DD ln q e b σ z) := by
  have hq := hL.1
  have h15 := hL.2.1
  obtain ⟨h1, h2, h3, h4, ⟨p, h5, h6⟩, ⟨s, h7, h8⟩, ⟨k, h9, h10⟩, ⟨t, h11, h12⟩, ⟨n, h13, h14⟩⟩ := h
  unfold fX4_cutTo
  rw [h10, bnd_e]
  have hv : ∃ j, j ≤ k ∧ (if (0 : Int32) < (if a < nI k then a else nI k) then (if a < nI k then a else nI k) else (0 : Int32)) = nI j := by
    by_cases c1 : a < nI k
    · rw [if_pos c1]
      by_cases c2 : (0 : Int32) < a
      · rw [if_pos c2]
        rw [Int32.lt_iff_toInt_lt] at c1 c2
        rw [nI_toInt (by omega)] at c1
        have z0 : (0 : Int32).toInt = 0 := rfl
        refine ⟨a.toInt.toNat, by omega, ?_⟩
        apply Int32.toInt_inj.mp
        rw [nI_toInt (by omega)]
        omega
      · rw [if_neg c2]
        exact ⟨0, by omega, rfl⟩
    · rw [if_neg c1]
      by_cases c2 : (0 : Int32) < nI k
      · rw [if_pos c2]; exact ⟨k, Nat.le_refl _, rfl⟩
      · rw [if_neg c2]; exact ⟨0, by omega, rfl⟩
  obtain ⟨j, j1, j2⟩ := hv
  rw [j2]
  refine wp_s ⟨⟨h1, ?_, ?_, h4, ⟨p, h5, ?_⟩, ⟨s, h7, ?_⟩, ⟨j, by omega, by rw [zI_I, if_pos ⟨rfl, rfl⟩]⟩, ⟨t, h11, ?_⟩, ⟨n, h13, ?_⟩⟩, fR_I fR_refl (by unfold okI; omega)⟩
  all_goals rw [zI_I, if_neg (by omega)]; assumption
theorem cutC {j k : Nat} (hj : j ≤ k) (hk : k ≤ 4096) (h : zI σ 4 5 = nI k) : fX4_cutTo ln N M (nI j) σ = some ((), zsI σ 4 5 (nI j)) := by
  unfold fX4_cutTo
  rw [h, bnd_e]
  have e1 : (if nI j < nI k then nI j else nI k) = nI j := by
    by_cases c1 : j < k
    · rw [if_pos ((nI_ltI (by omega) (by omega)).mpr c1)]
    · rw [if_neg (fun q => c1 ((nI_ltI (by omega) (by omega)).mp q)), show j = k by omega]
  have : (if (0 : Int32) < (if nI j < nI k then nI j else nI k) then (if nI j < nI k then nI j else nI k) else (0 : Int32)) = nI j := by
    rw [e1]
    by_cases c2 : 0 < j
    · rw [if_pos (show (0 : Int32) < nI j from (nI_ltI (a := 0) (by omega) (by omega)).mpr c2)]
    · rw [show j = 0 by omega]; rfl
  rw [this]
end
