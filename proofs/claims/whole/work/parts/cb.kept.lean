/-! A PROGRAM THAT IS KEPT: its facts -/
theorem yFun_ms {x : Nat → Int32} {n tc : Nat} (hn : n ≤ 4096) {P : yP} {w : Int64} {p : Nat} {tk : yTok} {c : Nat} (h1 : gOk P.2.1 P.1) (hp : p ≤ 4096) (htk : tkO n tk) : sat (yFun x n tc P w p tk c) (fun u => ∀ g, g < u.1.1.2.2.2.2 → u.1.2.2.2.2 g ≤ n ∨ (g < P.1.2.2.2.2 ∧ u.1.2.2.2.2 g = P.2.2.2.2 g)) := by
  unfold yFun
  refine sat_xb (fo_ok hp) (fun c1 _ hc1 => sat_xb (cm_ok hn htk.2.1) (fun t3 _ ht3 => ?_))
  refine sat_xb (Q := fun u => u.1.2.2 ≤ 8 ∧ tkO n u.2 ∧ t3.2.1 ≤ u.2.2.1) ?_ (fun u _ hu => ?_)
  · split
    · exact ⟨by show 0 ≤ 8; omega, ht3.1, Nat.le_refl _⟩
    · exact yPars_ok hn _ _ _ ht3.1 (by show 0 ≤ 8; omega) (by omega)
  · obtain ⟨u1, u2, u3⟩ := hu
    refine sat_xb (need_ok (by have := u2.1; have := u2.2.1; omega)) (fun _ _ hk4 => sat_xb (cm_ok hn u2.2.1) (fun t5 _ ht5 => ?_))
    refine sat_xb (need_ok (by have := ht5.1.1; have := ht5.1.2.1; omega)) (fun _ _ hk5 => ?_)
    have hG2 : gOk P.2.1 (gAdd P.1 w 2 (nI P.2.2.1) (nI u.1.2.2)) := gOk_add h1 (Nat.le_refl _) (Or.inr (Or.inr ⟨rfl, u.1.2.2, u1, rfl⟩))
    refine sat_xb (yBlock_ok hn hG2 (yS_ok hn hG2 42) ht5.1 hk5 (by omega) (by omega) hc1.2 (lPlace_ok u1) (Nat.le_refl _) (Nat.zero_le _)) (fun r _ hr => ?_)
    obtain ⟨r1, r2, r3, r4, r5, r6⟩ := hr
    intro g hg
    have hg2 : g < P.1.2.2.2.2 + 1 := hg
    show (if g = P.1.2.2.2.2 then r.2.2.2 else P.2.2.2.2 g) ≤ n ∨ (g < P.1.2.2.2.2 ∧ (if g = P.1.2.2.2.2 then r.2.2.2 else P.2.2.2.2 g) = P.2.2.2.2 g)
    by_cases e : g = P.1.2.2.2.2
    · left
      rw [if_pos e]
      have := r2.1; have := r2.2.1; omega
    · right
      rw [if_neg e]
      exact ⟨by omega, rfl⟩
def msOk (n : Nat) (P : yP) : Prop := ∀ g, g < P.1.2.2.2.2 → P.1.2.1 g = 2 → P.2.2.2.2 g ≤ n
theorem yDecl_ms {x : Nat → Int32} {n tc : Nat} (hn : n ≤ 4096) {P : yP} {tk : yTok} {c : Nat} (hP : pOk P tk) (htk : tkO n tk) (hc : c ≤ tc) (hm : msOk n P) {u : yP × yTok × Nat} (h : yDecl x n tc P tk c = .ok u) : msOk n u.1 := by
  have hx := yDecl_ext (P' := u.1) (t' := u.2.1) (c' := u.2.2) h
  rw [yDecl_s] at h
  cases h1 : need 42 tk with
  | error e => rw [h1] at h; cases h
  | ok y =>
    rw [h1, xb_k] at h
    cases h2 : cm x n tk with
    | error e => rw [h2] at h; cases h
    | ok t1 =>
      rw [h2, xb_k] at h
      have ht1 := sat_get (cm_ok (x := x) (n := n) (t := tk) hn htk.2.1) h2
      cases h3 : yTo x n P.1 t1 with
      | error e => rw [h3] at h; cases h
      | ok t2 =>
        rw [h3, xb_k] at h
        have ht2 : tkO n t2 := by
          unfold yTo at h3
          cases h4 : need 40 t1 with
          | error e => rw [h4] at h3; cases h3
          | ok y =>
            rw [h4, xb_k] at h3
            split at h3
            · cases h3
            · exact (sat_get (cm_ok (x := x) (n := n) (t := t1) hn ht1.1.2.1) h3).1
        by_cases c2 : t2.2.2.1 = 49
        · rw [if_pos c2] at h
          have hs := sat_get (yFun_ms (x := x) (n := n) (tc := tc) (P := P) (w := t1.2.2.2) (p := t1.2.1) (tk := t2) (c := c) hn hP.1 (by have := ht1.1.1; have := ht1.1.2.1; omega) ht2) h
          intro g hg hk
          rcases hs g hg with a | ⟨a, b⟩
          · exact a
          · rw [b]; exact hm g a ((hx.1.2 g a).2.1.symm.trans hk)
        · rw [if_neg c2] at h
          cases h4 : yGl x n t2 with
          | error e => rw [h4] at h; cases h
          | ok v =>
            rw [h4, xb_k] at h
            cases h
            intro g hg hk
            have hg2 : g < P.1.2.2.2.2 + 1 := hg
            have hk2 : (if g = P.1.2.2.2.2 then (if t2.2.2.1 = 53 then (1 : Int32) else 0) else P.1.2.1 g) = 2 := hk
            by_cases e : g = P.1.2.2.2.2
            · rw [if_pos e] at hk2
              split at hk2 <;> exact absurd hk2 (by decide)
            · rw [if_neg e] at hk2
              exact hm g (by omega) hk2
theorem yDecls_ms {x : Nat → Int32} {n tc : Nat} (hn : n ≤ 4096) : ∀ (f : Nat) (P : yP) (tk : yTok) (c : Nat), pOk P tk → tkO n tk → c ≤ tc → msOk n P → ∀ Q, yDecls x n tc f P tk c = .ok Q → msOk n Q := by
  intro f
  induction f with
  | zero => intro P tk c _ _ _ _ Q h; cases h
  | succ f ih =>
    intro P tk c hP htk hc hm Q h
    rw [yDecls] at h
    by_cases e : tk.2.2.1 = 58
    · rw [if_pos e] at h
      cases h
      exact hm
    · rw [if_neg e] at h
      cases h1 : yDecl x n tc P tk c with
      | error e => rw [h1] at h; cases h
      | ok v =>
        rw [h1, xb_k] at h
        have hv := sat_get (yDecl_ok (x := x) (n := n) (tc := tc) hn hP htk hc) h1
        exact ih v.1 v.2.1 v.2.2 hv.1 hv.2.1 hv.2.2.2 (yDecl_ms hn hP htk hc hm h1) Q h
/-- all that is known of a program that has been read -/
def pKm (P : yP) (m : Nat) : Prop := pK P ∧ msOk 512 P ∧ isF P m ∧ npF P m = 0 ∧ lkN P.1.1 yMain P.1.2.2.2.2 = some m ∧ P.1.2.2.2.2 ≤ 512
theorem yRead_k {x : Nat → Int32} {n tc : Nat} {P : yP} (hn : n ≤ 512) (h : yRead x n tc = .ok P) (hs : P.2.2.1 ≤ 4096) : ∃ m, pKm P m := by
  obtain ⟨⟨u, hO, hu⟩, m, hm1, hm2, hm3⟩ := sat_get (yRead_ok (x := x) (n := n) (tc := tc) (by omega)) h
  have hb : u.2.1 ≤ 512 := by have := hu.1; have := hu.2.1; omega
  have hms : msOk n P := by
    unfold yRead at h
    cases hc : cm x n (0, 0, 0, 0) with
    | error e => rw [hc] at h; cases h
    | ok t0 =>
      rw [hc, xb_k] at h
      have ht0 := sat_get (cm_ok (x := x) (n := n) (t := (0, 0, 0, 0)) (by omega) (Nat.zero_le _)) hc
      cases hd : yDecls x n tc (n + 2) yP0 t0 0 with
      | error e => rw [hd] at h; cases h
      | ok Q =>
        rw [hd, xb_k] at h
        split at h
        · cases h
          exact yDecls_ms (by omega) _ _ _ _ ⟨fun g hg => absurd hg (Nat.not_lt_zero _), Nat.zero_le _, Nat.zero_le _, fun i j _ hj => absurd hj (Nat.not_lt_zero _), fun g hg => absurd hg (Nat.not_lt_zero _), rfl⟩ ht0.1 (Nat.zero_le _) (fun g hg => absurd hg (Nat.not_lt_zero _)) P hd
        · cases h
  have hml := (lkN_lt hm1).1
  refine ⟨m, ⟨fun g hg => ?_, hO.2.2.2.2.2, hs, by have := hO.2.2.1; omega⟩, fun g hg hk => Nat.le_trans (hms g hg hk) hn, ⟨hml, hm2⟩, ?_, hm1, by have := hO.2.1; omega⟩
  · obtain ⟨a1, a2, k, a3, a4, a5⟩ := hO.2.2.2.2.1 g hg.1 hg.2
    have e : npF P g = k := by unfold npF; rw [a4, nI_clamp (by omega)]
    rw [e]
    exact ⟨a2, a3, a4, a5⟩
  · unfold npF
    rw [hm3]
    rfl
