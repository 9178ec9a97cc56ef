/-! FACTS of S and of the program -/
theorem gExt_refl (G : gE) : gExt G G := ⟨Nat.le_refl _, fun _ _ => ⟨rfl, rfl, rfl, rfl⟩⟩
theorem wf_K {G : gE} {gs np K K' : Nat} {t : fT} {r m : Nat} (h : wf G gs np K t r m) (hK : K ≤ K') : wf G gs np K' t r m := wf_mono (gExt_refl G) (Nat.le_refl _) hK t r m h
def sR (n tc : Nat) (G : gE) (gs np ms : Nat) (tk : yTok) (u : fT × yTok × Nat × Nat) : Prop := (∀ K, u.2.2.2 ≤ K → wf G gs np K u.1 1 0) ∧ tkO n u.2.1 ∧ tk.2.1 < u.2.1.2.1 ∧ u.2.2.1 ≤ tc ∧ ms ≤ u.2.2.2 ∧ u.2.2.2 ≤ u.2.1.2.1
def sQ (n tc : Nat) (G : gE) (gs np d : Nat) (R : ySrec) : Prop := ∀ ns L pl ms tk c, tkO n tk → ns ≤ 40 → 41 ≤ d + ns → c ≤ tc → lOk np pl L → pl ≤ ms → ms ≤ tk.2.1 → sat (R ns L pl ms tk c) (sR n tc G gs np ms tk)
theorem lAdd_ok {np pl : Nat} {L : lE} {w : Int64} (h : lOk np pl L) (hp : pl ≤ 4096) : lOk np (pl + 1) (lAdd L w (nI pl)) := by
  intro j hj
  show plOk np (pl + 1) (if j = L.2.2 then nI pl else L.2.1 j).toInt
  by_cases e : j = L.2.2
  · rw [if_pos e, nI_toInt (by omega)]
    exact Or.inl (by omega)
  · rw [if_neg e]
    have hj2 : j < L.2.2 + 1 := hj
    rcases h j (by omega) with q | q
    · exact Or.inl (by omega)
    · exact Or.inr q
theorem yItems_ok {x : Nat → Int32} {n tc : Nat} {G : gE} {gs np d : Nat} {R : ySrec} (hn : n ≤ 4096) (hG : gOk gs G) (hR : sQ n tc G gs np d R) : ∀ (f : Nat) (dc : Bool) (bf ns : Nat) (L : lE) (pl ms : Nat) (tk : yTok) (c : Nat), tkO n tk → ns ≤ 40 → 41 ≤ d + ns → c ≤ tc → lOk np pl L → pl ≤ ms → ms ≤ tk.2.1 → n + 1 ≤ f + tk.2.1 →
    sat (yItems x n tc G R f dc bf ns L pl ms tk c) (fun u => (∀ K, u.2.2.2 ≤ K → wf G gs np K u.1 2 0) ∧ tkO n u.2.1 ∧ tk.2.1 ≤ u.2.1.2.1 ∧ u.2.2.1 ≤ tc ∧ ms ≤ u.2.2.2 ∧ u.2.1.2.2.1 = 52 ∧ u.2.2.2 ≤ u.2.1.2.1) := by
  intro f
  induction f with
  | zero => intro dc bf ns L pl ms tk c htk _ _ _ _ _ _ h; have := htk.1; have := htk.2.1; omega
  | succ f ih =>
    intro dc bf ns L pl ms tk c htk hns hd hc hL hpl hpt hf
    have hp2 : tk.2.1 ≤ 4096 := by have := htk.1; have := htk.2.1; omega
    unfold yItems
    split
    · rename_i hk
      exact ⟨fun K _ => by rw [wf_Z]; exact Or.inl rfl, htk, Nat.le_refl _, hc, Nat.le_refl _, hk, hpt⟩
    · split
      · rename_i hk
        have hlt := tk_ne htk hk.2 (by decide)
        refine sat_xb (cm_ok hn htk.2.1) (fun t1 _ ht1 => ?_)
        have hp3 : t1.2.1 ≤ 4096 := by have := ht1.1.1; have := ht1.1.2.1; omega
        refine sat_xb (need_ok hp3) (fun _ _ hk1 => ?_)
        have hlt1 := tk_ne ht1.1 hk1 (by decide)
        split
        · exact sat_er erK4 hp3
        · refine sat_xb (cm_ok hn ht1.1.2.1) (fun t2 _ ht2 => ?_)
          refine sat_xb (Q := fun u => (wf G gs np pl u.1 4 0 ∨ wf G gs np pl u.1 0 0) ∧ tkO n u.2.1 ∧ t2.2.1 ≤ u.2.1.2.1 ∧ u.2.2 ≤ tc) ?_ (fun u _ hu => ?_)
          · split
            · refine sat_xb (cm_ok hn ht2.1.2.1) (fun t3 _ ht3 => sat_mono (yE_ok hn hG hL 42 ns 56 t3 c ht3.1 hns (by omega) hc) ?_)
              rintro v ⟨v1, v2, v3, v4, v5⟩
              exact ⟨Or.inr v1, v2, by have := ht3.2; have := ht2.1.1; omega, v4⟩
            · exact ⟨Or.inl (by rw [wf_Z]; exact Or.inr (Or.inr rfl)), ht2.1, Nat.le_refl _, hc⟩
          · refine sat_xb (need_ok (by have := hu.2.1.1; have := hu.2.1.2.1; omega)) (fun _ _ hk5 => sat_xb (cm_ok hn hu.2.1.2.1) (fun t5 _ ht5 => ?_))
            have hlt5 := tk_ne hu.2.1 hk5 (by decide)
            have hh1 := ht1.2
            have hh2 := ht2.2
            have hh3 := hu.2.2.1
            have hh5 := ht5.2
            refine sat_xb (ih true bf ns _ (pl + 1) (max ms (pl + 1)) t5 u.2.2 ht5.1 hns hd hu.2.2.2 (lAdd_ok hL (by omega)) (by omega) (by omega) (by omega)) (fun r _ hr => ?_)
            obtain ⟨r1, r2, r3, r4, r5, r6, r7⟩ := hr
            refine ⟨fun K hK => ?_, r2, by show tk.2.1 ≤ r.2.1.2.1; omega, r4, by show ms ≤ r.2.2.2; omega, r6, r7⟩
            have hK2 : r.2.2.2 ≤ K := hK
            rw [wf_C]
            refine ⟨?_, r1 K hK2⟩
            rw [wf_N]
            exact ⟨hu.1.imp (fun h => wf_K h (by omega)) (fun h => wf_K h (by omega)), by omega, by omega⟩
      · refine sat_xb (hR ns L pl ms tk c htk hns hd hc hL hpl hpt) (fun s _ hs => ?_)
        obtain ⟨s1, s2, s3, s4, s5, s6⟩ := hs
        refine sat_xb (ih false bf ns L pl s.2.2.2 s.2.1 s.2.2.1 s2 hns hd s4 hL (by omega) (by omega) (by omega)) (fun r _ hr => ?_)
        obtain ⟨r1, r2, r3, r4, r5, r6, r7⟩ := hr
        refine ⟨fun K hK => ?_, r2, by show tk.2.1 ≤ r.2.1.2.1; omega, r4, by show ms ≤ r.2.2.2; omega, r6, r7⟩
        have hK2 : r.2.2.2 ≤ K := hK
        rw [wf_C]
        exact ⟨s1 K (by omega), r1 K hK2⟩
theorem yBlock_ok {x : Nat → Int32} {n tc : Nat} {G : gE} {gs np d : Nat} {R : ySrec} (hn : n ≤ 4096) (hG : gOk gs G) (hR : sQ n tc G gs np d R) {ns : Nat} {L : lE} {pl ms : Nat} {tk : yTok} {c : Nat} (htk : tkO n tk) (hk : tk.2.2.1 = 51) (hns : ns + 1 ≤ 40) (hd : 40 ≤ d + ns) (hc : c ≤ tc) (hL : lOk np pl L) (hpl : pl ≤ ms) (hpt : ms ≤ tk.2.1) :
    sat (yBlock x n tc G R ns L pl ms tk c) (fun u => (∀ K, u.2.2.2 ≤ K → wf G gs np K u.1 2 0) ∧ tkO n u.2.1 ∧ tk.2.1 < u.2.1.2.1 ∧ u.2.2.1 ≤ tc ∧ ms ≤ u.2.2.2 ∧ u.2.2.2 ≤ u.2.1.2.1) := by
  have hlt := tk_ne htk hk (by decide)
  unfold yBlock
  refine sat_xb (cm_ok hn htk.2.1) (fun t1 _ ht1 => sat_xb (yItems_ok hn hG hR (n + 2) true L.2.2 (ns + 1) L pl ms t1 c ht1.1 hns (by omega) hc hL hpl (by have := ht1.2; omega) (by omega)) (fun r _ hr => sat_xb (cm_ok hn hr.2.1.2.1) (fun t3 _ ht3 => ?_)))
  exact ⟨hr.1, ht3.1, by have := ht3.2; have := hr.2.1.1; have := hr.2.2.1; have := ht1.2; show tk.2.1 < t3.2.1; omega, hr.2.2.2.1, hr.2.2.2.2.1, by have := hr.2.2.2.2.2.2; have := ht3.2; have := hr.2.1.1; show r.2.2.2 ≤ t3.2.1; omega⟩
theorem yBk_ok {x : Nat → Int32} {n tc : Nat} {G : gE} {gs np d : Nat} {R : ySrec} (hn : n ≤ 4096) (hG : gOk gs G) (hR : sQ n tc G gs np d R) {ns : Nat} {L : lE} {pl ms : Nat} {tk : yTok} {c : Nat} (htk : tkO n tk) (hk : tk.2.2.1 = 51) (hns : ns ≤ 40) (hd : 41 ≤ d + 1 + ns) (hc : c ≤ tc) (hL : lOk np pl L) (hpl : pl ≤ ms) (hpt : ms ≤ tk.2.1) : sat (yBk x n tc G R ns L pl ms tk c) (sR n tc G gs np ms tk) := by
  have hp2 : tk.2.1 ≤ 4096 := by have := htk.1; have := htk.2.1; omega
  have hE := yE_ok (x := x) hn hG hL (tc := tc) 42
  have hlt := tk_ne htk hk (by decide)
  unfold yBk
  refine sat_xb (ne_ok hp2 hns) (fun _ _ hns1 => sat_xb (fo_ok hp2) (fun c1 _ hc1 => sat_xb (yBlock_ok hn hG hR htk hk hns1 (by omega) hc1.2 hL hpl hpt) (fun r _ hr => ?_)))
  exact ⟨fun K hK => by rw [wf_N]; exact hr.1 K hK, hr.2⟩
theorem yIf_ok {x : Nat → Int32} {n tc : Nat} {G : gE} {gs np d : Nat} {R : ySrec} (hn : n ≤ 4096) (hG : gOk gs G) (hR : sQ n tc G gs np d R) {ns : Nat} {L : lE} {pl ms : Nat} {tk : yTok} {c : Nat} (htk : tkO n tk) (hk : tk.2.2.1 = 43) (hns : ns ≤ 40) (hd : 41 ≤ d + 1 + ns) (hc : c ≤ tc) (hL : lOk np pl L) (hpl : pl ≤ ms) (hpt : ms ≤ tk.2.1) : sat (yIf x n tc G R ns L pl ms tk c) (sR n tc G gs np ms tk) := by
  have hp2 : tk.2.1 ≤ 4096 := by have := htk.1; have := htk.2.1; omega
  have hE := yE_ok (x := x) hn hG hL (tc := tc) 42
  have hlt := tk_ne htk hk (by decide)
  unfold yIf
  refine sat_xb (ne_ok hp2 hns) (fun _ _ hns1 => sat_xb (fo_ok hp2) (fun c1 _ hc1 => sat_xb (cm_ok hn htk.2.1) (fun t1 _ ht1 => sat_xb (yBr_ok hn hE ht1.1 hns1 (by omega) hc1.2) (fun u _ hu => ?_))))
  have hh1 := ht1.2
  have hh2 := hu.2.2.1
  refine sat_xb (hR (ns + 1) L pl ms u.2.1 u.2.2 hu.2.1 hns1 (by omega) hu.2.2.2.1 hL hpl (by omega)) (fun s _ hs => ?_)
  obtain ⟨s1, s2, s3, s4, s5, s6⟩ := hs
  split
  · rename_i hk2
    have hlt2 := tk_ne s2 hk2 (by decide)
    refine sat_xb (ne_ok (by have := s2.1; have := s2.2.1; omega) hns1) (fun _ _ hns2 => sat_xb (cm_ok hn s2.2.1) (fun t3 _ ht3 => ?_))
    have hh3 := ht3.2
    refine sat_xb (hR (ns + 2) L pl s.2.2.2 t3 s.2.2.1 ht3.1 (by omega) (by omega) s4 hL (by omega) (by omega)) (fun r _ hr => ?_)
    obtain ⟨r1, r2, r3, r4, r5, r6⟩ := hr
    refine ⟨fun K hK => ?_, r2, by show tk.2.1 < r.2.1.2.1; omega, r4, by show ms ≤ r.2.2.2; omega, r6⟩
    have hK2 : r.2.2.2 ≤ K := hK
    rw [wf_N]
    exact ⟨wf_K hu.1 (by omega), s1 K (by omega), Or.inr (r1 K hK2)⟩
  · refine ⟨fun K hK => ?_, s2, by show tk.2.1 < s.2.1.2.1; omega, s4, s5, s6⟩
    have hK2 : s.2.2.2 ≤ K := hK
    rw [wf_N, wf_Z]
    exact ⟨wf_K hu.1 (by omega), s1 K hK2, Or.inl (Or.inr (Or.inr rfl))⟩
theorem yWh_ok {x : Nat → Int32} {n tc : Nat} {G : gE} {gs np d : Nat} {R : ySrec} (hn : n ≤ 4096) (hG : gOk gs G) (hR : sQ n tc G gs np d R) {ns : Nat} {L : lE} {pl ms : Nat} {tk : yTok} {c : Nat} (htk : tkO n tk) (hk : tk.2.2.1 = 45) (hns : ns ≤ 40) (hd : 41 ≤ d + 1 + ns) (hc : c ≤ tc) (hL : lOk np pl L) (hpl : pl ≤ ms) (hpt : ms ≤ tk.2.1) : sat (yWh x n tc G R ns L pl ms tk c) (sR n tc G gs np ms tk) := by
  have hp2 : tk.2.1 ≤ 4096 := by have := htk.1; have := htk.2.1; omega
  have hE := yE_ok (x := x) hn hG hL (tc := tc) 42
  have hlt := tk_ne htk hk (by decide)
  unfold yWh
  refine sat_xb (ne_ok hp2 hns) (fun _ _ hns1 => sat_xb (fo_ok hp2) (fun c1 _ hc1 => sat_xb (cm_ok hn htk.2.1) (fun t1 _ ht1 => sat_xb (yBr_ok hn hE ht1.1 hns1 (by omega) hc1.2) (fun u _ hu => ?_))))
  have hh1 := ht1.2
  have hh2 := hu.2.2.1
  refine sat_xb (hR (ns + 1) L pl ms u.2.1 u.2.2 hu.2.1 hns1 (by omega) hu.2.2.2.1 hL hpl (by omega)) (fun s _ hs => ?_)
  obtain ⟨s1, s2, s3, s4, s5, s6⟩ := hs
  refine ⟨fun K hK => ?_, s2, by show tk.2.1 < s.2.1.2.1; omega, s4, s5, s6⟩
  have hK2 : s.2.2.2 ≤ K := hK
  rw [wf_N]
  exact ⟨wf_K hu.1 (by omega), s1 K hK2⟩
theorem yRt_ok {x : Nat → Int32} {n tc : Nat} {G : gE} {gs np d : Nat} {R : ySrec} (hn : n ≤ 4096) (hG : gOk gs G) (hR : sQ n tc G gs np d R) {ns : Nat} {L : lE} {pl ms : Nat} {tk : yTok} {c : Nat} (htk : tkO n tk) (hk : tk.2.2.1 = 46) (hns : ns ≤ 40) (hd : 41 ≤ d + 1 + ns) (hc : c ≤ tc) (hL : lOk np pl L) (hpl : pl ≤ ms) (hpt : ms ≤ tk.2.1) : sat (yRt x n tc G R ns L pl ms tk c) (sR n tc G gs np ms tk) := by
  have hp2 : tk.2.1 ≤ 4096 := by have := htk.1; have := htk.2.1; omega
  have hE := yE_ok (x := x) hn hG hL (tc := tc) 42
  have hlt := tk_ne htk hk (by decide)
  unfold yRt
  refine sat_xb (fo_ok hp2) (fun c1 _ hc1 => sat_xb (cm_ok hn htk.2.1) (fun t1 _ ht1 => sat_xb (hE ns 56 t1 c1 ht1.1 hns (by omega) hc1.2) (fun u _ hu => sat_xb (cm_ok hn hu.2.1.2.1) (fun t3 _ ht3 => ?_))))
  have hx : tk.2.1 < t3.2.1 := by have := ht3.2; have := hu.2.1.1; have := hu.2.2.1; have := ht1.2; omega
  refine ⟨fun K hK => ?_, ht3.1, hx, hu.2.2.2.1, Nat.le_refl _, Nat.le_trans hpt (Nat.le_of_lt hx)⟩
  rw [wf_N]
  exact wf_K hu.1 (by have : ms ≤ K := hK; omega)
theorem yPr_ok {x : Nat → Int32} {n tc : Nat} {G : gE} {gs np d : Nat} {R : ySrec} (hn : n ≤ 4096) (hG : gOk gs G) (hR : sQ n tc G gs np d R) {ns : Nat} {L : lE} {pl ms : Nat} {tk : yTok} {c : Nat} (htk : tkO n tk) (hk : tk.2.2.1 = 47) (hns : ns ≤ 40) (hd : 41 ≤ d + 1 + ns) (hc : c ≤ tc) (hL : lOk np pl L) (hpl : pl ≤ ms) (hpt : ms ≤ tk.2.1) : sat (yPr x n tc G R ns L pl ms tk c) (sR n tc G gs np ms tk) := by
  have hp2 : tk.2.1 ≤ 4096 := by have := htk.1; have := htk.2.1; omega
  have hE := yE_ok (x := x) hn hG hL (tc := tc) 42
  have hlt := tk_ne htk hk (by decide)
  unfold yPr
  refine sat_xb (fo_ok hp2) (fun c1 _ hc1 => sat_xb (cm_ok hn htk.2.1) (fun t1 _ ht1 => sat_xb (yBr_ok hn hE ht1.1 hns (by omega) hc1.2) (fun u _ hu => sat_xb (need_ok (by have := hu.2.1.1; have := hu.2.1.2.1; omega)) (fun _ _ hk2 => sat_xb (cm_ok hn hu.2.1.2.1) (fun t3 _ ht3 => ?_)))))
  have hx : tk.2.1 < t3.2.1 := by have := ht3.2; have := hu.2.1.1; have := hu.2.2.1; have := ht1.2; omega
  refine ⟨fun K hK => ?_, ht3.1, hx, hu.2.2.2.1, Nat.le_refl _, Nat.le_trans hpt (Nat.le_of_lt hx)⟩
  rw [wf_N]
  exact wf_K hu.1 (by have : ms ≤ K := hK; omega)
theorem yEm_ok {x : Nat → Int32} {n tc : Nat} {G : gE} {gs np d : Nat} {R : ySrec} (hn : n ≤ 4096) (hG : gOk gs G) (hR : sQ n tc G gs np d R) {ns : Nat} {L : lE} {pl ms : Nat} {tk : yTok} {c : Nat} (htk : tkO n tk) (hk : tk.2.2.1 = 56) (hns : ns ≤ 40) (hd : 41 ≤ d + 1 + ns) (hc : c ≤ tc) (hL : lOk np pl L) (hpl : pl ≤ ms) (hpt : ms ≤ tk.2.1) : sat (yEm x n tc G R ns L pl ms tk c) (sR n tc G gs np ms tk) := by
  have hp2 : tk.2.1 ≤ 4096 := by have := htk.1; have := htk.2.1; omega
  have hE := yE_ok (x := x) hn hG hL (tc := tc) 42
  have hlt := tk_ne htk hk (by decide)
  unfold yEm
  refine sat_xb (fo_ok hp2) (fun c1 _ hc1 => sat_xb (cm_ok hn htk.2.1) (fun t1 _ ht1 => ?_))
  exact ⟨fun K hK => by rw [wf_N]; exact rfl, ht1.1, by have := ht1.2; show tk.2.1 < t1.2.1; omega, hc1.2, Nat.le_refl _, by have := ht1.2; show ms ≤ t1.2.1; omega⟩
theorem yNm_ok {x : Nat → Int32} {n tc : Nat} {G : gE} {gs np d : Nat} {R : ySrec} (hn : n ≤ 4096) (hG : gOk gs G) (hR : sQ n tc G gs np d R) {ns : Nat} {L : lE} {pl ms : Nat} {tk : yTok} {c : Nat} (htk : tkO n tk) (hk : tk.2.2.1 = 40) (hns : ns ≤ 40) (hd : 41 ≤ d + 1 + ns) (hc : c ≤ tc) (hL : lOk np pl L) (hpl : pl ≤ ms) (hpt : ms ≤ tk.2.1) : sat (yNm x n tc G R ns L pl ms tk c) (sR n tc G gs np ms tk) := by
  have hp2 : tk.2.1 ≤ 4096 := by have := htk.1; have := htk.2.1; omega
  have hE := yE_ok (x := x) hn hG hL (tc := tc) 42
  have hlt := tk_ne htk hk (by decide)
  unfold yNm
  split
  · exact sat_er erK3 hp2
  · rename_i q hq
    refine sat_xb (fo_ok hp2) (fun c1 _ hc1 => sat_xb (cm_ok hn htk.2.1) (fun t1 _ ht1 => ?_))
    have hh1 := ht1.2
    unfold yAs
    split
    · rename_i hk1
      split
      · rename_i hk0
        refine sat_xb (cm_ok hn ht1.1.2.1) (fun t2 _ ht2 => sat_xb (hE ns 56 t2 c1 ht2.1 hns (by omega) hc1.2) (fun u _ hu => sat_xb (cm_ok hn hu.2.1.2.1) (fun t4 _ ht4 => ?_)))
        have hx : tk.2.1 < t4.2.1 := by have := ht4.2; have := hu.2.1.1; have := hu.2.2.1; have := ht2.2; have := ht1.1.1; omega
        refine ⟨fun K hK => ?_, ht4.1, hx, hu.2.2.2.1, Nat.le_refl _, Nat.le_trans hpt (Nat.le_of_lt hx)⟩
        have hK2 : ms ≤ K := hK
        rcases look_ok hq with ⟨j, rfl, hj⟩ | ⟨g, rfl, hg⟩
        · show wf G gs np K (fN 27 _ 0 _ fZ fZ) 1 0
          rw [wf_N]
          refine ⟨wf_K hu.1 (by omega), ?_⟩
          rcases hL j hj with q | q
          · exact Or.inl (by omega)
          · exact Or.inr q
        · show wf G gs np K (fN 26 _ 0 _ fZ fZ) 1 0
          rw [wf_N]
          refine ⟨wf_K hu.1 (by omega), ?_⟩
          rcases hG g hg with ⟨-, h1, h2⟩ | ⟨h, -⟩ | ⟨h, -⟩
          · exact ⟨h1, h2⟩
          · exact absurd (h.symm.trans hk0) (by decide)
          · exact absurd (h.symm.trans hk0) (by decide)
      · exact sat_er erK5 hp2
    · split
      · rename_i hk1
        refine sat_xb (yIndex_ok hn hE hp2 ht1.1 hk1 hns (by omega) hc1.2) (fun u _ hu => sat_xb (need_ok (by have := hu.2.1.1; have := hu.2.1.2.1; omega)) (fun _ _ hk2 => sat_xb (cm_ok hn hu.2.1.2.1) (fun t3 _ ht3 => sat_xb (hE ns 56 t3 u.2.2 ht3.1 hns (by omega) hu.2.2.2.1) (fun v _ hv => sat_xb (cm_ok hn hv.2.1.2.1) (fun t5 _ ht5 => ?_)))))
        have hx : tk.2.1 < t5.2.1 := by have := ht5.2; have := hv.2.1.1; have := hv.2.2.1; have := ht3.2; have := hu.2.1.1; have := hu.2.2.1; omega
        refine ⟨fun K hK => ?_, ht5.1, hx, hv.2.2.2.1, Nat.le_refl _, Nat.le_trans hpt (Nat.le_of_lt hx)⟩
        have hK2 : ms ≤ K := hK
        have hs := hu.2.2.2.2
        rcases look_ok hq with ⟨j, rfl, -⟩ | ⟨g, rfl, hg⟩
        · exact absurd hs (by show ¬ (0 : Int32) = 1; decide)
        · rw [wf_N]
          rcases hG g hg with ⟨h, -⟩ | ⟨h, a1, a2, a3⟩ | ⟨h, -⟩
          · exact absurd (h.symm.trans hs) (by decide)
          · exact ⟨wf_K hu.1 (by omega), wf_K hv.1 (by omega), a1, a2, a3⟩
          · exact absurd (h.symm.trans hs) (by decide)
      · split
        · rename_i hk1
          refine sat_xb (yCall_ok hn hE hG hq hp2 ht1.1 hk1 hns (by omega) hc1.2) (fun u _ hu => sat_xb (need_ok (by have := hu.2.1.1; have := hu.2.1.2.1; omega)) (fun _ _ hk2 => sat_xb (cm_ok hn hu.2.1.2.1) (fun t3 _ ht3 => ?_)))
          have hx : tk.2.1 < t3.2.1 := by have := ht3.2; have := hu.2.1.1; have := hu.2.2.1; omega
          refine ⟨fun K hK => ?_, ht3.1, hx, hu.2.2.2, Nat.le_refl _, Nat.le_trans hpt (Nat.le_of_lt hx)⟩
          rw [wf_N]
          exact wf_K hu.1 (by have : ms ≤ K := hK; omega)
        · exact sat_er erK2 (by have := ht1.1.1; have := ht1.1.2.1; omega)
theorem ySt_ok {x : Nat → Int32} {n tc : Nat} {G : gE} {gs np d : Nat} {R : ySrec} (hn : n ≤ 4096) (hG : gOk gs G) (hR : sQ n tc G gs np d R) : sQ n tc G gs np (d + 1) (ySt x n tc G R) := by
  intro ns L pl ms tk c htk hns hd hc hL hpl hpt
  have hp2 : tk.2.1 ≤ 4096 := by have := htk.1; have := htk.2.1; omega
  unfold ySt
  by_cases hk51 : tk.2.2.1 = 51
  · rw [if_pos hk51]; exact yBk_ok hn hG hR htk hk51 hns hd hc hL hpl hpt
  rw [if_neg hk51]
  by_cases hk43 : tk.2.2.1 = 43
  · rw [if_pos hk43]; exact yIf_ok hn hG hR htk hk43 hns hd hc hL hpl hpt
  rw [if_neg hk43]
  by_cases hk45 : tk.2.2.1 = 45
  · rw [if_pos hk45]; exact yWh_ok hn hG hR htk hk45 hns hd hc hL hpl hpt
  rw [if_neg hk45]
  by_cases hk46 : tk.2.2.1 = 46
  · rw [if_pos hk46]; exact yRt_ok hn hG hR htk hk46 hns hd hc hL hpl hpt
  rw [if_neg hk46]
  by_cases hk47 : tk.2.2.1 = 47
  · rw [if_pos hk47]; exact yPr_ok hn hG hR htk hk47 hns hd hc hL hpl hpt
  rw [if_neg hk47]
  by_cases hk56 : tk.2.2.1 = 56
  · rw [if_pos hk56]; exact yEm_ok hn hG hR htk hk56 hns hd hc hL hpl hpt
  rw [if_neg hk56]
  by_cases hk40 : tk.2.2.1 = 40
  · rw [if_pos hk40]; exact yNm_ok hn hG hR htk hk40 hns hd hc hL hpl hpt
  rw [if_neg hk40]
  exact sat_er erK2 hp2
theorem yS_ok {x : Nat → Int32} {n tc : Nat} {G : gE} {gs np : Nat} (hn : n ≤ 4096) (hG : gOk gs G) : ∀ d, sQ n tc G gs np d (yS x n tc G d) := by
  intro d
  induction d with
  | zero => intro ns L pl ms tk c _ h1 h2; omega
  | succ d ih => exact ySt_ok hn hG ih
