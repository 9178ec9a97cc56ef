/-! THE TEXT BY ITSELF: where both stand, what comes of an item -/
def WEN (ln : Nat → Nat) (mc io c : Nat) (P : yP) (m : Nat) (σ τ : zSt) : Prop := LM ln mc io ∧ TRc ln c (nst P P.1.2.2.2.2) σ ∧ zI τ 0 8 = nI mc ∧ zI τ 0 10 = nI io ∧ zI τ 0 29 = nI P.2.1 ∧ zI σ 8 0 = nI mc ∧ zI σ 8 9 = nI P.2.1 ∧ pKm P m ∧ PM P τ ∧ (∀ g, isF P g → fnR P c σ g)
theorem PM_f {P : yP} {τ u : zSt} (f : fWR τ u) (h : PM P τ) : PM P u := by
  refine ⟨(f.1 22 (by omega) (by omega) (by omega) (by omega) (by omega) (by omega) (by omega)).trans h.1, fun g hg => ?_, fun g hg hk => ?_⟩
  · obtain ⟨a, b, d⟩ := h.2.1 g hg
    exact ⟨(f.2.2 7 g).trans a, (f.2.1 8 g (by omega) (by omega)).trans b, (f.2.1 10 g (by omega) (by omega)).trans d⟩
  · obtain ⟨a, b⟩ := h.2.2 g hg hk
    rw [f.2.1 11 g (by omega) (by omega)]
    exact ⟨rep_frame _ _ _ _ (fun j hj => ⟨hj, fun r r1 r2 => f.2.1 r j (by omega) (by omega)⟩) a, (f.2.1 12 g (by omega) (by omega)).trans b⟩
theorem fnR_f {P : yP} {c g : Nat} {σ u : zSt} (hc : c = 9 ∨ c = 10) (f : ∀ a i, 33 ≤ a → a ≤ 44 → zA u a i = zA σ a i) (h : fnR P c σ g) : fnR P c u g := by
  obtain ⟨m, A, r, h1, h2, h3, h4, h5, h6, h7, h8, h9⟩ := h
  exact ⟨m, A, r, h1, h2, h3, (f _ _ (by omega) (by omega)).trans h4, (f _ _ (by omega) (by omega)).trans h5, (f _ _ (by omega) (by omega)).trans h6, (f _ _ (by omega) (by omega)).trans h7, (f _ _ (by omega) (by omega)).trans h8, (crp_frame (fnd' := fun g => nI (nst P g)) hc A).1 _ _ _ (fun a m a1 a2 _ _ => f a m (by omega) (by omega)) h9⟩
theorem WEN_f {ln : Nat → Nat} {mc io c : Nat} {P : yP} {m : Nat} {σ τ σ' τ' : zSt} (f1 : fWC σ σ') (f2 : fWR τ τ') (h : WEN ln mc io c P m σ τ) : WEN ln mc io c P m σ' τ' := by
  obtain ⟨h1, h2, h3, h4, h5, h6, h7, h8, h9, h10⟩ := h
  exact ⟨h1, TRc_f f1 h2, (f2.1 8 (by omega) (by omega) (by omega) (by omega) (by omega) (by omega) (by omega)).trans h3, (f2.1 10 (by omega) (by omega) (by omega) (by omega) (by omega) (by omega) (by omega)).trans h4, (f2.1 29 (by omega) (by omega) (by omega) (by omega) (by omega) (by omega) (by omega)).trans h5, (f1.1 8 0 (by omega) (by omega)).trans h6, (f1.1 8 9 (by omega) (by omega)).trans h7, h8, PM_f f2 h9, fun g hg => fnR_f h2.1 (fun a i a1 a2 => f1.2.2.2.1 a i (by omega) (by omega)) (h10 g hg)⟩
def WI (P : yP) (m c io : Nat) (vl lc gb : Nat → Int32) (n e : Nat) (I : List aI) (Fr : List (Nat × Nat)) (σ τ : zSt) : Prop := XC P.2.1 vl lc gb n I.length Fr.length e σ ∧ XR P.2.1 vl lc gb n I.length Fr.length e τ ∧ itR P m c σ τ I (Fr.map Prod.snd) ∧ frR P σ τ Fr e ∧ TPr io σ τ ∧ TAt σ τ
/-- what comes of an item -/
def WO (P : yP) (m c mc io : Nat) (σ τ σ' τ' : zSt) : Prop := fWC σ σ' ∧ fWR τ τ' ∧ TPr io σ' τ' ∧ zI σ' 8 14 = zI τ' 0 75 ∧ (zI τ' 0 75 = 0 → ∃ vl lc gb n e I Fr md, WI P m c io vl lc gb n e I Fr σ' τ' ∧ okW P I md n (Fr.map Prod.snd) ∧ n ≤ mc + 2 ∧ I.length ≤ mc + 10 ∧ e ≤ 4700)
section
variable {ln : Nat → Nat} {N M mc io c m n e : Nat} {P : yP} {vl lc gb : Nat → Int32} {I : List aI} {Fr : List (Nat × Nat)} {σ τ σ0 τ0 : zSt}
theorem TPr_w {σ' τ' : zSt} (h1 : ∀ k, k = 2 ∨ k = 4 → zI σ' 6 k = zI σ 6 k) (h2 : ∀ j, j = 11 ∨ j = 14 → zI τ' 0 j = zI τ 0 j) (h3 : ∀ a i, a = 24 ∨ a = 25 → zA σ' a i = zA σ a i) (h4 : ∀ a i, a = 4 ∨ a = 5 → zA τ' a i = zA τ a i) (h : TPr io σ τ) : TPr io σ' τ' := by
  obtain ⟨i, o, t1, t2, t3, t4, t5, t6, t7, t8⟩ := h
  exact ⟨i, o, (h1 2 (by omega)).trans t1, (h2 11 (by omega)).trans t2, t3, (h1 4 (by omega)).trans t4, (h2 14 (by omega)).trans t5, t6, fun k hk => by rw [h3 _ _ (by omega), h4 _ _ (by omega)]; exact t7 k hk, fun k hk => by rw [h3 _ _ (by omega), h4 _ _ (by omega)]; exact t8 k hk⟩
theorem TAt_w {σ' τ' : zSt} (h1 : ∀ k, k = 2 ∨ k = 3 → zI σ' 6 k = zI σ 6 k) (h2 : zI τ' 0 12 = zI τ 0 12) (h : TAt σ τ) : TAt σ' τ' := by
  obtain ⟨j, i, t1, t2, t3, t4⟩ := h
  exact ⟨j, i, (h1 3 (by omega)).trans t1, h2.trans t2, (h1 2 (by omega)).trans t3, t4⟩
/-- both push a value -/
theorem pushV {v : Int32} (hl : LM ln mc io) (hn : n < mc + 16) (h : WI P m c io vl lc gb n e I Fr σ τ) (hc : c = 9 ∨ c = 10) : ∃ σ' τ', fX10_pushValue ln N M v σ = some ((), σ') ∧ fX12_gives N v τ = some ((), τ') ∧ WI P m c io (mset vl n v) lc gb (n + 1) e I Fr σ' τ' ∧ fWC σ σ' ∧ fWR τ τ' := by
  obtain ⟨h1, h2, h3, h4, h5, h6⟩ := h
  have f1 : fWC σ (zsI (zsA σ 27 n v) 8 10 (nI (n + 1))) := fWC_trans (fWC_A (by omega)) (fWC_I (by omega))
  have f2 : fWR τ (zsI (zsA τ 43 n v) 0 79 (nI (n + 1))) := fWR_trans (fWR_A (by omega)) (fWR_I (by omega))
  refine ⟨_, _, wpvC hl h1 hn, wgvR h2 (by have := hl.2.2.2.2.2.2.2.2.2.1; omega), ⟨XC_v h1, XR_v h2, itR_f hc (fW_tr f1 f2) I _ (fun p hp => ?_) h3, frR_f Fr e (fun i hi => ?_) h4, ?_, ?_⟩, f1, f2⟩
  · refine ⟨?_, ?_, ?_, ?_⟩ <;> rw [zA_I, zA_A, if_neg (by omega)]
  · refine ⟨?_, ?_, ?_⟩ <;> rw [zA_I, zA_A, if_neg (by omega)]
  · exact TPr_w (fun k hk => by rw [zI_I, if_neg (by omega), zI_A]) (fun j hj => by rw [zI_I, if_neg (by omega), zI_A]) (fun a i ha => by rw [zA_I, zA_A, if_neg (by omega)]) (fun a i ha => by rw [zA_I, zA_A, if_neg (by omega)]) h5
  · exact TAt_w (fun k hk => by rw [zI_I, if_neg (by omega), zI_A]) (by rw [zI_I, if_neg (by omega), zI_A]) h6
/-- both take a value -/
theorem popV (hl : LM ln mc io) (hn : n < mc + 16) (h : WI P m c io vl lc gb (n + 1) e I Fr σ τ) (hc : c = 9 ∨ c = 10) : ∃ σ' τ', fX10_popValue ln N M σ = some (vl n, σ') ∧ fX12_goes N τ = some (vl n, τ') ∧ WI P m c io vl lc gb n e I Fr σ' τ' ∧ fWC σ σ' ∧ fWR τ τ' := by
  obtain ⟨h1, h2, h3, h4, h5, h6⟩ := h
  have f1 : fWC σ (zsI σ 8 10 (nI n)) := fWC_I (by omega)
  have f2 : fWR τ (zsI τ 0 79 (nI n)) := fWR_I (by omega)
  refine ⟨_, _, wppC hl h1 hn, wgoR h2 (by have := hl.2.2.2.2.2.2.2.2.2.1; omega), ⟨XC_10 n (by omega) h1, XR_79 n (by omega) h2, itR_f hc (fW_tr f1 f2) I _ (fun p hp => ⟨rfl, rfl, rfl, rfl⟩) h3, frR_f (σ := σ) (τ := τ) Fr e (fun i hi => ⟨rfl, rfl, rfl⟩) h4, ?_, ?_⟩, f1, f2⟩
  · exact TPr_w (fun k hk => by rw [zI_I, if_neg (by omega)]) (fun j hj => by rw [zI_I, if_neg (by omega)]) (fun _ _ _ => rfl) (fun _ _ _ => rfl) h5
  · exact TAt_w (fun k hk => by rw [zI_I, if_neg (by omega)]) (by rw [zI_I, if_neg (by omega)]) h6
/-- both push an item -/
theorem pushI {x : aI} {a b a' b' : Int32} (hl : LM ln mc io) (hk : I.length < mc + 16) (h : WI P m c io vl lc gb n e I Fr σ τ) (hc : c = 9 ∨ c = 10) (hx : x.1 ≠ 7) (hs : ∀ σ' τ', zA σ' 28 I.length = a → zA σ' 29 I.length = b → zA τ' 44 I.length = a' → zA τ' 45 I.length = b' → trS c σ τ σ' τ' → slI P m c σ' τ' (npF P ((Fr.map Prod.snd).headD 0)) x I.length) : ∃ σ' τ', fX10_pushItem ln N M a b σ = some ((), σ') ∧ fX12_push N a' b' τ = some ((), τ') ∧ WI P m c io vl lc gb n e (x :: I) Fr σ' τ' ∧ fWC σ σ' ∧ fWR τ τ' := by
  obtain ⟨h1, h2, h3, h4, h5, h6⟩ := h
  have f1 : fWC σ (zsI (zsA (zsA σ 28 I.length a) 29 I.length b) 8 11 (nI (I.length + 1))) := fWC_trans (fWC_A (by omega)) (fWC_trans (fWC_A (by omega)) (fWC_I (by omega)))
  have f2 : fWR τ (zsI (zsA (zsA τ 44 I.length a') 45 I.length b') 0 82 (nI (I.length + 1))) := fWR_trans (fWR_A (by omega)) (fWR_trans (fWR_A (by omega)) (fWR_I (by omega)))
  refine ⟨_, _, pushItC hl h1.2.1 hk, pushR h2.2.1 (by have := hl.2.2.2.2.2.2.2.2.2.1; omega), ⟨XC_11 _ (XC_A (by omega) (XC_A (by omega) h1)), XR_82 _ (XR_A (by omega) (XR_A (by omega) h2)), ⟨?_, ?_⟩, frR_f Fr e (fun i hi => ?_) h4, ?_, ?_⟩, f1, f2⟩
  · exact hs _ _ (by rw [zA_I, zA_A, if_neg (by omega), zA_A, if_pos ⟨rfl, rfl⟩]) (by rw [zA_I, zA_A, if_pos ⟨rfl, rfl⟩]) (by rw [zA_I, zA_A, if_neg (by omega), zA_A, if_pos ⟨rfl, rfl⟩]) (by rw [zA_I, zA_A, if_pos ⟨rfl, rfl⟩]) (fW_tr f1 f2)
  · rw [if_neg hx]
    refine itR_f hc (fW_tr f1 f2) I _ (fun p hp => ?_) h3
    refine ⟨?_, ?_, ?_, ?_⟩ <;> rw [zA_I, zA_A, if_neg (by omega), zA_A, if_neg (by omega)]
  · refine ⟨?_, ?_, ?_⟩ <;> rw [zA_I, zA_A, if_neg (by omega), zA_A, if_neg (by omega)]
  · exact TPr_w (fun k hk => by rw [zI_I, if_neg (by omega), zI_A, zI_A]) (fun j hj => by rw [zI_I, if_neg (by omega), zI_A, zI_A]) (fun a i ha => by rw [zA_I, zA_A, if_neg (by omega), zA_A, if_neg (by omega)]) (fun a i ha => by rw [zA_I, zA_A, if_neg (by omega), zA_A, if_neg (by omega)]) h5
  · exact TAt_w (fun k hk => by rw [zI_I, if_neg (by omega), zI_A, zI_A]) (by rw [zI_I, if_neg (by omega), zI_A, zI_A]) h6
/-- an item that holds a tree -/
theorem pushT {t : fT} {q g b0 : Nat} {b b' : Int32} {Fr' : List (Nat × Nat)} (hl : LM ln mc io) (hk : I.length < mc + 16) (h : WI P m c io vl lc gb n e I Fr σ τ) (hc : c = 9 ∨ c = 10) (hq : q = 1 ∨ q = 2 ∨ q = 4 ∨ q = 5 ∨ q = 8 ∨ q = 9) (hF : Fr = (b0, g) :: Fr') (hr : rp P τ t b') (hp : cp P c σ (npF P g) t b) : ∃ σ' τ', fX10_pushItem ln N M (ckI q) b σ = some ((), σ') ∧ fX12_push N (rkI q) b' τ = some ((), τ') ∧ WI P m c io vl lc gb n e ((q, t, 0) :: I) Fr σ' τ' ∧ fWC σ σ' ∧ fWR τ τ' := by
  refine pushI (x := (q, t, 0)) hl hk h hc (by show q ≠ 7; omega) (fun σ' τ' h1 h2 h3 h4 ht => ?_)
  unfold slI
  rw [if_neg (show ¬ q = 0 by omega), if_neg (show ¬ q = 3 by omega), if_neg (show ¬ q = 6 by omega), if_neg (show ¬ q = 7 by omega), if_neg (show ¬ q = 10 by omega), h1, h2, h3, h4]
  refine ⟨rfl, rfl, rp_f ht.2.1 hr, ?_⟩
  rw [hF]
  exact cp_f hc ht.1 hp
theorem WO_ok {vl' lc' gb' : Nat → Int32} {n' e' md : Nat} {I' : List aI} {Fr' : List (Nat × Nat)} {σ' τ' : zSt} (f1 : fWC σ σ') (f2 : fWR τ τ') (h : WI P m c io vl' lc' gb' n' e' I' Fr' σ' τ') (ho : okW P I' md n' (Fr'.map Prod.snd)) (h1 : n' ≤ mc + 2) (h2 : I'.length ≤ mc + 10) (h3 : e' ≤ 4700) : WO P m c mc io σ τ σ' τ' :=
  ⟨f1, f2, h.2.2.2.2.1, h.1.2.2.2.2.2.2.2.trans h.2.1.2.2.2.2.2.2.2.symm, fun _ => ⟨vl', lc', gb', n', e', I', Fr', md, h, ho, h1, h2, h3⟩⟩
theorem WO_no {v : Int32} {u w : zSt} (f1 : fWC σ u) (f2 : fWR τ w) (hT : TPr io u w) (hv : v ≠ 0) : WO P m c mc io σ τ (zsI u 8 14 v) (zsI w 0 75 v) :=
  ⟨fWC_trans f1 (fWC_I (by omega)), fWR_trans f2 (fWR_I (by omega)), TPr_w (fun k hk => by rw [zI_I, if_neg (by omega)]) (fun j hj => by rw [zI_I, if_neg (by omega)]) (fun _ _ _ => rfl) (fun _ _ _ => rfl) hT, by rw [zI_I, if_pos ⟨rfl, rfl⟩, zI_I, if_pos ⟨rfl, rfl⟩], fun e => absurd (by rw [zI_I, if_pos ⟨rfl, rfl⟩] at e; exact e) hv⟩
end
