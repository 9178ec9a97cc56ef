/-! THE TEXT BY ITSELF: a call is taken apart -/
def csl (P : yP) (c : Nat) (σ : zSt) (np k : Nat) : List fT → Prop
  | [] => True
  | t :: ts => zA σ 28 (k + ts.length) = 0 ∧ cp P c σ np t (zA σ 29 (k + ts.length)) ∧ csl P c σ np k ts
theorem csl_f {P : yP} {c np k : Nat} {σ u : zSt} (hc : c = 9 ∨ c = 10) : ∀ (ts : List fT), (∀ p, k ≤ p → p < k + ts.length → zA u 28 p = zA σ 28 p ∧ zA u 29 p = zA σ 29 p) → (∀ a i, 33 ≤ a → a ≤ 44 → zA u a i = zA σ a i) → csl P c σ np k ts → csl P c u np k ts := by
  intro ts
  induction ts with
  | nil => intro _ _ _; trivial
  | cons t ts ih =>
    intro h1 h2 h
    rw [List.length_cons] at h1
    obtain ⟨a, b⟩ := h1 (k + ts.length) (by omega) (by omega)
    exact ⟨a.trans h.1, by rw [b]; exact cp_f hc h2 h.2.1, ih (fun p p1 p2 => h1 p p1 (by omega)) h2 h.2.2⟩
theorem cch_f {P : yP} {c np : Nat} {σ u : zSt} (hc : c = 9 ∨ c = 10) (h2 : ∀ a i, 33 ≤ a → a ≤ 44 → zA u a i = zA σ a i) : ∀ (ts : List fT) (pr i : Int32), cch P c σ np ts pr i → cch P c u np ts pr i := by
  intro ts
  induction ts with
  | nil => intro pr i h; exact h
  | cons t ts ih =>
    intro pr i h
    obtain ⟨m, a, b, d, f⟩ := h
    exact ⟨m, a, cp_f hc h2 b, (h2 _ _ (by omega) (by omega)).trans d, ih _ _ f⟩
section
variable {ln : Nat → Nat} {N M mc io c m n e b0 g : Nat} {P : yP} {vl lc gb : Nat → Int32} {I : List aI} {Fr' : List (Nat × Nat)} {σ τ : zSt} {A B D : fT} {v w : Int} {i j : Int32}
theorem cpb {np k : Nat} (hl : LM ln mc io) : ∀ (ts : List fT) (pr i : Int32) (f x : Nat) (σ : zSt), cch P c σ np ts pr i → TRc ln c (nst P P.1.2.2.2.2) σ → zI σ 8 11 = nI k → k + ts.length ≤ mc + 15 → x + ts.length ≤ 8 → ts.length < f → ∃ z, fX10_takeCallApart_b24 ln N M f i (nI x) σ = fX10_takeCallApart_b24 ln N M (f - ts.length) pr (nI (x + ts.length)) z ∧ zI z 8 11 = nI (k + ts.length) ∧ (∀ o q, ¬ (o = 8 ∧ q = 11) → zI z o q = zI σ o q) ∧ (∀ o q, zL z o q = zL σ o q) ∧ (∀ o q, zR z o q = zR σ o q) ∧ (∀ a p, ¬ ((a = 28 ∨ a = 29) ∧ k ≤ p ∧ p < k + ts.length) → zA z a p = zA σ a p) ∧ (∀ a p, zB z a p = zB σ a p) ∧ csl P c z np k ts := by
  intro ts
  induction ts with
  | nil =>
    intro pr i f x σ h hT h11 hk hx hf
    have h : i = pr := h
    rw [h]
    exact ⟨σ, rfl, h11, fun _ _ _ => rfl, fun _ _ => rfl, fun _ _ => rfl, fun _ _ _ => rfl, fun _ _ => rfl, trivial⟩
  | cons t ts ih =>
    intro pr i f x σ h hT h11 hk hx hf
    have hmc := hl.2.2.2.2.2.2.2.2.2.1
    have hc := hT.1
    rw [List.length_cons] at hk hx hf
    obtain ⟨q, q1, q2, q3, q4⟩ := h
    obtain ⟨z, z1, z2, z3, z4, z5, z6, z7, z8⟩ := ih (nI q) i f x σ q4 hT h11 (by omega) (by omega) (by omega)
    have hTz : TRc ln c (nst P P.1.2.2.2.2) z := ⟨hT.1, (z5 _ _).trans hT.2.1, (z3 _ _ (by omega)).trans hT.2.2.1, hT.2.2.2⟩
    obtain ⟨f', hf'⟩ : ∃ f', f - ts.length = f' + 1 := ⟨f - ts.length - 1, by omega⟩
    rw [z1, hf', fX10_takeCallApart_b24, if_neg (fun w => by rw [show (8 : Int32) = nI 8 from rfl, nI_le' (by omega) (by omega)] at w; omega), rbT hTz.1 hTz.2.1, (tkC hTz q1).2.2.2.2.2.2, obd_s, if_neg (by decide), pushItC hl z2 (by omega), obd_s]
    have hT2 : TRc ln c (nst P P.1.2.2.2.2) (zsI (zsA (zsA z 28 (k + ts.length) 0) 29 (k + ts.length) (nI q)) 8 11 (nI (k + ts.length + 1))) := ⟨hTz.1, hTz.2.1, by rw [zI_I, if_neg (by omega), zI_A, zI_A]; exact hTz.2.2.1, hTz.2.2.2⟩
    have e16 : zA (zsI (zsA (zsA z 28 (k + ts.length) 0) 29 (k + ts.length) (nI q)) 8 11 (nI (k + ts.length + 1))) (6 * c - 16) q = pr := by rw [zA_I, zA_A, if_neg (by omega), zA_A, if_neg (by omega), z6 _ _ (by omega)]; exact q3
    rw [rbT hT2.1 hT2.2.1, (tkC hT2 q1).2.2.2.2.2.1, obd_s, e16, show nI (x + ts.length) + (1 : Int32) = nI (x + ts.length + 1) from nI_add _ 1, bnd_e]
    refine ⟨zsI (zsA (zsA z 28 (k + ts.length) 0) 29 (k + ts.length) (nI q)) 8 11 (nI (k + ts.length + 1)), ?_, ?_, fun o p hp => ?_, fun o p => z4 o p, fun o p => z5 o p, fun a p hp => ?_, fun a p => z7 a p, ?_, ?_, ?_⟩
    · rw [List.length_cons, show f - (ts.length + 1) = f' by omega, show x + (ts.length + 1) = x + ts.length + 1 by omega]
    · rw [zI_I, if_pos ⟨rfl, rfl⟩, List.length_cons]; rfl
    · rw [zI_I, if_neg hp, zI_A, zI_A]; exact z3 o p hp
    · rw [List.length_cons] at hp
      rw [zA_I, zA_A, if_neg (by omega), zA_A, if_neg (by omega)]; exact z6 a p (by omega)
    · rw [zA_I, zA_A, if_neg (by omega), zA_A, if_pos ⟨rfl, rfl⟩]
    · rw [zA_I, zA_A, if_pos ⟨rfl, rfl⟩]
      exact cp_f hc (fun a p a1 a2 => by rw [zA_I, zA_A, if_neg (by omega), zA_A, if_neg (by omega)]; exact z6 a p (by omega)) q2
    · exact csl_f hc ts (fun p p1 p2 => by
        constructor
        · rw [zA_I, zA_A, if_neg (by omega), zA_A, if_neg (by omega)]
        · rw [zA_I, zA_A, if_neg (by omega), zA_A, if_neg (by omega)]) (fun a p a1 a2 => by rw [zA_I, zA_A, if_neg (by omega), zA_A, if_neg (by omega)]) z8
def eIs (ts : List fT) : List aI := ts.map (fun t => (1, t, 0))
theorem eIs_len {ts : List fT} : (eIs ts).length = ts.length := List.length_map _
theorem itR_app {F : List Nat} {J : List aI} {k : Nat} (hk : J.length = k) : ∀ (ts : List fT), csl P c σ (npF P (F.headD 0)) k ts → rsl P τ k ts → itR P m c σ τ J F → itR P m c σ τ (eIs ts ++ J) F := by
  intro ts
  induction ts with
  | nil => intro _ _ h; exact h
  | cons t ts ih =>
    intro h1 h2 h
    have hlen : (eIs ts ++ J).length = k + ts.length := by rw [List.length_append, eIs_len, hk]; omega
    refine ⟨?_, ih h1.2.2 h2.2.2 h⟩
    show slI P m c σ τ _ (1, t, 0) (eIs ts ++ J).length
    rw [hlen]
    exact ⟨h2.1, h1.1, h2.2.1, h1.2.1⟩
theorem okW_app {F' : List Nat} {J : List aI} (hg : isF P g) : ∀ (ts : List fT) (n : Nat), (∀ t, t ∈ ts → wfg P g t 0 0) → okW P J 1 (n + ts.length) (g :: F') → okW P (eIs ts ++ J) 1 n (g :: F') := by
  intro ts
  induction ts with
  | nil => intro n _ h; exact h
  | cons t ts ih =>
    intro n hw h
    rw [List.length_cons] at h
    exact Or.inr (Or.inr ⟨g, F', rfl, hg, Or.inl ⟨rfl, rfl, hw t (List.mem_cons_self ..), ih (n + 1) (fun s hs => hw s (List.mem_cons_of_mem _ hs)) (by rw [show n + 1 + ts.length = n + (ts.length + 1) by omega]; exact h)⟩⟩)
theorem x9 (hN : 5000 ≤ N) (h : BX ln mc io c P m vl lc gb n e I b0 g Fr' σ τ) (hv0 : 0 ≤ v) (hw0 : 0 ≤ w) (hw8 : w ≤ 8) (hwA : wfg P g A 3 w.toNat) (hf : isF P v.toNat) (hnp : npF P v.toNat = w.toNat) (hr : rp P τ (fN 9 v w A B D) i) (hp : cp P c σ (npF P g) (fN 9 v w A B D) j) (hk : okW P I 1 (n + 1) (g :: Fr'.map Prod.snd)) : EXo ln N M P m c mc io i j σ τ := by
  obtain ⟨E, W, hg, hb, hl⟩ := h
  obtain ⟨e1, e2, -⟩ := id E
  have hc9 := e2.1
  have o1 : 6 * c - 19 ≠ 25 := by rcases hc9 with e | e <;> rw [e] <;> decide
  have o2 : ¬ (27 ≤ 6 * c - 19 ∧ 6 * c - 19 ≤ 32) := by rcases hc9 with e | e <;> rw [e] <;> decide
  have hmc := e1.2.2.2.2.2.2.2.2.2.1
  obtain ⟨a, rfl, ha, a1, a2, a3, a4, -⟩ := rp_N hr
  obtain ⟨b, rfl, hb2, b1, b2, b3, -⟩ := cp_N hp
  obtain ⟨ts, l1, l2, l3⟩ := wf_L w.toNat A hwA
  obtain ⟨lo, hi, hh, hcr⟩ := b3 rfl
  have hlen : ts.length ≤ 8 := by omega
  rw [ofInt_n hv0] at a2
  have hbig : v.toNat < 2 ^ 31 := by have := hf.1; have := E.2.2.2.2.2.2.2.1.2.2.2.2.2; omega
  -- the call
  obtain ⟨σ1, τ1, p1, p2, p3, f1, f2⟩ := pushI (N := N) (M := M) (x := (0, fZ, v.toNat)) (a := 3) (b := nI (nst P v.toNat)) (a' := 1) (b' := nI a) e1 (by omega) W e2.1 (by show (0 : Nat) ≠ 7; decide) (fun σ' τ' h1 h2 h3 h4 ht => by
    unfold slI
    rw [if_pos rfl, h1, h2, h3, h4]
    exact ⟨rfl, rfl, rfl, Or.inr ⟨a, ha, rfl, (ht.2.1 19 a (by omega) (by omega)).trans a2, fun u hu => (rp_19 hr ha u hu).trans (ofInt_n hv0)⟩⟩)
  obtain ⟨w1, w2, w3, w4, w5, w6⟩ := p3
  rw [List.length_cons] at w1 w2
  have e21 := TRc_f f1 e2
  -- the class's parts
  have hch : cch P c σ1 (npF P g) ts (-1) (zA σ (6 * c - 19) b) := cch_f hc9 (fun r s r1 r2 => f1.2.2.2.1 r s (by omega) (by omega)) ts _ _ (cch_of ts A (-1) lo hi _ l1 hh hcr)
  obtain ⟨z, z1, z2, z3, z4, z5, z6, z7, z8⟩ := cpb (N := N) (M := M) e1 ts (-1) (zA σ (6 * c - 19) b) N 0 σ1 hch e21 w1.2.1 (by omega) (by omega) (by omega)
  have hfin : fX10_takeCallApart_b24 ln N M (N - ts.length) (-1) (nI (0 + ts.length)) z = some ((), z) := by
    obtain ⟨f', hf'⟩ : ∃ f', N - ts.length = f' + 1 := ⟨N - ts.length - 1, by omega⟩
    rw [hf', fX10_takeCallApart_b24]
    by_cases c8 : (8 : Int32) ≤ nI (0 + ts.length)
    · rw [if_pos c8]
    · rw [if_neg c8, rbT e2.1 ((z5 _ _).trans e21.2.1), thN, obd_s, if_pos rfl]
  -- the reference's
  have hrch : rch P τ1 ts (zA τ 16 a) := by
    have := rch_of ts A _ l1 (rp_f (fun r s r1 r2 => f2.2.1 r s (by omega) (by omega)) a4 : rp P τ1 A (zA τ 16 a))
    exact this
  obtain ⟨y, y1, y2, y3, y4, y5⟩ := pb26 (N := N) (k := I.length + 1) (K := ts.length) (by omega) ts (zA τ 16 a) N τ1 hrch (Nat.le_refl _) (by omega) w2.2.1
  have f3 : fWC σ1 z := ⟨fun o q c1 _ => z3 o q (by omega), z4, z5, fun r s r1 r2 => z6 r s (by omega), z7⟩
  have f4 : fWR τ1 (zsI y 0 82 (nI (I.length + 1 + ts.length))) := ⟨fun q c1 c2 c3 c4 c5 c6 c7 => by rw [zI_I, if_neg (by omega)]; exact y2 0 q, fun r s r1 r2 => y3 r s (by omega), y4⟩
  refine ⟨z, zsI y 0 82 (nI (I.length + 1 + ts.length)), ?_, ?_, WO_ok (fWC_trans f1 f3) (fWR_trans f2 f4) (vl' := vl) (lc' := lc) (gb' := gb) (n' := n) (e' := e) (I' := eIs ts ++ ((0, fZ, v.toNat) :: I)) (Fr' := (b0, g) :: Fr') (md := 1) ⟨?_, ?_, ?_, ?_, ?_, ?_⟩ ?_ (by omega) (by rw [List.length_append, eIs_len, List.length_cons]; omega) (by omega)⟩
  · unfold fX10_takeApart fX10_takeCallApart
    have ha1 : zA σ (6 * c - 20) b = nI (nst P v.toNat) := b2
    have hb1 : fX9_bOf ln N M (c + 2) (nI b) σ1 = some (zA σ (6 * c - 19) b, σ1) := by rw [(tkC e21 hb2).2.2.1, f1.2.2.2.1 (6 * c - 19) b o1 o2]
    rw [rbT e2.1 e2.2.1, (tkC e2 hb2).1, obd_s, b1, show cKd 9 = 8 from rfl, if_neg (by decide), if_neg (by decide), if_neg (by decide), if_neg (by decide), if_neg (by decide), if_neg (by decide), if_neg (by decide), if_pos rfl, rbT e2.1 e2.2.1, (tkC e2 hb2).2.1, obd_s, ha1, p1, obd_s, rbT e21.1 e21.2.1, hb1, obd_s, bnd_e, show (0 : Int32) = nI 0 from rfl, z1, hfin, obd_s]
  · have hR : fX12_begins N (nI a) τ = obd (fX12_push N (1 : Int32) (nI a) τ) (fun _ σ33 => if (nI a) < 0 ∨ 4200 ≤ (nI a).toNatClampNeg then none else (obd (fX12_parts N (zA σ33 16 (nI a).toNatClampNeg) σ33) (fun _ σ35 => some ((), σ35)))) := by
      unfold fX12_begins
      rw [nI_clamp (by omega), if_neg (ixN (by omega) (by omega)), a1, bnd_e]
      rfl
    rw [hR, p2, obd_s, nI_clamp (by omega), if_neg (ixN (by omega) (by omega)), f2.2.1 16 a (by omega) (by omega)]
    unfold fX12_parts
    rw [bnd_e, show (0 : Int32) = nI 0 from rfl, pb4 ts _ 0 N hrch (by omega) (by omega), Nat.zero_add, y1, obd_s]
  · obtain ⟨x1, x2, x3, x4, x5, x6, x7, x8⟩ := w1
    refine ⟨(z3 _ _ (by omega)).trans x1, ?_, (z3 _ _ (by omega)).trans x3, (z3 _ _ (by omega)).trans x4, fun q hq => (z6 _ _ (by omega)).trans (x5 q hq), fun q hq => (z6 _ _ (by omega)).trans (x6 q hq), fun q hq => (z6 _ _ (by omega)).trans (x7 q hq), (z3 _ _ (by omega)).trans x8⟩
    rw [List.length_append, eIs_len, List.length_cons, z2]; congr 1; omega
  · obtain ⟨x1, x2, x3, x4, x5, x6, x7, x8⟩ := w2
    refine ⟨?_, ?_, ?_, ?_, fun q hq => (y3 _ _ (by omega)).trans (x5 q hq), fun q hq => (y3 _ _ (by omega)).trans (x6 q hq), fun q hq => (y3 _ _ (by omega)).trans (x7 q hq), ?_⟩
    · rw [zI_I, if_neg (by omega), y2]; exact x1
    · rw [zI_I, if_pos ⟨rfl, rfl⟩, List.length_append, eIs_len, List.length_cons]; congr 1; omega
    · rw [zI_I, if_neg (by omega), y2]; exact x3
    · rw [zI_I, if_neg (by omega), y2]; exact x4
    · rw [zI_I, if_neg (by omega), y2]; exact x8
  · refine itR_app (by rw [List.length_cons]) ts z8 (rsl_f (τ := y) ts (fun p _ _ => ⟨rfl, rfl⟩) (fun _ _ _ _ => rfl) y5) (itR_f hc9 (fW_tr f3 f4) _ _ (fun p hp => ?_) w3)
    rw [List.length_cons] at hp
    exact ⟨z6 _ _ (by omega), z6 _ _ (by omega), y3 _ _ (by omega), y3 _ _ (by omega)⟩
  · exact frR_f _ e (fun q hq => ⟨y3 _ _ (by omega), y3 _ _ (by omega), z6 _ _ (by omega)⟩) w4
  · exact TPr_w (fun q hq => z3 _ _ (by omega)) (fun q hq => by rw [zI_I, if_neg (by omega), y2]) (fun r s hr => z6 _ _ (by omega)) (fun r s hr => y3 _ _ (by omega)) w5
  · exact TAt_w (fun q hq => z3 _ _ (by omega)) (by rw [zI_I, if_neg (by omega), y2]) w6
  · refine okW_app hg ts n l3 (Or.inl ⟨rfl, rfl, hf, ?_, ?_⟩)
    · show npF P v.toNat ≤ n + ts.length; omega
    · show okW P I 1 (n + ts.length - npF P v.toNat + 1) (g :: Fr'.map Prod.snd)
      rw [show n + ts.length - npF P v.toNat + 1 = n + 1 by omega]
      exact hk
end
