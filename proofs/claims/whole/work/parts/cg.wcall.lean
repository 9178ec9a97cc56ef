/-! THE TEXT BY ITSELF: reading, a call's parts -/
theorem zsI_cm {σ : zSt} {o k o' k' : Nat} {v v' : Int32} (h : ¬ (o = o' ∧ k = k')) : zsI (zsI σ o k v) o' k' v' = zsI (zsI σ o' k' v') o k v := by
  unfold zsI zup
  refine Prod.ext ?_ rfl
  funext i j
  show (if i = o' ∧ j = k' then v' else if i = o ∧ j = k then v else σ.1 i j) = (if i = o ∧ j = k then v else if i = o' ∧ j = k' then v' else σ.1 i j)
  by_cases c1 : i = o' ∧ j = k'
  · rw [if_pos c1, if_neg (fun w => h ⟨w.1.symm.trans c1.1, w.2.symm.trans c1.2⟩), if_pos c1]
  · rw [if_neg c1, if_neg c1]
theorem nI_m1 {k : Nat} : nI (k + 1) + (-1 : Int32) = nI k := by
  rw [← Int32.sub_eq_add_neg]
  exact nI_sb k 1
section
variable {ln : Nat → Nat} {N M mc io c m n e b0 g : Nat} {P : yP} {vl lc gb : Nat → Int32} {I : List aI} {Fr' : List (Nat × Nat)} {σ τ : zSt} {A B D : fT} {v w : Int} {i j : Int32}
theorem x10 (h : BX ln mc io c P m vl lc gb n e I b0 g Fr' σ τ) (hr : rp P τ (fN 10 v w A B D) i) (hp : cp P c σ (npF P g) (fN 10 v w A B D) j) (hk : okW P I 1 (n + 1) (g :: Fr'.map Prod.snd)) : EXo ln N M P m c mc io i j σ τ := by
  obtain ⟨E, W, hg, hb, hl⟩ := h
  obtain ⟨e1, e2, -⟩ := id E
  have hc9 := e2.1
  have hmc := e1.2.2.2.2.2.2.2.2.2.1
  have hio := e1.2.2.2.2.2.2.2.2.2.2
  obtain ⟨a, rfl, ha, a1, a2, -⟩ := rp_N hr
  obtain ⟨b, rfl, hb2, b1, b2, -⟩ := cp_N hp
  obtain ⟨w1, w2, w3, w4, w5, w6⟩ := id W
  obtain ⟨q, i', t1, t2, t3, t4⟩ := w6
  obtain ⟨i2, o, s1, s2, s3, s4, s5, s6, s7, s8⟩ := id w5
  have ei : i' = i2 := by
    have := congrArg Int32.toInt (t3.symm.trans s1)
    rw [nI_toInt (by omega), nI_toInt (by omega)] at this
    omega
  subst ei
  have hR : fX12_begins N (nI a) τ = (if (zI τ 0 12) = (zI τ 0 11) then (bnd (zsI τ 0 75 (5 : Int32)) (fun σ39 => some ((), σ39))) else (if (zI τ 0 12) < 0 ∨ 4096 ≤ (zI τ 0 12).toNatClampNeg then none else (obd (fX12_gives N (zA τ 4 (zI τ 0 12).toNatClampNeg) τ) (fun _ σ37 => bnd (zsI σ37 0 12 ((zI σ37 0 12) + (1 : Int32))) (fun σ38 => some ((), σ38)))))) := by
    unfold fX12_begins
    rw [nI_clamp (by omega), if_neg (ixN (by omega) (by omega)), a1, bnd_e]
    rfl
  unfold EXo
  rw [hR]
  unfold fX10_takeApart fX10_takeInput fX8_hasInput fX8_nextInput
  rw [rbT e2.1 e2.2.1, (tkC e2 hb2).1, obd_s, b1, show cKd 10 = 5 from rfl, if_neg (by decide), if_neg (by decide), if_neg (by decide), if_neg (by decide), if_pos rfl, e1.1, t3, t1, t2, s2]
  by_cases cj : q = i'
  · rw [cj, if_pos (Int32.le_refl _), obd_s, if_pos rfl, bnd_e, obd_s, if_pos rfl, bnd_e]
    exact ⟨_, _, rfl, rfl, WO_no fWC_refl fWR_refl w5 (by decide)⟩
  · have f1 : fWC σ (zsI σ 6 3 (nI (q + 1))) := fWC_I6 (by omega)
    have f2 : fWR τ (zsI τ 0 12 (nI (q + 1))) := fWR_I (by omega)
    have ev : zA σ 24 q = zA τ 4 q := s7 q (by omega)
    have W2 : WI P m c io vl lc gb n e I ((b0, g) :: Fr') (zsI σ 6 3 (nI (q + 1))) (zsI τ 0 12 (nI (q + 1))) := by
      obtain ⟨x1, x2, x3, x4, x5, x6, x7, x8⟩ := w1
      obtain ⟨y1, y2, y3, y4, y5, y6, y7, y8⟩ := w2
      refine ⟨⟨by rw [zI_I, if_neg (by omega)]; exact x1, by rw [zI_I, if_neg (by omega)]; exact x2, by rw [zI_I, if_neg (by omega)]; exact x3, by rw [zI_I, if_neg (by omega)]; exact x4, x5, x6, x7, by rw [zI_I, if_neg (by omega)]; exact x8⟩, ⟨by rw [zI_I, if_neg (by omega)]; exact y1, by rw [zI_I, if_neg (by omega)]; exact y2, by rw [zI_I, if_neg (by omega)]; exact y3, by rw [zI_I, if_neg (by omega)]; exact y4, y5, y6, y7, by rw [zI_I, if_neg (by omega)]; exact y8⟩, itR_f hc9 (fW_tr f1 f2) I _ (fun p hp => ⟨rfl, rfl, rfl, rfl⟩) w3, frR_f (σ := σ) (τ := τ) _ e (fun i hi => ⟨rfl, rfl, rfl⟩) w4, ?_, q + 1, i', by rw [zI_I, if_pos ⟨rfl, rfl⟩], by rw [zI_I, if_pos ⟨rfl, rfl⟩], by rw [zI_I, if_neg (by omega)]; exact t3, by omega⟩
      exact TPr_w (fun k hk => by rw [zI_I, if_neg (by omega)]) (fun j hj => by rw [zI_I, if_neg (by omega)]) (fun _ _ _ => rfl) (fun _ _ _ => rfl) w5
    obtain ⟨σ', τ', p1, p2, p3, f3, f4⟩ := pushV (N := N) (M := M) (v := zA τ 4 q) e1 (by omega) W2 e2.1
    rw [if_neg (fun w => by rw [nI_le' (by omega) (by omega)] at w; omega), if_neg (fun w => by rw [nI_le' (by omega) (by omega)] at w; omega), obd_s, if_neg (by decide), t3, t1, if_neg (fun w => by rw [nI_le' (by omega) (by omega)] at w; omega), if_pos ((nI_ltI (by omega) (by omega)).mpr (by omega)), show nI q + (1 : Int32) = nI (q + 1) from nI_add _ 1, bnd_e, show zI (zsI σ 6 3 (nI (q + 1))) 6 3 = nI (q + 1) by rw [zI_I, if_pos ⟨rfl, rfl⟩], show nI (q + 1) - (1 : Int32) = nI q from nI_sb q 1, nI_clamp (by omega), if_neg (ixN (by omega) (by omega)), obd_s, zA_I, ev, p1, obd_s, obd_s]
    rw [if_neg (fun w => by have := congrArg Int32.toInt w; rw [nI_toInt (by omega), nI_toInt (by omega)] at this; omega), if_neg (ixN (by omega) (by omega)), wgvR w2 (by omega), obd_s, show zI (zsI (zsA τ 43 n (zA τ 4 q)) 0 79 (nI (n + 1))) 0 12 = nI q by rw [zI_I, if_neg (by omega), zI_A]; exact t2, show nI q + (1 : Int32) = nI (q + 1) from nI_add _ 1, bnd_e]
    have et : zsI (zsI (zsA τ 43 n (zA τ 4 q)) 0 79 (nI (n + 1))) 0 12 (nI (q + 1)) = τ' := by
      have := p2.symm.trans (wgvR (N := N) (v := zA τ 4 q) W2.2.1 (by omega))
      have e3 := congrArg Prod.snd (Option.some.inj this)
      rw [zsI_cm (by omega)]
      exact e3.symm
    rw [et]
    exact ⟨_, _, rfl, rfl, WO_ok (fWC_trans f1 f3) (fWR_trans f2 f4) p3 hk (by omega) (by omega) (by omega)⟩
end
/-- the parts of a list -/
def isL : fT → List fT → Prop
  | A, [] => isZ A
  | A, t :: ts => ∃ r, A = fC t r ∧ isL r ts
theorem wf_L {G : gE} {gs np K : Nat} : ∀ (k : Nat) (A : fT), wf G gs np K A 3 k → ∃ ts, isL A ts ∧ ts.length = k ∧ ∀ t, t ∈ ts → wf G gs np K t 0 0 := by
  have key : ∀ (A : fT) (k : Nat), wf G gs np K A 3 k → ∃ ts, isL A ts ∧ ts.length = k ∧ ∀ t, t ∈ ts → wf G gs np K t 0 0 := by
    apply ff_ind
    · intro t hz k h
      rw [wf_isZ hz] at h
      unfold wfZ at h
      exact ⟨[], hz, by show 0 = k; omega, fun t h => by cases h⟩
    · intro k' v w A B C _ _ _ k h
      rw [wf_N] at h
      exact h.elim
    · intro t r _ hr k h
      obtain ⟨j, rfl, h1, h2⟩ := wL_c h
      obtain ⟨ts, a, b, d⟩ := hr j h2
      refine ⟨t :: ts, ⟨r, rfl, a⟩, by rw [List.length_cons, b], fun s hs => ?_⟩
      rcases List.mem_cons.mp hs with e | e
      · rw [e]; exact h1
      · exact d s e
  exact fun k A h => key A k h
def rch (P : yP) (τ : zSt) : List fT → Int32 → Prop
  | [], i => i = -1
  | t :: ts, i => ∃ m, i = nI m ∧ m < 4200 ∧ rp P τ t i ∧ rch P τ ts (zA τ 21 m)
theorem rch_of {P : yP} {τ : zSt} : ∀ (ts : List fT) (A : fT) (i : Int32), isL A ts → rp P τ A i → rch P τ ts i := by
  intro ts
  induction ts with
  | nil => intro A i h hr; exact rp_Z h hr
  | cons t ts ih =>
    intro A i h hr
    obtain ⟨r, rfl, h⟩ := h
    obtain ⟨m, a, b, d, f⟩ := rp_C hr
    exact ⟨m, a, b, d, ih r _ h f⟩
def cch (P : yP) (c : Nat) (σ : zSt) (np : Nat) : List fT → Int32 → Int32 → Prop
  | [], pr, i => i = pr
  | t :: ts, pr, i => ∃ m, m < nst P P.1.2.2.2.2 ∧ cp P c σ np t (nI m) ∧ zA σ (6 * c - 16) m = pr ∧ cch P c σ np ts (nI m) i
theorem cch_of {P : yP} {c np : Nat} {σ : zSt} : ∀ (ts : List fT) (A : fT) (pr : Int32) (lo hi : Nat) (i : Int32), isL A ts → hi ≤ nst P P.1.2.2.2.2 → (crp σ c (fun g => nI (nst P g)) np A).2 pr lo hi i → cch P c σ np ts pr i := by
  intro ts
  induction ts with
  | nil =>
    intro A pr lo hi i h hh hr
    rw [crp_isZ h] at hr
    exact hr.2
  | cons t ts ih =>
    intro A pr lo hi i h hh hr
    obtain ⟨r, rfl, h⟩ := h
    rw [crp_C] at hr
    obtain ⟨m, a, b, d, f, g⟩ := hr
    exact ⟨m, by omega, ⟨_, _, by omega, d⟩, f, ih r _ _ _ _ h hh g⟩
section
variable {P : yP} {N : Nat} {τ : zSt}
theorem pb4 {x : Int32} : ∀ (ts : List fT) (i : Int32) (k f : Nat), rch P τ ts i → k + ts.length < 100 → ts.length < f → fX12_parts_b4 N f x (nI k) i τ = fX12_parts_b26 N N (nI (k + ts.length)) (nI (k + ts.length)) x τ := by
  intro ts
  induction ts with
  | nil =>
    intro i k f h hk hf
    obtain ⟨f, rfl⟩ : ∃ g, f = g + 1 := ⟨f - 1, by omega⟩
    have h : i = -1 := h
    rw [fX12_parts_b4, h, if_pos (by decide)]
    rfl
  | cons t ts ih =>
    intro i k f h hk hf
    rw [List.length_cons] at hk hf
    obtain ⟨f, rfl⟩ : ∃ g, f = g + 1 := ⟨f - 1, by omega⟩
    obtain ⟨m, rfl, hm, h1, h2⟩ := h
    rw [fX12_parts_b4, if_neg (nI_pos (by omega)), show nI k + (1 : Int32) = nI (k + 1) from nI_add _ 1, bnd_e, nI_clamp (by omega), if_neg (ixN (by omega) (by omega)), bnd_e, ih _ (k + 1) f h2 (by omega) (by omega), List.length_cons, show k + 1 + ts.length = k + (ts.length + 1) by omega]
/-- slots of the parts -/
def rsl (P : yP) (τ : zSt) (k : Nat) : List fT → Prop
  | [] => True
  | t :: ts => zA τ 44 (k + ts.length) = 2 ∧ rp P τ t (zA τ 45 (k + ts.length)) ∧ rsl P τ k ts
theorem rsl_f {P : yP} {τ u : zSt} {k : Nat} : ∀ (ts : List fT), (∀ p, k ≤ p → p < k + ts.length → zA u 44 p = zA τ 44 p ∧ zA u 45 p = zA τ 45 p) → (∀ a i, 15 ≤ a → a ≤ 21 → zA u a i = zA τ a i) → rsl P τ k ts → rsl P u k ts := by
  intro ts
  induction ts with
  | nil => intro _ _ _; trivial
  | cons t ts ih =>
    intro h1 h2 h
    rw [List.length_cons] at h1
    obtain ⟨a, b⟩ := h1 (k + ts.length) (by omega) (by omega)
    exact ⟨a.trans h.1, by rw [b]; exact rp_f h2 h.2.1, ih (fun p p1 p2 => h1 p p1 (by omega)) h2 h.2.2⟩
theorem pb26 {k K : Nat} (hk : k + K ≤ 4110) : ∀ (ts : List fT) (i : Int32) (f : Nat) (u : zSt), rch P u ts i → ts.length ≤ K → ts.length < f → zI u 0 82 = nI k → ∃ z, fX12_parts_b26 N f (nI K) (nI ts.length) i u = some ((), zsI z 0 82 (nI (k + K))) ∧ (∀ o j, zI z o j = zI u o j) ∧ (∀ a p, ¬ ((a = 44 ∨ a = 45) ∧ k ≤ p ∧ p < k + ts.length) → zA z a p = zA u a p) ∧ (∀ a p, zB z a p = zB u a p) ∧ rsl P z k ts := by
  intro ts
  induction ts with
  | nil =>
    intro i f u h hK hf h82
    obtain ⟨f, rfl⟩ : ∃ g, f = g + 1 := ⟨f - 1, by omega⟩
    have h : i = -1 := h
    rw [fX12_parts_b26, h, if_pos (by decide), h82, nI_add, bnd_e]
    exact ⟨u, rfl, fun _ _ => rfl, fun _ _ _ => rfl, fun _ _ => rfl, trivial⟩
  | cons t ts ih =>
    intro i f u h hK hf h82
    rw [List.length_cons] at hK hf
    obtain ⟨f, rfl⟩ : ∃ g, f = g + 1 := ⟨f - 1, by omega⟩
    obtain ⟨m, rfl, hm, h1, h2⟩ := h
    rw [fX12_parts_b26, if_neg (nI_pos (by omega)), List.length_cons, nI_m1, bnd_e, h82, nI_add, nI_clamp (by omega), if_neg (ixN (by omega) (by omega)), bnd_e, zI_A, h82, nI_add, nI_clamp (by omega), if_neg (ixN (by omega) (by omega)), bnd_e, nI_clamp (by omega), if_neg (ixN (by omega) (by omega)), bnd_e]
    have ht : ∀ a p, 15 ≤ a → a ≤ 21 → zA (zsA (zsA u 44 (k + ts.length) 2) 45 (k + ts.length) (nI m)) a p = zA u a p := fun a p a1 a2 => by rw [zA_A, if_neg (by omega), zA_A, if_neg (by omega)]
    have hr2 : rch P (zsA (zsA u 44 (k + ts.length) 2) 45 (k + ts.length) (nI m)) ts (zA u 21 m) := by
      have gen : ∀ (ts : List fT) (i : Int32), rch P u ts i → rch P (zsA (zsA u 44 (k + ts.length) 2) 45 (k + ts.length) (nI m)) ts i → True := fun _ _ _ _ => trivial
      have key : ∀ (l : List fT) (i : Int32) (s : zSt), (∀ a p, 15 ≤ a → a ≤ 21 → zA s a p = zA u a p) → rch P u l i → rch P s l i := by
        intro l
        induction l with
        | nil => intro i s _ h; exact h
        | cons t l ih =>
          intro i s hs h
          obtain ⟨m, a, b, d, f⟩ := h
          exact ⟨m, a, b, rp_f hs d, by rw [hs 21 m (by omega) (by omega)]; exact ih _ s hs f⟩
      exact key ts _ _ ht h2
    rw [ht 21 m (by omega) (by omega)]
    obtain ⟨z, z1, z2, z3, z4, z5⟩ := ih (zA u 21 m) f _ hr2 (by omega) (by omega) (by rw [zI_A, zI_A]; exact h82)
    refine ⟨z, z1, fun o j => (z2 o j).trans (by rw [zI_A, zI_A]), fun a p hp => ?_, fun a p => (z4 a p).trans rfl, ?_, ?_, z5⟩
    · rw [z3 a p (by omega)]
      rw [zA_A, if_neg (by omega), zA_A, if_neg (by omega)]
    · rw [z3 44 _ (by omega), zA_A, if_neg (by omega), zA_A, if_pos ⟨rfl, rfl⟩]
    · rw [z3 45 _ (by omega), zA_A, if_pos ⟨rfl, rfl⟩]
      exact rp_f (fun a p a1 a2 => by rw [z3 a p (by omega)]; exact ht a p a1 a2) h1
end
