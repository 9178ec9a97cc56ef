/-! THE CLASS: the view of a reader that goes on -/
def rTC (tk : yTok) (σ : zSt) : Prop := zI σ 1 2 = nI tk.1 ∧ zI σ 1 4 = nI tk.2.1 ∧ zI σ 1 3 = tk.2.2.1 ∧ (tk.2.2.1 = 40 → zL σ 1 5 = tk.2.2.2) ∧ (tk.2.2.1 = 41 → zL σ 1 6 = tk.2.2.2)
def NV (G : gE) (L : lE) (fnd : Nat → Int32) (σ : zSt) : Prop := zI σ 4 5 = nI (G.2.2.2.2 + L.2.2) ∧ (∀ g, g < G.2.2.2.2 → zB σ 16 g = G.1 g ∧ zA σ 17 g = G.2.1 g ∧ zA σ 18 g = G.2.2.1 g ∧ zA σ 19 g = G.2.2.2.1 g ∧ (G.2.1 g = 2 → zA σ 20 g = fnd g)) ∧ (∀ j, j < L.2.2 → zB σ 16 (G.2.2.2.2 + j) = L.1 j ∧ zA σ 17 (G.2.2.2.2 + j) = 3 ∧ zA σ 18 (G.2.2.2.2 + j) = L.2.1 j)
/-- what stays while an E is read -/
def CS (ln : Nat → Nat) (q : Nat) (x : Nat → Int32) (n tc : Nat) (G : gE) (L : lE) (np : Nat) (fnd : Nat → Int32) (σ : zSt) : Prop := srcC x n ln σ ∧ RF q σ ∧ NV G L fnd σ ∧ zI σ 3 2 = nI tc ∧ zI σ 3 5 = nI np
def CV (ln : Nat → Nat) (q : Nat) (x : Nat → Int32) (n tc : Nat) (G : gE) (L : lE) (np : Nat) (fnd : Nat → Int32) (mu : Int32) (tk : yTok) (c ns s p t : Nat) (σ : zSt) : Prop := CS ln q x n tc G L np fnd σ ∧ rTC tk σ ∧ zI σ 1 7 = 0 ∧ zI σ 3 3 = nI (tc - c) ∧ zI σ 3 4 = nI ns ∧ zI σ (q + 2) 6 = nI s ∧ zI σ (q + 4) 1 = nI p ∧ zI σ 5 6 = nI t ∧ zI σ 5 7 = mu
/-- D nodes are still due -/
def CB (n tc : Nat) (tk : yTok) (c ns s p D : Nat) : Prop := tkO n tk ∧ c ≤ tc ∧ tc ≤ 4096 ∧ ns ≤ 40 ∧ s + D ≤ tk.2.1 ∧ p ≤ 10500
/-- what an E changes -/
def eI (q o k : Nat) : Prop := (o = 1 ∧ 2 ≤ k) ∨ (o = 3 ∧ (k = 3 ∨ k = 4)) ∨ (o = 5 ∧ (k = 6 ∨ k = 7)) ∨ (o = q + 2 ∧ k = 6) ∨ (o = q + 4 ∧ k = 1)
def eA (q s p t a i : Nat) : Prop := (21 ≤ a ∧ a ≤ 23 ∧ t ≤ i) ∨ (6 * q - 21 ≤ a ∧ a ≤ 6 * q - 16 ∧ s ≤ i) ∨ (a = q + 36 ∧ p ≤ i)
def fX (q s p t : Nat) (τ u : zSt) : Prop := (∀ o k, ¬ eI q o k → zI u o k = zI τ o k) ∧ (∀ o k, o ≠ 1 → zL u o k = zL τ o k) ∧ (∀ o k, zR u o k = zR τ o k) ∧ (∀ a i, ¬ eA q s p t a i → zA u a i = zA τ a i) ∧ (∀ a i, zB u a i = zB τ a i)
theorem fX_refl {q s p t : Nat} {τ : zSt} : fX q s p t τ τ := ⟨fun _ _ _ => rfl, fun _ _ _ => rfl, fun _ _ => rfl, fun _ _ _ => rfl, fun _ _ => rfl⟩
theorem fX_trans {q s p t s' p' t' : Nat} {τ u v : zSt} (h : fX q s p t τ u) (h2 : fX q s' p' t' u v) (hs : s ≤ s') (hp : p ≤ p') (ht : t ≤ t') : fX q s p t τ v :=
  ⟨fun o k a => (h2.1 o k a).trans (h.1 o k a), fun o k a => (h2.2.1 o k a).trans (h.2.1 o k a), fun o k => (h2.2.2.1 o k).trans (h.2.2.1 o k), fun a i c => (h2.2.2.2.1 a i (by unfold eA at *; omega)).trans (h.2.2.2.1 a i c), fun a i => (h2.2.2.2.2 a i).trans (h.2.2.2.2 a i)⟩
theorem fX_I {q s p t o k : Nat} {v : Int32} {τ u : zSt} (h : fX q s p t τ u) (ho : eI q o k) : fX q s p t τ (zsI u o k v) := by
  refine ⟨fun o' k' hn => ?_, h.2.1, h.2.2.1, h.2.2.2.1, h.2.2.2.2⟩
  rw [zI_I, if_neg (fun e => hn (by rw [e.1, e.2]; exact ho))]
  exact h.1 o' k' hn
theorem fX_A {q s p t a i : Nat} {v : Int32} {τ u : zSt} (h : fX q s p t τ u) (ho : eA q s p t a i) : fX q s p t τ (zsA u a i v) := by
  refine ⟨h.1, h.2.1, h.2.2.1, fun a' i' hn => ?_, h.2.2.2.2⟩
  rw [zA_A, if_neg (fun e => hn (by rw [e.1, e.2]; exact ho))]
  exact h.2.2.2.1 a' i' hn
theorem fX_L {q s p t k : Nat} {v : Int64} {τ u : zSt} (h : fX q s p t τ u) : fX q s p t τ (zsL u 1 k v) := by
  refine ⟨h.1, fun o' k' hn => ?_, h.2.2.1, h.2.2.2.1, h.2.2.2.2⟩
  rw [zL_L, if_neg (fun e => hn e.1)]
  exact h.2.1 o' k' hn
theorem fX_R {q s p t : Nat} {τ u : zSt} (hq : q = 9 ∨ q = 10) (h : fX q s p t τ u) : fR q τ u :=
  ⟨fun o k a => h.1 o k (by unfold eI; unfold okI at a; omega), h.2.1, h.2.2.1, fun a i c => h.2.2.2.1 a i (by unfold eA; unfold okA at c; omega), fun a i _ => h.2.2.2.2 a i⟩
theorem fX_ck {ln : Nat → Nat} {q s p t p' : Nat} {τ u : zSt} {l : List Int32} (h : fX q s p t τ u) (hp : p ≤ p') : fX q s p t τ (ckS ln q u p' l) := by
  refine ⟨fun o k a => ?_, fun o k a => ?_, fun o k => ?_, fun a i c => ?_, fun a i => ?_⟩
  · rw [ckS_I (by unfold eI at a; omega)]; exact h.1 o k a
  · rw [ckS_L]; exact h.2.1 o k a
  · rw [ckS_R]; exact h.2.2.1 o k
  · rw [ckS_A (by unfold eA at c; omega)]; exact h.2.2.2.1 a i c
  · rw [ckS_B]; exact h.2.2.2.2 a i
theorem fX_ta {q s p t s' : Nat} {τ u : zSt} {k a b c : Int32} (h : fX q s p t τ u) (hs : s ≤ s') (hq : q = 9 ∨ q = 10) : fX q s p t τ (taS u q s' k a b c) := by
  unfold taS
  exact fX_I (fX_A (fX_A (fX_A (fX_A (fX_A (fX_A h (by unfold eA; omega)) (by unfold eA; omega)) (by unfold eA; omega)) (by unfold eA; omega)) (by unfold eA; omega)) (by unfold eA; omega)) (by unfold eI; omega)
theorem CS_fX {ln : Nat → Nat} {q : Nat} {x : Nat → Int32} {n tc : Nat} {G : gE} {L : lE} {np : Nat} {fnd : Nat → Int32} {s p t : Nat} {τ u : zSt} (hq : q = 9 ∨ q = 10) (h : fX q s p t τ u) (hc : CS ln q x n tc G L np fnd τ) : CS ln q x n tc G L np fnd u := by
  obtain ⟨⟨s1, s2, s3, s4⟩, ⟨r1, r2, r3, r4, r5⟩, ⟨n1, n2, n3⟩, c1, c2⟩ := hc
  refine ⟨⟨(h.1 1 1 (by unfold eI; omega)).trans s1, s2, s3, fun j hj => (h.2.2.2.1 15 j (by unfold eA; omega)).trans (s4 j hj)⟩, ⟨(h.2.2.1 _ _).trans r1, (h.2.2.1 _ _).trans r2, (h.2.2.1 _ _).trans r3, (h.2.2.1 _ _).trans r4, (h.2.2.1 _ _).trans r5⟩, ⟨(h.1 4 5 (by unfold eI; omega)).trans n1, fun g hg => ?_, fun j hj => ?_⟩, (h.1 3 2 (by unfold eI; omega)).trans c1, (h.1 3 5 (by unfold eI; omega)).trans c2⟩
  · obtain ⟨a1, a2, a3, a4, a5⟩ := n2 g hg
    exact ⟨(h.2.2.2.2 16 g).trans a1, (h.2.2.2.1 17 g (by unfold eA; omega)).trans a2, (h.2.2.2.1 18 g (by unfold eA; omega)).trans a3, (h.2.2.2.1 19 g (by unfold eA; omega)).trans a4, fun k => (h.2.2.2.1 20 g (by unfold eA; omega)).trans (a5 k)⟩
  · obtain ⟨a1, a2, a3⟩ := n3 j hj
    exact ⟨(h.2.2.2.2 16 _).trans a1, (h.2.2.2.1 17 _ (by unfold eA; omega)).trans a2, (h.2.2.2.1 18 _ (by unfold eA; omega)).trans a3⟩
/-! coming to the next token -/
def cS (x : Nat → Int32) (n p : Nat) (σ : zSt) : zSt := comS σ (lxTokC x n p).1 (lxTokC x n p).2.1 (lxTokC x n p).2.2.1 (lxTokC x n p).2.2.2.1 (lxTokC x n p).2.2.2.2
theorem comS_fX {q s p t e k : Nat} {kd : Int32} {w u : Option Int64} {τ σ : zSt} (h : fX q s p t τ σ) : fX q s p t τ (comS σ e k kd w u) := by
  unfold comS
  have h1 : fX q s p t τ (zsI (zsI (zsI σ 1 2 (nI e)) 1 4 (nI k)) 1 3 kd) := fX_I (fX_I (fX_I h (by unfold eI; omega)) (by unfold eI; omega)) (by unfold eI; omega)
  cases w <;> cases u <;> simp only [] <;> split
  all_goals first | exact fX_I h1 (by unfold eI; omega) | exact h1 | exact fX_L h1 | exact fX_I (fX_L h1) (by unfold eI; omega) | exact fX_L (fX_L h1) | exact fX_I (fX_L (fX_L h1)) (by unfold eI; omega)
theorem comS_I {o j e k : Nat} {kd : Int32} {w u : Option Int64} {σ : zSt} (h : o ≠ 1) : zI (comS σ e k kd w u) o j = zI σ o j := by
  have := comS_fX (q := o + 20) (s := 0) (p := 0) (t := 0) (e := e) (k := k) (kd := kd) (w := w) (u := u) (τ := σ) (σ := σ) fX_refl
  by_cases h2 : eI (o + 20) o j
  · unfold comS
    cases w <;> cases u <;> simp only [] <;> split
    all_goals simp only [zI_I, zI_L]
    all_goals (repeat rw [if_neg (by omega)])
  · exact this.1 o j h2
theorem comS_A {a i e k : Nat} {kd : Int32} {w u : Option Int64} {σ : zSt} : zA (comS σ e k kd w u) a i = zA σ a i := by
  unfold comS
  cases w <;> cases u <;> simp only [] <;> split
  all_goals rfl
theorem comS_7 {e k : Nat} {kd : Int32} {w u : Option Int64} {σ : zSt} : zI (comS σ e k kd w u) 1 7 = if kd = -1 then 1 + 16 * nI k else zI σ 1 7 := by
  by_cases hk : kd = -1
  · rw [if_pos hk]
    cases w <;> cases u <;> simp [comS, hk, zI_I, zI_L]
  · rw [if_neg hk]
    cases w <;> cases u <;> simp [comS, hk, zI_I, zI_L]
theorem comS_tok {e k : Nat} {kd : Int32} {w u : Option Int64} {σ : zSt} : zI (comS σ e k kd w u) 1 2 = nI e ∧ zI (comS σ e k kd w u) 1 4 = nI k ∧ zI (comS σ e k kd w u) 1 3 = kd ∧ (∀ t, w = some t → zL (comS σ e k kd w u) 1 5 = t) ∧ (∀ t, u = some t → zL (comS σ e k kd w u) 1 6 = t) := by
  by_cases hk : kd = -1
  · cases w <;> cases u <;> simp [comS, hk, zI_I, zI_L, zL_I, zL_L]
  · cases w <;> cases u <;> simp [comS, hk, zI_I, zI_L, zL_I, zL_L]
/-- the next token, or what is wrong -/
theorem comeE {ln : Nat → Nat} {N M q : Nat} {x : Nat → Int32} {n tc : Nat} {G : gE} {L : lE} {np : Nat} {fnd : Nat → Int32} {tk : yTok} {e : Int32} {σ : zSt} (hc : CS ln q x n tc G L np fnd σ) (h2 : zI σ 1 2 = nI tk.1) (h7 : zI σ 1 7 = 0) (ht : tk.1 ≤ n) (hN : n + 20 ≤ N) (he : cm x n tk = .error e) :
    fX7_come ln N M σ = some ((), cS x n tk.1 σ) ∧ zI (cS x n tk.1 σ) 1 7 = e ∧ zI (cS x n tk.1 σ) 1 3 = -1 := by
  obtain ⟨e1, e2⟩ := cm_e he
  obtain ⟨r1, r2, r3, r4, r5⟩ := tok_rel x n tk.1
  have hk : (lxTokC x n tk.1).2.2.1 = -1 := r3.trans e2
  refine ⟨comeC hc.1 h2 h7 ht hN, ?_, ?_⟩
  · unfold cS
    rw [comS_7, if_pos hk, r2, e1]
    rfl
  · unfold cS
    rw [comS_tok.2.2.1, hk]
theorem comeT {ln : Nat → Nat} {N M q : Nat} {x : Nat → Int32} {n tc : Nat} {G : gE} {L : lE} {np : Nat} {fnd : Nat → Int32} {tk t1 : yTok} {σ : zSt} (hc : CS ln q x n tc G L np fnd σ) (h2 : zI σ 1 2 = nI tk.1) (h7 : zI σ 1 7 = 0) (ht : tk.1 ≤ n) (hN : n + 20 ≤ N) (he : cm x n tk = .ok t1) :
    fX7_come ln N M σ = some ((), cS x n tk.1 σ) ∧ zI (cS x n tk.1 σ) 1 7 = 0 ∧ rTC t1 (cS x n tk.1 σ) := by
  obtain ⟨e1, e2⟩ := cm_k he
  obtain ⟨r1, r2, r3, r4, r5⟩ := tok_rel x n tk.1
  have hk : ¬ (lxTokC x n tk.1).2.2.1 = -1 := fun q => e2 (r3.symm.trans q)
  have hkv := lxTok_V x n tk.1
  refine ⟨comeC hc.1 h2 h7 ht hN, ?_, ?_⟩
  · unfold cS
    rw [comS_7, if_neg hk, h7]
  · unfold cS
    obtain ⟨t1', t2', t3', t4', t5'⟩ := comS_tok (σ := σ) (e := (lxTokC x n tk.1).1) (k := (lxTokC x n tk.1).2.1) (kd := (lxTokC x n tk.1).2.2.1) (w := (lxTokC x n tk.1).2.2.2.1) (u := (lxTokC x n tk.1).2.2.2.2)
    rw [e1]
    refine ⟨t1'.trans (by rw [r1]; rfl), t2'.trans (by rw [r2]; rfl), t3'.trans r3, fun h40 => ?_, fun h41 => ?_⟩
    · exact t4' _ (r4 ((kd40 (K := 40) h40 hkv).mpr rfl))
    · exact t5' _ (r5 ((kd41 (K := 41) h41 hkv).mpr rfl))
theorem CV_n {ln : Nat → Nat} {q : Nat} {x : Nat → Int32} {n tc : Nat} {G : gE} {L : lE} {np : Nat} {fnd : Nat → Int32} {mu : Int32} {tk t1 : yTok} {c ns s p t : Nat} {σ : zSt} (hq : q = 9 ∨ q = 10) (h : CV ln q x n tc G L np fnd mu tk c ns s p t σ) (hr : rTC t1 (cS x n tk.1 σ)) (h7 : zI (cS x n tk.1 σ) 1 7 = 0) : CV ln q x n tc G L np fnd mu t1 c ns s p t (cS x n tk.1 σ) := by
  obtain ⟨h1, h2, h3, h4, h5, h6, h8, h9, h10⟩ := h
  have hf : fX q 0 0 0 σ (cS x n tk.1 σ) := comS_fX fX_refl
  refine ⟨CS_fX hq hf h1, hr, h7, ?_, ?_, ?_, ?_, ?_, ?_⟩
  · unfold cS; rw [comS_I (by omega)]; exact h4
  · unfold cS; rw [comS_I (by omega)]; exact h5
  · unfold cS; rw [comS_I (by omega)]; exact h6
  · unfold cS; rw [comS_I (by omega)]; exact h8
  · unfold cS; rw [comS_I (by omega)]; exact h9
  · unfold cS; rw [comS_I (by omega)]; exact h10
/-- from the view to the state where something is wrong -/
theorem CV_DS {ln : Nat → Nat} {q : Nat} {x : Nat → Int32} {n tc : Nat} {G : gE} {L : lE} {np : Nat} {fnd : Nat → Int32} {mu : Int32} {c ns s p t b : Nat} {e : Int32} {σ u : zSt} {tk : yTok} (hq : q = 9 ∨ q = 10) (h : CV ln q x n tc G L np fnd mu tk c ns s p t σ) (he : e ≠ 0) (h7 : zI u 1 7 = e) (h3 : zI u 1 3 = -1) (hf : ∀ o k, o ≠ 1 → o ≠ 3 → ¬ (o = 5 ∧ k = 7) → zI u o k = zI σ o k) (h11 : zI u 1 1 = zI σ 1 1) (hR : ∀ o k, zR u o k = zR σ o k) (hs : s ≤ ln 15) (hp : p ≤ b) (ht : t ≤ 512) (hn : G.2.2.2.2 + L.2.2 ≤ ln 15) (hn2 : n ≤ 4096) : DS ln q e b u := by
  obtain ⟨⟨c1, ⟨r1, r2, r3, r4, r5⟩, c3, c4, c5⟩, h2, h3', h4, h5, h6, h8, h9, h10⟩ := h
  exact ⟨he, h7, h3, ⟨(hR _ _).trans r1, (hR _ _).trans r2, (hR _ _).trans r3, (hR _ _).trans r4, (hR _ _).trans r5⟩, ⟨p, hp, (hf _ _ (by omega) (by omega) (by omega)).trans h8⟩, ⟨s, hs, (hf _ _ (by omega) (by omega) (by omega)).trans h6⟩, ⟨G.2.2.2.2 + L.2.2, hn, (hf _ _ (by omega) (by omega) (by omega)).trans c3.1⟩, ⟨t, ht, (hf _ _ (by omega) (by omega) (by omega)).trans h9⟩, ⟨n, hn2, h11.trans c1.1⟩⟩
