/-! THE CLASS: small methods where something is wrong already -/
def RF (q : Nat) (σ : zSt) : Prop := zR σ 5 8 = q + 3 ∧ zR σ 5 9 = q + 5 ∧ zR σ 2 4 = q + 1 ∧ zR σ 2 5 = q + 3 ∧ zR σ 2 6 = q + 5
theorem rbC {β : Type} {q r : Nat} {f : Nat → Option β} (hq : q = 9 ∨ q = 10) (h : r = q + 5) : rbd r 13 14 f = f (q + 4) := by
  unfold rbd
  rcases hq with rfl | rfl <;> (subst h; rfl)
theorem rbT {β : Type} {q r : Nat} {f : Nat → Option β} (hq : q = 9 ∨ q = 10) (h : r = q + 3) : rbd r 11 12 f = f (q + 2) := by
  unfold rbd
  rcases hq with rfl | rfl <;> (subst h; rfl)
theorem rbP {β : Type} {q r : Nat} {f : Nat → Option β} (hq : q = 9 ∨ q = 10) (h : r = q + 1) : rbd r 9 10 f = f q := by
  unfold rbd
  rcases hq with rfl | rfl <;> (subst h; rfl)
/-- e is wrong; no token; at most b cells of code -/
def DS (ln : Nat → Nat) (q : Nat) (e : Int32) (b : Nat) (σ : zSt) : Prop := e ≠ 0 ∧ zI σ 1 7 = e ∧ zI σ 1 3 = -1 ∧ RF q σ ∧ (∃ p, p ≤ b ∧ zI σ (q + 4) 1 = nI p) ∧ (∃ s, s ≤ ln 15 ∧ zI σ (q + 2) 6 = nI s) ∧ (∃ k, k ≤ ln 15 ∧ zI σ 4 5 = nI k) ∧ (∃ t, t ≤ 512 ∧ zI σ 5 6 = nI t) ∧ (∃ n, n ≤ 4096 ∧ zI σ 1 1 = nI n)
theorem DS_le {ln : Nat → Nat} {q b b' : Nat} {e : Int32} {σ : zSt} (h : DS ln q e b σ) (hb : b ≤ b') : DS ln q e b' σ := by
  obtain ⟨h1, h2, h3, h4, ⟨p, h5, h6⟩, h7⟩ := h
  exact ⟨h1, h2, h3, h4, ⟨p, by omega, h6⟩, h7⟩
def dI (q o k : Nat) : Prop := ¬ (o = 1 ∧ (k = 1 ∨ k = 3 ∨ k = 7)) ∧ ¬ (o = q + 4 ∧ k = 1) ∧ ¬ (o = q + 2 ∧ k = 6) ∧ ¬ (o = 4 ∧ k = 5) ∧ ¬ (o = 5 ∧ k = 6)
theorem DS_I {ln : Nat → Nat} {q b o k : Nat} {e v : Int32} {σ : zSt} (hq : q = 9 ∨ q = 10) (h : DS ln q e b σ) (hd : dI q o k) : DS ln q e b (zsI σ o k v) := by
  obtain ⟨h1, h2, h3, h4, ⟨p, h5, h6⟩, ⟨s, h7, h8⟩, ⟨k', h9, h10⟩, ⟨t, h11, h12⟩, ⟨n, h13, h14⟩⟩ := h
  unfold dI at hd
  refine ⟨h1, ?_, ?_, h4, ⟨p, h5, ?_⟩, ⟨s, h7, ?_⟩, ⟨k', h9, ?_⟩, ⟨t, h11, ?_⟩, ⟨n, h13, ?_⟩⟩
  all_goals rw [zI_I, if_neg (by omega)]; assumption
theorem DS_A {ln : Nat → Nat} {q b a i : Nat} {e v : Int32} {σ : zSt} (h : DS ln q e b σ) : DS ln q e b (zsA σ a i v) := h
theorem DS_B {ln : Nat → Nat} {q b a i : Nat} {e : Int32} {v : Int64} {σ : zSt} (h : DS ln q e b σ) : DS ln q e b (zsB σ a i v) := h
def DD (ln : Nat → Nat) (q : Nat) (e : Int32) (b : Nat) (τ z : zSt) : Prop := DS ln q e b z ∧ fR q τ z
theorem DD_tr {ln : Nat → Nat} {q b b' : Nat} {e : Int32} {τ u z : zSt} (h : DD ln q e b u z) (hf : fR q τ u) (hb : b ≤ b') : DD ln q e b' τ z := ⟨DS_le h.1 hb, fR_trans hf h.2⟩
theorem comeD {ln : Nat → Nat} {N M q b : Nat} {e : Int32} {σ : zSt} (h : DS ln q e b σ) : fX7_come ln N M σ = some ((), σ) := comeC_not (by rw [h.2.1]; exact h.1)
theorem kind_same {σ : zSt} (h : zI σ 1 3 = -1) : zsI σ 1 3 (-1) = σ := by
  have := zsI_self σ 1 3
  rw [h] at this
  exact this
theorem failD {ln : Nat → Nat} {N M q b : Nat} {e k p : Int32} {σ : zSt} (h : DS ln q e b σ) : fX7_fail ln N M k p σ = some ((), σ) := by
  rw [failC_not k p (by rw [h.2.1]; exact h.1), kind_same h.2.2.1]
theorem failHD {ln : Nat → Nat} {N M q b : Nat} {e k : Int32} {σ : zSt} (h : DS ln q e b σ) : fX7_failHere ln N M k σ = some ((), σ) := by
  unfold fX7_failHere fX7_failHere_b20
  rw [if_neg (by rw [h.2.1]; exact h.1), bnd_e, kind_same h.2.2.1]
theorem needD {ln : Nat → Nat} {N M q b : Nat} {e k : Int32} {σ : zSt} (h : DS ln q e b σ) : fX7_need ln N M k σ = some ((), σ) := by
  unfold fX7_need
  by_cases hk : zI σ 1 3 = k
  · rw [if_pos hk]
  · rw [if_neg hk, failHD h, obd_s]
theorem passD {ln : Nat → Nat} {N M q b : Nat} {e k : Int32} {σ : zSt} (h : DS ln q e b σ) : fX7_pass ln N M k σ = some ((), σ) := by
  unfold fX7_pass
  rw [needD h, obd_s, comeD h, obd_s]
theorem takeD {ln : Nat → Nat} {N M q b : Nat} {e p : Int32} {σ : zSt} (hq : q = 9 ∨ q = 10) (h : DS ln q e b σ) : wp (fX1_takeCells ln N M p σ) (fun _ z => DD ln q e b σ z) := by
  unfold fX1_takeCells
  by_cases hk : (4 : Int32) ≤ zI σ 3 3
  · rw [if_pos hk, bnd_e]
    exact wp_s ⟨DS_I hq h (by unfold dI; omega), fR_I fR_refl (by unfold okI; omega)⟩
  · rw [if_neg hk, failD h, obd_s]
    exact wp_s ⟨h, fR_refl⟩
theorem enterD {ln : Nat → Nat} {N M q b : Nat} {e : Int32} {σ : zSt} (hq : q = 9 ∨ q = 10) (h : DS ln q e b σ) : wp (fX1_enter ln N M σ) (fun _ z => DD ln q e b σ z) := by
  unfold fX1_enter
  by_cases hk : zI σ 3 4 < (40 : Int32)
  · rw [if_pos hk, bnd_e]
    exact wp_s ⟨DS_I hq h (by unfold dI; omega), fR_I fR_refl (by unfold okI; omega)⟩
  · rw [if_neg hk, failHD h, obd_s]
    exact wp_s ⟨h, fR_refl⟩
theorem leaveD {ln : Nat → Nat} {N M q b : Nat} {e : Int32} {σ : zSt} (hq : q = 9 ∨ q = 10) (h : DS ln q e b σ) : wp (fX1_leave ln N M σ) (fun _ z => DD ln q e b σ z) := by
  unfold fX1_leave
  rw [bnd_e]
  exact wp_s ⟨DS_I hq h (by unfold dI; omega), fR_I fR_refl (by unfold okI; omega)⟩
theorem ckS_DS {ln : Nat → Nat} {q b p : Nat} {e : Int32} {σ : zSt} {l : List Int32} (hq : q = 9 ∨ q = 10) (h : DS ln q e b σ) (hp : p ≤ b) : DS ln q e (b + l.length) (ckS ln q σ p l) := by
  obtain ⟨h1, h2, h3, h4, -, ⟨s, h7, h8⟩, ⟨k', h9, h10⟩, ⟨t, h11, h12⟩, ⟨n, h13, h14⟩⟩ := h
  obtain ⟨r1, r2, r3, r4, r5⟩ := h4
  refine ⟨h1, ?_, ?_, ⟨by rw [ckS_R]; exact r1, by rw [ckS_R]; exact r2, by rw [ckS_R]; exact r3, by rw [ckS_R]; exact r4, by rw [ckS_R]; exact r5⟩, ⟨p + l.length, by omega, ckS_s⟩, ⟨s, h7, ?_⟩, ⟨k', h9, ?_⟩, ⟨t, h11, ?_⟩, ⟨n, h13, ?_⟩⟩
  all_goals rw [ckS_I (by omega)]; assumption
theorem addD {ln : Nat → Nat} {N M q cc b : Nat} {e v : Int32} {σ : zSt} (hL : LN ln q cc) (hb : b < 2 ^ 29) (h : DS ln q e b σ) : wp (fX0_add ln N M (q + 4) v σ) (fun _ z => DD ln q e (b + 1) σ z) := by
  obtain ⟨p, h5, h6⟩ := h.2.2.2.2.1
  rw [addC (by have := hL.2.2.2.2.2.2.2.2.2.2.2; omega) h6 (by omega)]
  exact wp_s ⟨ckS_DS (l := [v]) hL.1 h h5, ckS_fR fR_refl⟩
theorem addD2 {ln : Nat → Nat} {N M q cc b : Nat} {e v w : Int32} {σ : zSt} (hL : LN ln q cc) (hb : b < 2 ^ 29) (h : DS ln q e b σ) : wp (fX0_addWith ln N M (q + 4) v w σ) (fun _ z => DD ln q e (b + 2) σ z) := by
  obtain ⟨p, h5, h6⟩ := h.2.2.2.2.1
  rw [addC2 (by have := hL.2.2.2.2.2.2.2.2.2.2.2; omega) h6 (by omega)]
  exact wp_s ⟨ckS_DS (l := [v, w]) hL.1 h h5, ckS_fR fR_refl⟩
theorem addD3 {ln : Nat → Nat} {N M q cc b : Nat} {e v w y : Int32} {σ : zSt} (hL : LN ln q cc) (hb : b < 2 ^ 29) (h : DS ln q e b σ) : wp (fX0_addWithTwo ln N M (q + 4) v w y σ) (fun _ z => DD ln q e (b + 3) σ z) := by
  obtain ⟨p, h5, h6⟩ := h.2.2.2.2.1
  rw [addC3 (by have := hL.2.2.2.2.2.2.2.2.2.2.2; omega) h6 (by omega)]
  exact wp_s ⟨ckS_DS (l := [v, w, y]) hL.1 h h5, ckS_fR fR_refl⟩
theorem okA_t {q a : Nat} (h : 6 * q - 21 ≤ a ∧ a ≤ 6 * q - 16) : okA q a := Or.inr (Or.inl h)
theorem taS_fR {q s : Nat} {τ σ : zSt} {k a b c : Int32} (hq : q = 9 ∨ q = 10) (h : fR q τ σ) : fR q τ (taS σ q s k a b c) := by
  unfold taS
  exact fR_I (fR_A (fR_A (fR_A (fR_A (fR_A (fR_A h (okA_t (by omega))) (okA_t (by omega))) (okA_t (by omega))) (okA_t (by omega))) (okA_t (by omega))) (okA_t (by omega))) (by unfold okI; omega)
theorem taS_I {q s o j : Nat} {σ : zSt} {k a b c : Int32} (h : ¬ (o = q + 2 ∧ j = 6)) : zI (taS σ q s k a b c) o j = zI σ o j := by
  unfold taS
  rw [zI_I, if_neg h]
  rfl
theorem taS_s {q s : Nat} {σ : zSt} {k a b c : Int32} : zI (taS σ q s k a b c) (q + 2) 6 = nI (s + 1) := by
  unfold taS
  rw [zI_I, if_pos ⟨rfl, rfl⟩]
theorem treeD {ln : Nat → Nat} {N M q cc b : Nat} {e k a c d : Int32} {σ : zSt} (hL : LN ln q cc) (h : DS ln q e b σ) : wp (fX9_add ln N M (q + 2) k a c d σ) (fun _ z => DD ln q e b σ z) := by
  have hh := h
  have hq := hL.1
  obtain ⟨h1, h2, h3, h4, ⟨p, h5, h6⟩, ⟨s, h7, h8⟩, ⟨k', h9, h10⟩, ⟨t, h11, h12⟩, ⟨n, h13, h14⟩⟩ := h
  by_cases hs : s < ln 15
  · rw [treeC hL h8 hs]
    refine wp_s ⟨⟨h1, ?_, ?_, h4, ⟨p, h5, ?_⟩, ⟨s + 1, by omega, taS_s⟩, ⟨k', h9, ?_⟩, ⟨t, h11, ?_⟩, ⟨n, h13, ?_⟩⟩, taS_fR hq fR_refl⟩
    all_goals rw [taS_I (by omega)]; assumption
  · rw [treeC_full hL h8 (by omega) (by have := hL.2.1; omega)]
    exact wp_s ⟨hh, fR_refl⟩
theorem setND {ln : Nat → Nat} {N M q cc b : Nat} {e a v : Int32} {σ : zSt} (hL : LN ln q cc) (h : DS ln q e b σ) : wp (fX9_setNext ln N M (q + 2) a v σ) (fun _ z => DD ln q e b σ z) := by
  have hq := hL.1
  have h15 := hL.2.1
  obtain ⟨s, h7, h8⟩ := h.2.2.2.2.2.1
  unfold fX9_setNext
  rw [show 6 * (q + 2) - 28 = 6 * q - 16 by omega, LN_t hL (a := 6 * q - 16) (by omega) (by omega), h8]
  by_cases c1 : a < 0
  · rw [if_pos c1]; exact wp_s ⟨h, fR_refl⟩
  · rw [if_neg c1]
    have ha : a = nI a.toNatClampNeg := nI_cl (by have := Int32.not_lt.mp c1; rw [Int32.le_iff_toInt_le] at this; exact this)
    have hal : a.toNatClampNeg < 2 ^ 31 := by
      have := Int32.toInt_lt a
      have h0 := Int32.not_lt.mp c1
      rw [Int32.le_iff_toInt_le] at h0
      have h0' : 0 ≤ a.toInt := h0
      rw [Int32.toNatClampNeg]; omega
    by_cases c2 : nI s ≤ a
    · rw [if_pos c2]; exact wp_s ⟨h, fR_refl⟩
    · rw [if_neg c2]
      have c3 : a.toNatClampNeg < s := by
        rw [ha, nI_le' (by omega) hal] at c2
        omega
      rw [if_neg (by rintro (c | c); exact c1 c; omega), bnd_e]
      exact wp_s ⟨DS_A h, fR_A fR_refl (okA_t (by omega))⟩
theorem setCD {ln : Nat → Nat} {N M q cc b : Nat} {e a v : Int32} {σ : zSt} (hL : LN ln q cc) (h : DS ln q e b σ) : wp (fX0_set ln N M (q + 4) a v σ) (fun _ z => DD ln q e b σ z) := by
  unfold fX0_set
  rw [show q + 4 + 32 = q + 36 by omega]
  have hc : ln (q + 36) ≤ 4096 := by have := hL.2.2.2.2.2.2.2.2.2.2.2; omega
  by_cases c1 : a < 0
  · rw [if_pos c1]; exact wp_s ⟨h, fR_refl⟩
  · rw [if_neg c1]
    have h0 := Int32.not_lt.mp c1
    rw [Int32.le_iff_toInt_le] at h0
    have h0' : 0 ≤ a.toInt := h0
    have ha : a = nI a.toNatClampNeg := nI_cl h0'
    have hal : a.toNatClampNeg < 2 ^ 31 := by
      have := Int32.toInt_lt a
      rw [Int32.toNatClampNeg]; omega
    by_cases c2 : nI (ln (q + 36)) ≤ a
    · rw [if_pos c2]; exact wp_s ⟨h, fR_refl⟩
    · rw [if_neg c2]
      have c3 : a.toNatClampNeg < ln (q + 36) := by
        rw [ha, nI_le' (by omega) hal] at c2
        omega
      rw [if_neg (by rintro (c | c); exact c1 c; omega), bnd_e]
      exact wp_s ⟨DS_A h, fR_A fR_refl (Or.inr (Or.inr rfl))⟩
/-- an index that is neither below 0 nor at n or beyond -/
theorem ix_in {a : Int32} {n : Nat} (h1 : ¬ a < 0) (h2 : ¬ nI n ≤ a) (hn : n < 2 ^ 31) : a.toNatClampNeg < n := by
  have h0 := Int32.not_lt.mp h1
  rw [Int32.le_iff_toInt_le] at h0
  have h0' : 0 ≤ a.toInt := h0
  have ha : a = nI a.toNatClampNeg := nI_cl h0'
  have hal : a.toNatClampNeg < 2 ^ 31 := by
    have := Int32.toInt_lt a
    rw [Int32.toNatClampNeg]; omega
  rw [ha, nI_le' hn hal] at h2
  omega
