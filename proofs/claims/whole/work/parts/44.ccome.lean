/-! PURE: the class comes to a token -/
def lxPairC (c d : Int32) : Int32 := if d = 61 then (if c = 33 then 14 else if c = 60 then 16 else if c = 61 then 13 else if c = 62 then 18 else -1) else if c = d then (if c = 38 then 8 else if c = 60 then 19 else if c = 62 then 20 else if c = 124 then 9 else -1) else -1
theorem ite_s {p : Prop} [Decidable p] {a b : Int32} {σ : zSt} : (if p then some (a, σ) else some (b, σ)) = some ((if p then a else b), σ) := by
  by_cases h : p
  · rw [if_pos h, if_pos h]
  · rw [if_neg h, if_neg h]
def lxSignC (c : Int32) : Int32 := if c = 33 then 25 else if c = 34 then -1 else if c = 35 then -1 else if c = 36 then -1 else if c = 37 then 28 else if c = 38 then 12 else if c = 39 then -1 else if c = 40 then 49 else if c = 41 then 50 else if c = 42 then 23 else if c = 43 then 21 else if c = 44 then 55 else if c = 45 then 22 else if c = 46 then -1 else if c = 47 then 27 else if c = 48 then -1 else if c = 49 then -1 else if c = 50 then -1 else if c = 51 then -1 else if c = 52 then -1 else if c = 53 then -1 else if c = 54 then -1 else if c = 55 then -1 else if c = 56 then -1 else if c = 57 then -1 else if c = 58 then -1 else if c = 59 then 56 else if c = 60 then 15 else if c = 61 then 57 else if c = 62 then 17 else if c = 63 then -1 else if c = 64 then -1 else if c = 65 then -1 else if c = 66 then -1 else if c = 67 then -1 else if c = 68 then -1 else if c = 69 then -1 else if c = 70 then -1 else if c = 71 then -1 else if c = 72 then -1 else if c = 73 then -1 else if c = 74 then -1 else if c = 75 then -1 else if c = 76 then -1 else if c = 77 then -1 else if c = 78 then -1 else if c = 79 then -1 else if c = 80 then -1 else if c = 81 then -1 else if c = 82 then -1 else if c = 83 then -1 else if c = 84 then -1 else if c = 85 then -1 else if c = 86 then -1 else if c = 87 then -1 else if c = 88 then -1 else if c = 89 then -1 else if c = 90 then -1 else if c = 91 then 53 else if c = 92 then -1 else if c = 93 then 54 else if c = 94 then 11 else if c = 95 then -1 else if c = 96 then -1 else if c = 97 then -1 else if c = 98 then -1 else if c = 99 then -1 else if c = 100 then -1 else if c = 101 then -1 else if c = 102 then -1 else if c = 103 then -1 else if c = 104 then -1 else if c = 105 then -1 else if c = 106 then -1 else if c = 107 then -1 else if c = 108 then -1 else if c = 109 then -1 else if c = 110 then -1 else if c = 111 then -1 else if c = 112 then -1 else if c = 113 then -1 else if c = 114 then -1 else if c = 115 then -1 else if c = 116 then -1 else if c = 117 then -1 else if c = 118 then -1 else if c = 119 then -1 else if c = 120 then -1 else if c = 121 then -1 else if c = 122 then -1 else if c = 123 then 51 else if c = 124 then 10 else if c = 125 then 52 else if c = 126 then 26 else -1
theorem pairC {ln : Nat → Nat} {N M : Nat} {σ : zSt} (c d : Int32) : fX7_kindOfPair ln N M c d σ = some (lxPairC c d, σ) := by
  unfold fX7_kindOfPair lxPairC
  repeat' split
  all_goals rfl
theorem signC {ln : Nat → Nat} {N M : Nat} {σ : zSt} (c : Int32) : fX7_kindOfSign ln N M c σ = some (lxSignC c, σ) := by
  unfold fX7_kindOfSign lxSignC
  simp only [ite_s]
theorem isLetterC {ln : Nat → Nat} {N M : Nat} {σ : zSt} (c : Int32) : fX7_isLetter ln N M c σ = some (if lxL c = true then (1 : Int32) else 0, σ) := by
  unfold fX7_isLetter fX7_isLetter_b12 fX7_isLetter_b24 fX7_isLetter_b30 lxL
  simp only [decide_eq_true_eq, Int32.lt_iff_toInt_lt, Int32.le_iff_toInt_le, ← Int32.toInt_inj, show (97 : Int32).toInt = 97 from rfl, show (122 : Int32).toInt = 122 from rfl, show (65 : Int32).toInt = 65 from rfl, show (90 : Int32).toInt = 90 from rfl, show (95 : Int32).toInt = 95 from rfl]
  repeat' split
  all_goals first | rfl | (exfalso; omega)
/-- the state behind come(): end, place, kind; a word and a number if there is one; what is wrong -/
def comS (σ : zSt) (e q : Nat) (k : Int32) (w nu : Option Int64) : zSt :=
  let σ1 := zsI (zsI (zsI σ 1 2 (nI e)) 1 4 (nI q)) 1 3 k
  let σ2 := match w with
    | some t => zsL σ1 1 5 t
    | none => σ1
  let σ3 := match nu with
    | some t => zsL σ2 1 6 t
    | none => σ2
  if k = -1 then zsI σ3 1 7 (1 + 16 * nI q) else σ3
/-- the class's token from p on: end, place, kind, word, number -/
def lxTokC (x : Nat → Int32) (n p : Nat) : Nat × Nat × Int32 × Option Int64 × Option Int64 :=
  let q := lxRun lxB x (n - p) p
  if n ≤ q then (q, q, 58, none, none)
  else if lxD (x q) = true then (lxRun lxD x (n - q) q, q, (if 10 < lxRun lxD x (n - q) q - q then -1 else 41), none, some (lxNuC x (min (lxRun lxD x (n - q) q - q) 10) q 0))
  else if lxL (x q) = true then (lxRun lxLD x (n - q) q, q, (if 8 < lxRun lxLD x (n - q) q - q then -1 else lxKwC (lxWd x (lxRun lxLD x (n - q) q - q) q 0)), some (lxWd x (lxRun lxLD x (n - q) q - q) q 0), none)
  else if lxPairC (x q) (if q + 1 < n then x (q + 1) else 0) = -1 then (q + 1, q, lxSignC (x q), none, none)
  else (q + 2, q, lxPairC (x q) (if q + 1 < n then x (q + 1) else 0), none, none)
theorem failC {ln : Nat → Nat} {N M : Nat} {σ : zSt} (k p : Int32) (h : zI σ 1 7 = 0) : fX7_fail ln N M k p σ = some ((), zsI (zsI σ 1 7 (k + 16 * p)) 1 3 (-1)) := by
  unfold fX7_fail fX7_fail_b17
  rw [h, if_pos rfl, bnd_e, bnd_e]
theorem failC_not {ln : Nat → Nat} {N M : Nat} {σ : zSt} (k p : Int32) (h : ¬ zI σ 1 7 = 0) : fX7_fail ln N M k p σ = some ((), zsI σ 1 3 (-1)) := by
  unfold fX7_fail fX7_fail_b17
  rw [if_neg h, bnd_e]
theorem come167 {ln : Nat → Nat} {N M q : Nat} {σ : zSt} {k : Int32} (h3 : zI σ 1 3 = k) (h4 : zI σ 1 4 = nI q) (h7 : zI σ 1 7 = 0) : fX7_come_b167 ln N M σ = some ((), if k = -1 then zsI σ 1 7 (1 + 16 * nI q) else σ) := by
  unfold fX7_come_b167
  rw [h3]
  by_cases e : k = -1
  · have h3' : zI (zsI σ 1 7 (1 + 16 * nI q)) 1 3 = -1 := by rw [zI_I, if_neg (by decide), h3, e]
    rw [if_pos e, if_pos e, h4, failC _ _ h7, obd_s]
    have := zsI_self (zsI σ 1 7 (1 + 16 * nI q)) 1 3
    rw [h3'] at this
    rw [this]
  · rw [if_neg e, if_neg e]
theorem comeC_not {ln : Nat → Nat} {N M : Nat} {σ : zSt} (h : ¬ zI σ 1 7 = 0) : fX7_come ln N M σ = some ((), σ) := by
  unfold fX7_come
  rw [if_neg h]
theorem comeC {ln : Nat → Nat} {N M n p : Nat} {x : Nat → Int32} {σ : zSt} (h : srcC x n ln σ) (h2 : zI σ 1 2 = nI p) (h7 : zI σ 1 7 = 0) (hp : p ≤ n) (hN : n + 20 ≤ N) :
    fX7_come ln N M σ = some ((), comS σ (lxTokC x n p).1 (lxTokC x n p).2.1 (lxTokC x n p).2.2.1 (lxTokC x n p).2.2.2.1 (lxTokC x n p).2.2.2.2) := by
  obtain ⟨r1, r2⟩ := lxRun_le lxB x (n - p) p
  have hn := h.2.1
  have hc := h.2.2.1
  unfold fX7_come fX7_skipBlanks lxTokC
  rw [h7, if_pos rfl, skipC N p σ h h2 hp (by omega), obd_s, bnd_e]
  generalize lxRun lxB x (n - p) p = q at r1 r2 ⊢
  have a2 : zI (zsI σ 1 2 (nI q)) 1 2 = nI q := zI_s _ _ _ _
  rw [a2]
  generalize hσ : zsI (zsI σ 1 2 (nI q)) 1 4 (nI q) = τ
  have hs : srcC x n ln τ := by rw [← hσ]; exact srcC_I (srcC_I h 1 2 _ (by decide)) 1 4 _ (by decide)
  have b2 : zI τ 1 2 = nI q := by rw [← hσ, zI_I, if_neg (by decide)]; exact a2
  have b4 : zI τ 1 4 = nI q := by rw [← hσ]; exact zI_s _ _ _ _
  have b7 : zI τ 1 7 = 0 := by rw [← hσ, zI_I, if_neg (by decide), zI_I, if_neg (by decide)]; exact h7
  have hset : ∀ (e : Nat), zsI (zsI σ 1 2 (nI e)) 1 4 (nI q) = zsI τ 1 2 (nI e) := fun e => by
    rw [← hσ, zsI_swap _ 1 4 1 2 _ _ (by decide), zsI_I]
  rw [b2, hs.1]
  by_cases e : n ≤ q
  · simp only [if_pos e]
    rw [if_neg (nI_nlt e (by omega)), bnd_e]
    unfold comS
    simp only []
    rw [if_neg (by decide), hset, ← b2, zsI_self]
  · simp only [if_neg e]
    have hx : zA τ 15 q = x q := hs.2.2.2 q (by omega)
    have hin := ix_ok (n := q) (k := ln 15) (by omega) (by omega)
    rw [if_pos (nI_lt (by omega) (by omega)), if_neg hin, bnd_e, nI_clamp (by omega), hx, nI_1]
    have h76 : ∀ d : Int32, fX7_come_b76 ln N M (x q) d τ = some ((), if lxD (x q) = true then comS σ (lxRun lxD x (n - q) q) q (if 10 < lxRun lxD x (n - q) q - q then -1 else 41) none (some (lxNuC x (min (lxRun lxD x (n - q) q - q) 10) q 0)) else if lxL (x q) = true then comS σ (lxRun lxLD x (n - q) q) q (if 8 < lxRun lxLD x (n - q) q - q then -1 else lxKwC (lxWd x (lxRun lxLD x (n - q) q - q) q 0)) (some (lxWd x (lxRun lxLD x (n - q) q - q) q 0)) none else if lxPairC (x q) d = -1 then comS σ (q + 1) q (lxSignC (x q)) none none else comS σ (q + 2) q (lxPairC (x q) d) none none) := by
      intro d
      unfold fX7_come_b76
      rw [isDigitC, obd_s]
      by_cases c1 : lxD (x q) = true
      · rw [if_pos c1, if_neg (by decide), if_pos c1, numberC hs b2 b4 (by omega) hN, obd_s, bnd_e]
        generalize (if 10 < lxRun lxD x (n - q) q - q then (-1 : Int32) else 41) = k
        generalize lxRun lxD x (n - q) q = e2
        generalize lxNuC x _ q 0 = t
        rw [come167 (k := k) (q := q) (zI_s _ _ _ _) (by rw [zI_I, if_neg (by decide), zI_L, zI_I, if_neg (by decide)]; exact b4) (by rw [zI_I, if_neg (by decide), zI_L, zI_I, if_neg (by decide)]; exact b7)]
        unfold comS
        simp only [hset, zsIL]
      · rw [if_neg c1, if_pos rfl, if_neg c1, isLetterC, obd_s]
        by_cases c2 : lxL (x q) = true
        · rw [if_pos c2, if_neg (by decide), if_pos c2, wordC hs b2 b4 (by omega) hN, obd_s, bnd_e]
          generalize lxWd x _ q 0 = t
          generalize (if 8 < lxRun lxLD x (n - q) q - q then (-1 : Int32) else lxKwC t) = k
          generalize lxRun lxLD x (n - q) q = e2
          rw [come167 (k := k) (q := q) (zI_s _ _ _ _) (by rw [zI_I, if_neg (by decide), zI_L, zI_I, if_neg (by decide)]; exact b4) (by rw [zI_I, if_neg (by decide), zI_L, zI_I, if_neg (by decide)]; exact b7)]
          unfold comS
          simp only [hset, zsIL]
        · rw [if_neg c2, if_pos rfl, if_neg c2, pairC, obd_s, bnd_e, zI_s]
          have d2 : zI (zsI τ 1 3 (lxPairC (x q) d)) 1 2 = nI q := by rw [zI_I, if_neg (by decide)]; exact b2
          by_cases c3 : lxPairC (x q) d = -1
          · rw [if_pos c3, if_pos c3, d2]
            unfold fX7_come_b140
            have d3 : zI (zsI (zsI τ 1 3 (lxPairC (x q) d)) 1 2 (nI q + 1)) 1 3 = -1 := by rw [zI_I, if_neg (by decide), zI_s, c3]
            rw [bnd_e, d3, if_pos rfl, signC, obd_s]
            unfold fX7_come_b164
            rw [bnd_e, nI_1]
            generalize lxSignC (x q) = k
            rw [zsI_swap _ 1 3 1 2 _ _ (by decide), zsI_I, come167 (k := k) (q := q) (zI_s _ _ _ _) (by rw [zI_I, if_neg (by decide), zI_I, if_neg (by decide)]; exact b4) (by rw [zI_I, if_neg (by decide), zI_I, if_neg (by decide)]; exact b7)]
            unfold comS
            simp only [hset]
          · rw [if_neg c3, if_neg c3, d2]
            unfold fX7_come_b140
            have d3 : zI (zsI (zsI τ 1 3 (lxPairC (x q) d)) 1 2 (nI q + 2)) 1 3 = lxPairC (x q) d := by rw [zI_I, if_neg (by decide), zI_s]
            rw [bnd_e, d3, if_neg c3]
            unfold fX7_come_b164
            rw [bnd_e, show nI q + 2 = nI (q + 2) from nI_add q 2]
            generalize lxPairC (x q) d = k
            rw [zsI_swap _ 1 3 1 2 _ _ (by decide), zsI_I, come167 (k := k) (q := q) (zI_s _ _ _ _) (by rw [zI_I, if_neg (by decide), zI_I, if_neg (by decide)]; exact b4) (by rw [zI_I, if_neg (by decide), zI_I, if_neg (by decide)]; exact b7)]
            unfold comS
            simp only [hset]
    by_cases e1 : q + 1 < n
    · rw [if_neg (fun z => absurd ((nI_le' (by omega) (by omega)).mp z) (by omega)), if_neg (ix_ok (by omega) (by omega)), nI_clamp (by omega), hs.2.2.2 (q + 1) e1, h76, if_pos e1]
      repeat' split
      all_goals rfl
    · rw [if_pos ((nI_le' (by omega) (by omega)).mpr (by omega)), h76, if_neg e1]
      repeat' split
      all_goals rfl
