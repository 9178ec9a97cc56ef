/-! THE TEXT BY ITSELF: a FUNCTION is entered, whole -/
def lcE (lc vl : Nat → Int32) (e np n : Nat) : Nat → Int32 := fun i => if i < e then lc i else if i < e + np then vl (n + (i - e)) else 0
section
variable {ln : Nat → Nat} {N M mc io c m n k fc e f : Nat} {P : yP} {vl lc gb : Nat → Int32} {I : List aI} {Fr : List (Nat × Nat)} {σ τ : zSt}
theorem enC (hN : 5000 ≤ N) (hl : LM ln mc io) (hT : TRc ln c (nst P P.1.2.2.2.2) σ) (hk : pKm P m) (hf : isF P f) (hfn : fnR P c σ f) (h : XC P.2.1 vl lc gb (n + npF P f) k fc e σ) (hfc : fc < mc + 16) (hkk : k + 2 ≤ mc + 15) (he : e ≤ mc) (hn : n + npF P f < mc + 16) : (e + npF P f + P.2.2.2.2 f ≤ mc → ∃ σ', fX10_enter ln N M (nI (nst P f)) σ = some ((), σ') ∧ fWC σ σ' ∧ XC P.2.1 vl (lcE lc vl e (npF P f) n) gb n (k + 2) (fc + 1) (e + npF P f + P.2.2.2.2 f) σ' ∧ zA σ' 28 k = 6 ∧ zA σ' 28 (k + 1) = 4 ∧ zA σ' 29 (k + 1) = nI (nst P f) ∧ zA σ' 32 fc = nI e ∧ (∀ p, p < k → zA σ' 28 p = zA σ 28 p ∧ zA σ' 29 p = zA σ 29 p) ∧ (∀ p, p < fc → zA σ' 32 p = zA σ 32 p) ∧ (∀ q, zI σ' 6 q = zI σ 6 q) ∧ (∀ p, zA σ' 25 p = zA σ 25 p)) ∧ (mc < e + npF P f + P.2.2.2.2 f → fX10_enter ln N M (nI (nst P f)) σ = some ((), zsI σ 8 14 4)) := by
  have hc9 := hT.1
  have hmc := hl.2.2.2.2.2.2.2.2.2.1
  have l8 := hl.2.2.2.2.2.2.2.1
  have l9 := hl.2.2.2.2.2.2.2.2.1
  obtain ⟨q, A, r, f1, f2, f3, f4, f5, f6, f7, f8, f9⟩ := hfn
  have hnp : q = npF P f := by unfold npF; rw [f1, nI_clamp (by omega)]
  rw [hnp] at f5
  have hms := hk.2.1 f hf.1 hf.2
  have hnp8 := (hk.1.1 f hf).2.1
  have hn1 := nst_s (P := P) hf.2
  have hn2 := nst_mono (P := P) (show f + 1 ≤ P.1.2.2.2.2 from hf.1)
  rw [f3, cN_N] at hn1
  have hlt : nst P f < nst P P.1.2.2.2.2 := by omega
  have hmax : ∀ x : Nat, x < 2 ^ 31 → (if (0 : Int32) < nI x then nI x else 0) = nI x := fun x hx => by
    by_cases c0 : (0 : Int32) < nI x
    · rw [if_pos c0]
    · rw [if_neg c0]
      rw [show (0 : Int32) = nI 0 from rfl, nI_ltI (by omega) hx] at c0
      rw [show x = 0 by omega]
      rfl
  have hE : fX10_enter ln N M (nI (nst P f)) σ = (if ((nI mc) - (nI e)) < (nI (npF P f + P.2.2.2.2 f)) then fX10_enter_b54 ln N M σ else (if (nI fc) < (nI (mc + 16)) then fX10_enter_b63 ln N M N (nI (nst P f)) (nI (npF P f)) (nI (npF P f + P.2.2.2.2 f)) 0 σ else fX10_enter_b54 ln N M σ)) := by
    unfold fX10_enter
    rw [rbT hT.1 hT.2.1, (tkC hT hlt).2.1, obd_s, f5, hmax _ (by omega), bnd_e, rbT hT.1 hT.2.1, (tkC hT hlt).2.2.2.1, obd_s, f7, hmax _ (by omega), nI_add, bnd_e, l8, l9, h.2.2.2.1, h.2.2.1, bnd_e]
  have hcmp : ((nI mc) - (nI e)) < (nI (npF P f + P.2.2.2.2 f)) ↔ mc < e + npF P f + P.2.2.2.2 f := by
    rw [show nI mc - nI e = nI (mc - e) by rw [show nI mc = nI (mc - e + e) by congr 1; omega]; exact nI_sb _ _, nI_ltI (by omega) (by omega)]
    omega
  constructor
  · intro hfit
    rw [hE, if_neg (fun w => by rw [hcmp] at w; omega), if_pos ((nI_ltI (by omega) (by omega)).mpr hfc), show (0 : Int32) = nI 0 from rfl]
    obtain ⟨z, z1, z2, z3, z4, z5, z6, z7, z8⟩ := en63 (N := N) (M := M) (x1 := nI (nst P f)) (x2 := nI (npF P f)) (s := npF P f + P.2.2.2.2 f) hl (by omega) (npF P f + P.2.2.2.2 f) 0 N σ h (by omega) (by omega)
    obtain ⟨y, y1, y2, y3, y4, y5, y6, y7, y8⟩ := en92 (N := N) (M := M) (n := n) (x1 := nI (nst P f)) (s := npF P f + P.2.2.2.2 f) hl (by omega) (npF P f) N z z2 (by omega) (by omega) hn
    have hof : fX10_openFrame ln N M (nI (npF P f + P.2.2.2.2 f)) y = some ((), zsI (zsI (zsA y 32 fc (nI e)) 8 12 (nI (fc + 1))) 8 13 (nI (e + (npF P f + P.2.2.2.2 f)))) := by
      unfold fX10_openFrame
      rw [l9, y2.2.2.1, if_neg (nI_pos (by omega)), if_neg (fun w => by rw [nI_le' (by omega) (by omega)] at w; omega), nI_clamp (by omega), if_neg (ixN (by omega) (by omega)), y2.2.2.2.1, bnd_e, zI_A, y2.2.2.1, show nI fc + (1 : Int32) = nI (fc + 1) from nI_add _ 1, bnd_e, show zI (zsI (zsA y 32 fc (nI e)) 8 12 (nI (fc + 1))) 8 13 = nI e by rw [zI_I, if_neg (by omega), zI_A]; exact y2.2.2.2.1, nI_add, bnd_e]
    have x11 : zI (zsI (zsI (zsA y 32 fc (nI e)) 8 12 (nI (fc + 1))) 8 13 (nI (e + (npF P f + P.2.2.2.2 f)))) 8 11 = nI k := by rw [zI_I, if_neg (by omega), zI_I, if_neg (by omega), zI_A]; exact y2.2.1
    rw [z1, y1, hof, obd_s, pushItC hl x11 (by omega), obd_s, pushItC (k := k + 1) hl (by rw [zI_I, if_pos ⟨rfl, rfl⟩]) (by omega), obd_s]
    have zI' : ∀ o q, ¬ (o = 8 ∧ q = 10) → zI y o q = zI σ o q := fun o q hq => (y3 o q hq).trans (by unfold zI; rw [z3])
    have zA' : ∀ a i, a ≠ 31 → zA y a i = zA σ a i := fun a i ha => (y7 a i ha).trans (z7 a i ha)
    refine ⟨_, rfl, ⟨fun o q c1 c2 => ?_, fun o q => ?_, fun o q => ?_, fun a i c1 c2 => ?_, fun a i => ?_⟩, ⟨?_, ?_, ?_, ?_, fun i hi => ?_, fun i hi => ?_, fun i hi => ?_, ?_⟩, ?_, ?_, ?_, ?_, fun p hp => ⟨?_, ?_⟩, fun p hp => ?_, fun q => ?_, fun p => ?_⟩
    · rw [zI_I, if_neg (by omega), zI_A, zI_A, zI_I, if_neg (by omega), zI_A, zI_A, zI_I, if_neg (by omega), zI_I, if_neg (by omega), zI_A]; exact zI' o q (by omega)
    · show zL y o q = _; unfold zL; rw [y4, z4]
    · show zR y o q = _; unfold zR; rw [y5, z5]
    · rw [zA_I, zA_A, if_neg (by omega), zA_A, if_neg (by omega), zA_I, zA_A, if_neg (by omega), zA_A, if_neg (by omega), zA_I, zA_I, zA_A, if_neg (by omega)]; exact zA' a i (by omega)
    · show zB y a i = _; unfold zB; rw [y6, z6]
    · rw [zI_I, if_neg (by omega), zI_A, zI_A, zI_I, if_neg (by omega), zI_A, zI_A, zI_I, if_neg (by omega), zI_I, if_neg (by omega), zI_A]; exact y2.1
    · rw [zI_I, if_pos ⟨rfl, rfl⟩]
    · rw [zI_I, if_neg (by omega), zI_A, zI_A, zI_I, if_neg (by omega), zI_A, zI_A, zI_I, if_neg (by omega), zI_I, if_pos ⟨rfl, rfl⟩]
    · rw [zI_I, if_neg (by omega), zI_A, zI_A, zI_I, if_neg (by omega), zI_A, zI_A, zI_I, if_pos ⟨rfl, rfl⟩]; congr 1; omega
    · rw [zA_I, zA_A, if_neg (by omega), zA_A, if_neg (by omega), zA_I, zA_A, if_neg (by omega), zA_A, if_neg (by omega), zA_I, zA_I, zA_A, if_neg (by omega)]; exact y2.2.2.2.2.1 i hi
    · rw [zA_I, zA_A, if_neg (by omega), zA_A, if_neg (by omega), zA_I, zA_A, if_neg (by omega), zA_A, if_neg (by omega), zA_I, zA_I, zA_A, if_neg (by omega), y8 i, z8 i]
      unfold lcE
      by_cases c1 : i < e
      · rw [if_neg (by omega), if_neg (by omega), if_pos c1]; exact h.2.2.2.2.2.1 i c1
      · rw [if_neg c1]
        by_cases c2 : i < e + npF P f
        · rw [if_pos (by omega), if_pos c2]
        · rw [if_neg (by omega), if_pos (by omega), if_neg c2]
    · rw [zA_I, zA_A, if_neg (by omega), zA_A, if_neg (by omega), zA_I, zA_A, if_neg (by omega), zA_A, if_neg (by omega), zA_I, zA_I, zA_A, if_neg (by omega)]; exact y2.2.2.2.2.2.2.1 i hi
    · rw [zI_I, if_neg (by omega), zI_A, zI_A, zI_I, if_neg (by omega), zI_A, zI_A, zI_I, if_neg (by omega), zI_I, if_neg (by omega), zI_A]; exact y2.2.2.2.2.2.2.2
    · rw [zA_I, zA_A, if_neg (by omega), zA_A, if_neg (by omega), zA_I, zA_A, if_neg (by omega), zA_A, if_pos ⟨rfl, rfl⟩]
    · rw [zA_I, zA_A, if_neg (by omega), zA_A, if_pos ⟨rfl, rfl⟩]
    · rw [zA_I, zA_A, if_pos ⟨rfl, rfl⟩]
    · rw [zA_I, zA_A, if_neg (by omega), zA_A, if_neg (by omega), zA_I, zA_A, if_neg (by omega), zA_A, if_neg (by omega), zA_I, zA_I, zA_A, if_pos ⟨rfl, rfl⟩]
    · rw [zA_I, zA_A, if_neg (by omega), zA_A, if_neg (by omega), zA_I, zA_A, if_neg (by omega), zA_A, if_neg (by omega), zA_I, zA_I, zA_A, if_neg (by omega)]; exact zA' _ _ (by omega)
    · rw [zA_I, zA_A, if_neg (by omega), zA_A, if_neg (by omega), zA_I, zA_A, if_neg (by omega), zA_A, if_neg (by omega), zA_I, zA_I, zA_A, if_neg (by omega)]; exact zA' _ _ (by omega)
    · rw [zA_I, zA_A, if_neg (by omega), zA_A, if_neg (by omega), zA_I, zA_A, if_neg (by omega), zA_A, if_neg (by omega), zA_I, zA_I, zA_A, if_neg (by omega)]; exact zA' _ _ (by omega)
    · rw [zI_I, if_neg (by omega), zI_A, zI_A, zI_I, if_neg (by omega), zI_A, zI_A, zI_I, if_neg (by omega), zI_I, if_neg (by omega), zI_A]; exact zI' _ _ (by omega)
    · rw [zA_I, zA_A, if_neg (by omega), zA_A, if_neg (by omega), zA_I, zA_A, if_neg (by omega), zA_A, if_neg (by omega), zA_I, zA_I, zA_A, if_neg (by omega)]; exact zA' _ _ (by omega)
  · intro hno
    rw [hE, if_pos (hcmp.mpr hno)]
    unfold fX10_enter_b54
    rw [bnd_e]
end
