theorem zR_1a {d : Nat} (h : 1 ≤ d) : 1 ≤ (zRm d).frames := h
theorem zR_1b {d n : Nat} (h : 1 ≤ d) (hn : n ≤ 8) : n + 13 ≤ (zRm d).locals := by
  show n + 13 ≤ 60 * d
  omega
