/-! THE START: a board stays -/
theorem BdN.keep {u v : Hs × Mm} {a0 p : Nat} {L : List Nat} (s : BdN u a0 p) (e : zL v.1 = zL u.1 ++ L) (hp : p + 146 ≤ (zL u.1).length) (F : ∀ b k, ok u.1 b k → k ≠ 8 → Fr b u.1 u.2 v) : BdN v a0 p := by
  obtain ⟨s0, s1, s2, s3, s4, s5, s6, s7, s8⟩ := s
  have f0 := F _ _ s0 (by decide)
  have f3 := F _ _ s3 (by decide)
  have f4 := F _ _ s4 (by decide)
  unfold BdN
  rw [at_app e (show p < _ by omega), at_app e (show p + 1 < _ by omega)]
  refine ⟨f0.ok s0, by rw [f0.2.2.2.1]; exact s1, by rw [f0.2.2.2.1]; exact s2, f3.ok s3, f4.ok s4, by rw [f3.2.2.1]; exact s5, by rw [f4.2.2.1]; exact s6, fun n hn => ⟨?_, (s7 n hn).2.keep e (by omega) fun b k hb hk => F b k hb (by omega)⟩, fun n hn => ⟨?_, (s8 n hn).2.keep e (by omega) fun b k hb hk => F b k hb (by omega)⟩⟩
  · rw [f3.2.2.2.1, at_app e (by omega)]; exact (s7 n hn).1
  · rw [f4.2.2.2.1, at_app e (by omega)]; exact (s8 n hn).1
