theorem cpyok4 : cpyok 0 0 4 4 4 := ⟨by decide, by decide, by decide, by decide, by decide⟩
theorem cpyok10 : cpyok 0 0 10 10 10 := ⟨by decide, by decide, by decide, by decide, by decide⟩
theorem gi_cpy4 (C : xMem) (a b c i : Nat) : gi (cpy C a b 0 0 4) c i = if c = b ∧ i < 4 then gi C a i else gi C c i := by
  unfold gi cpy sr
  by_cases h : c = b
  · subst h
    rw [if_pos rfl]
    unfold va_cpy
    by_cases q : i < 4
    · rw [if_pos ⟨rfl, q⟩]
      simp
      intro z
      exact absurd z (by omega)
    · rw [if_neg (fun z => q z.2)]
      simp
      intro z
      exact absurd z (by omega)
  · rw [if_neg h, if_neg (fun z => h z.1)]
