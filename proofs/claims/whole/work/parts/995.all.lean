/-! the start, and all together -/
def h00 : xT2 := fun r _ => if r = 13 then 1 else 0
theorem RD0 : RD (fun _ => []) (fun _ _ => 0) h00 h00 0 0 0 0 false 0 (fun _ => 0) C0 M0 := by
  have S1 : ∀ k < 6, gi C0 (3 + 2 * k) 1 = 0 ∧ gi C0 (3 + 2 * k) 2 = 0 ∧ gi C0 (3 + 2 * k) 3 = 0 ∧ gi C0 (3 + 2 * k) 4 = 0 := by decide +kernel
  refine ⟨fun k hk => ⟨⟨Nat.zero_le _, fun i hi => absurd hi (Nat.not_lt_zero i)⟩, ?_, ?_⟩, ⟨?_, ?_, ?_⟩, ⟨?_, ?_, ?_, ?_⟩, ⟨?_, ?_, ?_⟩, ⟨?_, ?_, ?_⟩, ?_, ?_⟩
  · obtain ⟨a, b, c, d⟩ := S1 k hk
    refine ⟨a, fun i hi => absurd hi (Nat.not_lt_zero i), b, ?_, d⟩
    rw [c]
    exact (by decide : (0 : Int32) = nI (mostOf []))
  · refine ⟨rfl, ?_, fun i hi => absurd hi (Nat.not_lt_zero i)⟩
    rw [b2i_f (fun q => q rfl)]
    rfl
  · refine ⟨by decide, fun k hk => ⟨(by decide : (0 : Nat) < 1024), fun q => ?_, Nat.zero_le _, Nat.zero_le _⟩⟩
    have q' : (0 : Nat).testBit k = true := q
    rw [Nat.zero_testBit] at q'
    cases q'
  · refine ⟨rfl, fun k hk => ⟨rfl, rfl, rfl⟩⟩
  · intro k hk
    refine ⟨?_, rfl, rfl, rfl⟩
    rw [b2i_f (fun q => by rw [Nat.zero_testBit] at q; cases q)]
    rfl
  · refine ⟨by decide, by decide, by decide, by decide, fun k hk => ⟨(by decide : (0 : Nat) < 6), Nat.zero_le _, Nat.zero_le _, (by decide : (0 : Nat) < 1024), fun q => ?_, fun _ => rfl⟩, fun l hl => ⟨Nat.zero_le _, Nat.zero_le _, Nat.zero_le _, Nat.zero_le _, fun _ => rfl⟩⟩
    have q' : (0 : Nat).testBit k = true := q
    rw [Nat.zero_testBit] at q'
    cases q'
  · intro k hk; exact Nat.zero_le _
  · refine ⟨rfl, rfl, rfl, rfl, rfl, rfl, fun k hk => ⟨rfl, rfl, rfl, rfl⟩, fun l hl => ⟨?_, rfl, rfl, rfl⟩⟩
    rfl
  · refine ⟨fun k hk => ⟨?_, rfl, rfl, rfl, rfl⟩, fun l hl => ⟨?_, rfl, rfl, rfl, rfl⟩, rfl, rfl, rfl, rfl⟩
    · rw [b2i_f (fun q => by have q' : (0 : Nat).testBit k = true := q; rw [Nat.zero_testBit] at q'; cases q')]
      rfl
    · rw [b2i_f (fun q => by have q' : (0 : Nat).testBit l = true := q; rw [Nat.zero_testBit] at q'; cases q')]
      rfl
  · rw [b2i_f (by decide)]; rfl
  · rw [b2i_f (by decide)]; rfl
  · intro q; cases q
  · exact ⟨by decide, fun i hi => absurd hi (Nat.not_lt_zero i)⟩
  · exact ⟨rfl, fun i hi => absurd hi (Nat.not_lt_zero i)⟩
  · exact ⟨rfl, fun i hi => absurd hi (Nat.not_lt_zero i)⟩
  · rfl
  · exact Or.inl ⟨rfl, rfl⟩
theorem okLw_0 : okLw [] [] [] := ⟨Nat.zero_le _, rfl, Nat.zero_le _, fun c hc => (by cases hc), fun w hw => (by cases hw), fun x hx => (by cases hx)⟩
theorem LL00 : LL0 C0 M0 := ⟨[], [], [], [], [], [], okLw_0, okLw_0, ⟨rfl, fun i hi => absurd hi (Nat.not_lt_zero i), fun i hi => absurd hi (Nat.not_lt_zero i)⟩, ⟨rfl, fun i hi => absurd hi (Nat.not_lt_zero i), fun i hi => absurd hi (Nat.not_lt_zero i)⟩, ⟨rfl, fun i hi => absurd hi (Nat.not_lt_zero i), fun i hi => absurd hi (Nat.not_lt_zero i)⟩, ⟨rfl, fun i hi => absurd hi (Nat.not_lt_zero i), fun i hi => absurd hi (Nat.not_lt_zero i)⟩, rfl⟩
theorem RR_start : RRL LL0 C0 M0 := ⟨⟨_, _, _, _, _, _, _, _, _, _, _, RD0⟩, LL00⟩
theorem HH_all : HH (RRL LL0) := ⟨feed_ok LL0_c, story_ok LL0_c, law_ok, end_ok LL0_c, teller_ok LL0_c, listener_ok LL0_c, evenings_ok LL0_c LL0_s, tried_ok LL0_c LL0_s, other_ok LL0_c LL0_s, copy_ok, first_ok LL0_c LL0_s, storyIs_ok, open_ok, endIs_ok LL0_c LL0_s, tellerIs_ok LL0_c LL0_s, listenerIs_ok, cheapest_ok LL0_c LL0_s, buys_ok LL0_c LL0_s, fitting_ok LL0_c, wouldDo_ok, series_ok LL0_c, knots_ok, winter_ok LL0_c, lent_ok LL0_c, forged_ok, yawns_ok LL0_c, book_ok LL0_c, seed_fin LL0_c, keep_ok LL0_c, undo_ok LL0_c, check_ok LL0_c, count_ok LL0_7⟩
