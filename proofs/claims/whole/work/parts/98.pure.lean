theorem hh_all : ∃ RR : xMem → xMem → Prop, HH RR ∧ RR C0 M0 := sorry
