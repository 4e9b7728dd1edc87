theorem hh_all : ∃ RR : xMem → xMem → Prop, HH RR ∧ RR C0 M0 := ⟨RRL LL0, HH_all, RR_start⟩
