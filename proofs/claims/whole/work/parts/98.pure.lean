theorem pure_part : ∃ INV : Mem → Prop, Steps9 INV ∧ Starts INV := sorry
