theorem pure_all : ∃ Rel : Hp → Hp → Prop, AllStp Rel ∧ Rel h00 h01 := sorry
