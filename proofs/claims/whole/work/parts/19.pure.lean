def zN : Nat := 1000000
def zRel (SX SR : zSt) : Prop := True
theorem p_start : zRel zX0 zR0 := sorry
theorem p_feed {SX SR : zSt} (hRel : zRel SX SR) (p1 : Int32) (p2 : Int32) : ∃ (r : Int32) (SX1 SR1 : zSt), fX11_feed zN p1 p2 SX = some (r, SX1) ∧ fX12_feed zN p1 p2 SR = some (r, SR1) ∧ zRel SX1 SR1 := sorry
theorem p_place {SX SR : zSt} (hRel : zRel SX SR)  : ∃ (r : Int32) (SX1 SR1 : zSt), fX11_place zN SX = some (r, SX1) ∧ fX12_place zN SR = some (r, SR1) ∧ zRel SX1 SR1 := sorry
theorem p_cell {SX SR : zSt} (hRel : zRel SX SR) (p1 : Int32) (p2 : Int32) (p3 : Int32) (p4 : Int32) : ∃ (r : Int32) (SX1 SR1 : zSt), fX11_cell zN p1 p2 p3 p4 SX = some (r, SX1) ∧ fX12_cell zN p1 p2 p3 p4 SR = some (r, SR1) ∧ zRel SX1 SR1 := sorry
theorem p_mend {SX SR : zSt} (hRel : zRel SX SR) (p1 : Int32) (p2 : Int32) (p3 : Int32) (p4 : Int32) : ∃ (r : Int32) (SX1 SR1 : zSt), fX11_mend p1 p2 p3 p4 SX = some (r, SX1) ∧ fX12_mend zN p1 p2 p3 p4 SR = some (r, SR1) ∧ zRel SX1 SR1 := sorry
theorem p_law {SX SR : zSt} (hRel : zRel SX SR)  : ∃ (r : Int32) (SX1 SR1 : zSt), fX11_law zN SX = some (r, SX1) ∧ fX12_law zN SR = some (r, SR1) ∧ zRel SX1 SR1 := sorry
theorem p_force {SX SR : zSt} (hRel : zRel SX SR) (p1 : Int32) : ∃ (r : Int32) (SX1 SR1 : zSt), fX11_force p1 SX = some (r, SX1) ∧ fX12_force p1 SR = some (r, SR1) ∧ zRel SX1 SR1 := sorry
theorem p_sky {SX SR : zSt} (hRel : zRel SX SR) (p1 : Int32) (p2 : Int32) : ∃ (r : Int32) (SX1 SR1 : zSt), fX11_sky p1 p2 SX = some (r, SX1) ∧ fX12_sky p1 p2 SR = some (r, SR1) ∧ zRel SX1 SR1 := sorry
theorem p_rise {SX SR : zSt} (hRel : zRel SX SR) (p1 : Int32) (p2 : Int32) : ∃ (r : Int32) (SX1 SR1 : zSt), fX11_rise zN p1 p2 SX = some (r, SX1) ∧ fX12_rise zN p1 p2 SR = some (r, SR1) ∧ zRel SX1 SR1 := sorry
theorem p_person {SX SR : zSt} (hRel : zRel SX SR) (p1 : Int32) (p2 : Int32) : ∃ (r : Int32) (SX1 SR1 : zSt), fX11_person p1 p2 SX = some (r, SX1) ∧ fX12_person p1 p2 SR = some (r, SR1) ∧ zRel SX1 SR1 := sorry
theorem p_set {SX SR : zSt} (hRel : zRel SX SR) (p1 : Int32) (p2 : Int32) (p3 : Int32) : ∃ (r : Int32) (SX1 SR1 : zSt), fX11_set p1 p2 p3 SX = some (r, SX1) ∧ fX12_set zN p1 p2 p3 SR = some (r, SR1) ∧ zRel SX1 SR1 := sorry
theorem p_of {SX SR : zSt} (hRel : zRel SX SR) (p1 : Int32) (p2 : Int32) : ∃ (r : Int32) (SX1 SR1 : zSt), fX11_of p1 p2 SX = some (r, SX1) ∧ fX12_of p1 p2 SR = some (r, SR1) ∧ zRel SX1 SR1 := sorry
theorem p_margin {SX SR : zSt} (hRel : zRel SX SR) (p1 : Int32) (p2 : Int32) (p3 : Int32) (p4 : Int32) : ∃ (r : Int32) (SX1 SR1 : zSt), fX11_margin zN p1 p2 p3 p4 SX = some (r, SX1) ∧ fX12_margin zN p1 p2 p3 p4 SR = some (r, SR1) ∧ zRel SX1 SR1 := sorry
theorem p_over {SX SR : zSt} (hRel : zRel SX SR) (p1 : Int32) (p2 : Int32) (p3 : Int32) : ∃ (r : Int32) (SX1 SR1 : zSt), fX11_over zN p1 p2 p3 SX = some (r, SX1) ∧ fX12_over zN p1 p2 p3 SR = some (r, SR1) ∧ zRel SX1 SR1 := sorry
theorem p_order {SX SR : zSt} (hRel : zRel SX SR) (p1 : Int32) (p2 : Int32) (p3 : Int32) : ∃ (r : Int32) (SX1 SR1 : zSt), fX11_order zN p1 p2 p3 SX = some (r, SX1) ∧ fX12_order zN p1 p2 p3 SR = some (r, SR1) ∧ zRel SX1 SR1 := sorry
theorem p_best {SX SR : zSt} (hRel : zRel SX SR) (p1 : Int32) (p2 : Int32) (p3 : Int32) : ∃ (r : Int32) (SX1 SR1 : zSt), fX11_best zN p1 p2 p3 SX = some (r, SX1) ∧ fX12_best zN p1 p2 p3 SR = some (r, SR1) ∧ zRel SX1 SR1 := sorry
theorem p_gusts {SX SR : zSt} (hRel : zRel SX SR) (p1 : Int32) (p2 : Int32) (p3 : Int32) (p4 : Int32) (p5 : Int32) : ∃ (r : Int32) (SX1 SR1 : zSt), fX11_gusts zN p1 p2 p3 p4 p5 SX = some (r, SX1) ∧ fX12_gusts zN p1 p2 p3 p4 p5 SR = some (r, SR1) ∧ zRel SX1 SR1 := sorry
theorem p_await {SX SR : zSt} (hRel : zRel SX SR) (p1 : Int32) (p2 : Int32) : ∃ (r : Int32) (SX1 SR1 : zSt), fX11_await zN p1 p2 SX = some (r, SX1) ∧ fX12_await zN p1 p2 SR = some (r, SR1) ∧ zRel SX1 SR1 := sorry
theorem p_mustNot {SX SR : zSt} (hRel : zRel SX SR) (p1 : Int32) : ∃ (r : Int32) (SX1 SR1 : zSt), fX11_mustNot zN p1 SX = some (r, SX1) ∧ fX12_mustNot zN p1 SR = some (r, SR1) ∧ zRel SX1 SR1 := sorry
theorem p_midst {SX SR : zSt} (hRel : zRel SX SR) (p1 : Int32) (p2 : Int32) (p3 : Int32) (p4 : Int32) : ∃ (r : Int32) (SX1 SR1 : zSt), fX11_midst zN p1 p2 p3 p4 SX = some (r, SX1) ∧ fX12_midst zN p1 p2 p3 p4 SR = some (r, SR1) ∧ zRel SX1 SR1 := sorry
theorem p_line {SX SR : zSt} (hRel : zRel SX SR) (p1 : Int32) (p2 : Int32) : ∃ (r : Int32) (SX1 SR1 : zSt), fX11_line zN p1 p2 SX = some (r, SX1) ∧ fX12_line zN p1 p2 SR = some (r, SR1) ∧ zRel SX1 SR1 := sorry
theorem p_wall {SX SR : zSt} (hRel : zRel SX SR) (p1 : Int32) (p2 : Int32) : ∃ (r : Int32) (SX1 SR1 : zSt), fX11_wall zN p1 p2 SX = some (r, SX1) ∧ fX12_wall zN p1 p2 SR = some (r, SR1) ∧ zRel SX1 SR1 := sorry
theorem p_roped {SX SR : zSt} (hRel : zRel SX SR) (p1 : Int32) (p2 : Int32) (p3 : Int32) : ∃ (r : Int32) (SX1 SR1 : zSt), fX11_roped zN p1 p2 p3 SX = some (r, SX1) ∧ fX12_roped zN p1 p2 p3 SR = some (r, SR1) ∧ zRel SX1 SR1 := sorry
theorem p_stick {SX SR : zSt} (hRel : zRel SX SR) (p1 : Int32) (p2 : Int32) : ∃ (r : Int32) (SX1 SR1 : zSt), fX11_stick zN p1 p2 SX = some (r, SX1) ∧ fX12_stick zN p1 p2 SR = some (r, SR1) ∧ zRel SX1 SR1 := sorry
theorem p_notch {SX SR : zSt} (hRel : zRel SX SR) (p1 : Int32) (p2 : Int32) : ∃ (r : Int32) (SX1 SR1 : zSt), fX11_notch p1 p2 SX = some (r, SX1) ∧ fX12_notch p1 p2 SR = some (r, SR1) ∧ zRel SX1 SR1 := sorry
theorem p_notches {SX SR : zSt} (hRel : zRel SX SR) (p1 : Int32) (p2 : Int32) (p3 : Int32) : ∃ (r : Int32) (SX1 SR1 : zSt), fX11_notches zN p1 p2 p3 SX = some (r, SX1) ∧ fX12_notches zN p1 p2 p3 SR = some (r, SR1) ∧ zRel SX1 SR1 := sorry
theorem p_off {SX SR : zSt} (hRel : zRel SX SR) (p1 : Int32) : ∃ (r : Int32) (SX1 SR1 : zSt), fX11_off zN p1 SX = some (r, SX1) ∧ fX12_off zN p1 SR = some (r, SR1) ∧ zRel SX1 SR1 := sorry
theorem p_fit {SX SR : zSt} (hRel : zRel SX SR)  : ∃ (r : Int32) (SX1 SR1 : zSt), fX11_fit zN SX = some (r, SX1) ∧ fX12_fit zN SR = some (r, SR1) ∧ zRel SX1 SR1 := sorry
theorem p_undo {SX SR : zSt} (hRel : zRel SX SR)  : ∃ (r : Int32) (SX1 SR1 : zSt), fX11_undo SX = some (r, SX1) ∧ fX12_undo SR = some (r, SR1) ∧ zRel SX1 SR1 := sorry
theorem p_redo {SX SR : zSt} (hRel : zRel SX SR)  : ∃ (r : Int32) (SX1 SR1 : zSt), fX11_redo SX = some (r, SX1) ∧ fX12_redo SR = some (r, SR1) ∧ zRel SX1 SR1 := sorry
theorem p_body {SX SR : zSt} (hRel : zRel SX SR) (p1 : Int32) : ∃ (r : Int32) (SX1 SR1 : zSt), fX11_body p1 SX = some (r, SX1) ∧ fX12_body p1 SR = some (r, SR1) ∧ zRel SX1 SR1 := sorry
theorem p_act {SX SR : zSt} (hRel : zRel SX SR) (p1 : Int32) (p2 : Int32) (p3 : Int32) : ∃ (r : Int32) (SX1 SR1 : zSt), fX11_act zN p1 p2 p3 SX = some (r, SX1) ∧ fX12_act p1 p2 p3 SR = some (r, SR1) ∧ zRel SX1 SR1 := sorry
theorem p_trace {SX SR : zSt} (hRel : zRel SX SR) (p1 : Int32) : ∃ (r : Int32) (SX1 SR1 : zSt), fX11_trace p1 SX = some (r, SX1) ∧ fX12_trace p1 SR = some (r, SR1) ∧ zRel SX1 SR1 := sorry
theorem p_keep {SX SR : zSt} (hRel : zRel SX SR) (p1 : Int32) (p2 : Int32) : ∃ (r : Int32) (SX1 SR1 : zSt), fX11_keep p1 p2 SX = some (r, SX1) ∧ fX12_keep p1 p2 SR = some (r, SR1) ∧ zRel SX1 SR1 := sorry
theorem p_row {SX SR : zSt} (hRel : zRel SX SR) (p1 : Int32) (p2 : Int32) (p3 : Int32) : ∃ (r : Int32) (SX1 SR1 : zSt), fX11_row zN p1 p2 p3 SX = some (r, SX1) ∧ fX12_row zN p1 p2 p3 SR = some (r, SR1) ∧ zRel SX1 SR1 := sorry
theorem p_put {SX SR : zSt} (hRel : zRel SX SR) (p1 : Int32) (p2 : Int32) (p3 : Int64) : ∃ (r : Int32) (SX1 SR1 : zSt), fX11_put p1 p2 p3 SX = some (r, SX1) ∧ fX12_put p1 p2 p3 SR = some (r, SR1) ∧ zRel SX1 SR1 := sorry
theorem p_element {SX SR : zSt} (hRel : zRel SX SR) (p1 : Int32) (p2 : Int32) : ∃ (r : Int64) (SX1 SR1 : zSt), fX11_element p1 p2 SX = some (r, SX1) ∧ fX12_element p1 p2 SR = some (r, SR1) ∧ zRel SX1 SR1 := sorry
theorem p_shift {SX SR : zSt} (hRel : zRel SX SR) (p1 : Int32) (p2 : Int32) (p3 : Int32) (p4 : Int32) (p5 : Int32) : ∃ (r : Int32) (SX1 SR1 : zSt), fX11_shift p1 p2 p3 p4 p5 SX = some (r, SX1) ∧ fX12_shift zN p1 p2 p3 p4 p5 SR = some (r, SR1) ∧ zRel SX1 SR1 := sorry
theorem p_taken {SX SR : zSt} (hRel : zRel SX SR) (p1 : Int32) (p2 : Int32) : ∃ (r : Int32) (SX1 SR1 : zSt), fX11_taken zN p1 p2 SX = some (r, SX1) ∧ fX12_taken p1 p2 SR = some (r, SR1) ∧ zRel SX1 SR1 := sorry
theorem p_count {SX SR : zSt} (hRel : zRel SX SR) (p1 : Int32) : ∃ (r : Int32) (SX1 SR1 : zSt), fX11_count p1 SX = some (r, SX1) ∧ fX12_count p1 SR = some (r, SR1) ∧ zRel SX1 SR1 := sorry
