/-! the law's loop, over both sides -/
def GD (S : sk_S) (d : sk_D) : Prop := ∃ A, RC S d A ∧ RM S d A ∧ okA A
theorem GD.k9 {S : sk_S} {d : sk_D} (h : GD S d) : S.2.1 1 = (9, 0) := by obtain ⟨A, h, _⟩ := h; exact kd1 h.1.1
theorem GD.k10 {S : sk_S} {d : sk_D} (h : GD S d) : S.2.1 94 = (10, 0) := by obtain ⟨A, h, _⟩ := h; exact kd94 h.1.1
theorem okA_does {A : AS} (h : okA A) (p : Int32) : okA (x_does A p).2 := by unfold x_does; split <;> exact x_en_ok h 0 p
theorem okA_drop {A : AS} (h : okA A) (p : Int32) : okA (x_drop A p).2 := by unfold x_drop; split <;> exact x_en_ok h 1 p
theorem okA_forge {A : AS} (h : okA A) (p : Int32) : okA (x_forge A p).2 := by unfold x_forge; split <;> exact x_en_ok h 2 p
theorem okA_ask {A : AS} (h : okA A) (p : Int32) : okA (x_ask A p).2 := by unfold x_ask; split <;> exact x_en_ok h 3 p
theorem okA_slip {A : AS} (h : okA A) (p : Int32) : okA (x_slip A p).2 := by unfold x_slip; split <;> exact x_en_ok h 4 p
section
variable {S : sk_S} {d : sk_D}
theorem q_feed (h : GD S d) (u0 : Int32) (u1 : Int32) (u2 : Int32) (u3 : Int32) (u4 : Int32) : ∃ r d1 d2, fX10_feed S d 1 u0 u1 u2 u3 u4 = some (r, d1) ∧ fX11_feed S d1 94 u0 u1 u2 u3 u4 = some (r, d2) ∧ GD S d2 := by
  obtain ⟨A, h1, h2, h3⟩ := h
  obtain ⟨d1, e1, r1, f1⟩ := c_feed h1 h3 u0 u1 u2 u3 u4
  obtain ⟨d2, e2, r2, f2⟩ := m_feed (h2.same h1.1.1 f1) h3 u0 u1 u2 u3 u4
  exact ⟨_, d1, d2, e1, e2, _, r1.same f2, r2, x_feed_ok h3 _ _ _ _ _⟩
theorem q_life (h : GD S d) (u0 : Int32) : ∃ r d1 d2, fX10_life S d 1 u0 = some (r, d1) ∧ fX11_life S d1 94 u0 = some (r, d2) ∧ GD S d2 := by
  obtain ⟨A, h1, h2, h3⟩ := h
  obtain ⟨d1, e1, r1, f1⟩ := c_life h1 h3 u0
  obtain ⟨d2, e2, r2, f2⟩ := m_life (h2.same h1.1.1 f1) h3 u0
  exact ⟨_, d1, d2, e1, e2, _, r1.same f2, r2, x_life_ok h3 _⟩
theorem q_fault (h : GD S d) (u0 : Int32) : ∃ r d2, fX10_fault S d 1 u0 = some r ∧ fX11_fault S d 94 u0 = some (r, d2) ∧ GD S d2 := by
  obtain ⟨A, h1, h2, h3⟩ := h
  exact ⟨_, _, c_fault h1 u0, m_fault h2 u0, _, h1.same (Fr.uI _ ⟨by decide, by decide⟩), h2.m0 0, h3⟩
theorem q_doing (h : GD S d) (u0 : Int32) (u1 : Int32) : ∃ r d2, fX10_doing S d 1 u0 u1 = some r ∧ fX11_doing S d 94 u0 u1 = some (r, d2) ∧ GD S d2 := by
  obtain ⟨A, h1, h2, h3⟩ := h
  exact ⟨_, _, c_doing h1 h3 u0 u1, m_doing h2 h3 u0 u1, _, h1.same (Fr.uI _ ⟨by decide, by decide⟩), h2.m0 0, h3⟩
theorem q_door (h : GD S d) (u0 : Int32) : ∃ r d2, fX10_door S d 1 u0 = some r ∧ fX11_door S d 94 u0 = some (r, d2) ∧ GD S d2 := by
  obtain ⟨A, h1, h2, h3⟩ := h
  exact ⟨_, _, c_door h1 h3 u0, m_door h2 h3 u0, _, h1.same (Fr.uI _ ⟨by decide, by decide⟩), h2.m0 0, h3⟩
theorem q_putBack (h : GD S d) (u0 : Int32) : ∃ r d2, fX10_putBack S d 1 u0 = some r ∧ fX11_putBack S d 94 u0 = some (r, d2) ∧ GD S d2 := by
  obtain ⟨A, h1, h2, h3⟩ := h
  exact ⟨_, _, c_putBack h1 h3 u0, m_putBack h2 h3 u0, _, h1.same (Fr.uI _ ⟨by decide, by decide⟩), h2.m0 0, h3⟩
theorem q_open (h : GD S d)  : ∃ r d2, fX10_open S d 1  = some r ∧ fX11_open S d 94  = some (r, d2) ∧ GD S d2 := by
  obtain ⟨A, h1, h2, h3⟩ := h
  exact ⟨_, _, c_open h1 h3 , m_open h2 h3 , _, h1.same (Fr.uI _ ⟨by decide, by decide⟩), h2.m0 0, h3⟩
theorem q_does (h : GD S d) (u0 : Int32) : ∃ r d1 d2, fX10_does S d 1 u0 = some (r, d1) ∧ fX11_does S d1 94 u0 = some (r, d2) ∧ GD S d2 := by
  obtain ⟨A, h1, h2, h3⟩ := h
  obtain ⟨d1, e1, r1, f1⟩ := c_does h1 h3 u0
  obtain ⟨d2, e2, r2, f2⟩ := m_does (h2.same h1.1.1 f1) h3 u0
  exact ⟨_, d1, d2, e1, e2, _, r1.same f2, r2, okA_does h3 _⟩
theorem q_drop (h : GD S d) (u0 : Int32) : ∃ r d1 d2, fX10_drop S d 1 u0 = some (r, d1) ∧ fX11_drop S d1 94 u0 = some (r, d2) ∧ GD S d2 := by
  obtain ⟨A, h1, h2, h3⟩ := h
  obtain ⟨d1, e1, r1, f1⟩ := c_drop h1 h3 u0
  obtain ⟨d2, e2, r2, f2⟩ := m_drop (h2.same h1.1.1 f1) h3 u0
  exact ⟨_, d1, d2, e1, e2, _, r1.same f2, r2, okA_drop h3 _⟩
theorem q_forge (h : GD S d) (u0 : Int32) : ∃ r d1 d2, fX10_forge S d 1 u0 = some (r, d1) ∧ fX11_forge S d1 94 u0 = some (r, d2) ∧ GD S d2 := by
  obtain ⟨A, h1, h2, h3⟩ := h
  obtain ⟨d1, e1, r1, f1⟩ := c_forge h1 h3 u0
  obtain ⟨d2, e2, r2, f2⟩ := m_forge (h2.same h1.1.1 f1) h3 u0
  exact ⟨_, d1, d2, e1, e2, _, r1.same f2, r2, okA_forge h3 _⟩
theorem q_ask (h : GD S d) (u0 : Int32) : ∃ r d1 d2, fX10_ask S d 1 u0 = some (r, d1) ∧ fX11_ask S d1 94 u0 = some (r, d2) ∧ GD S d2 := by
  obtain ⟨A, h1, h2, h3⟩ := h
  obtain ⟨d1, e1, r1, f1⟩ := c_ask h1 h3 u0
  obtain ⟨d2, e2, r2, f2⟩ := m_ask (h2.same h1.1.1 f1) h3 u0
  exact ⟨_, d1, d2, e1, e2, _, r1.same f2, r2, okA_ask h3 _⟩
theorem q_slip (h : GD S d) (u0 : Int32) : ∃ r d1 d2, fX10_slip S d 1 u0 = some (r, d1) ∧ fX11_slip S d1 94 u0 = some (r, d2) ∧ GD S d2 := by
  obtain ⟨A, h1, h2, h3⟩ := h
  obtain ⟨d1, e1, r1, f1⟩ := c_slip h1 h3 u0
  obtain ⟨d2, e2, r2, f2⟩ := m_slip (h2.same h1.1.1 f1) h3 u0
  exact ⟨_, d1, d2, e1, e2, _, r1.same f2, r2, okA_slip h3 _⟩
theorem q_undo (h : GD S d) (u0 : Int32) : ∃ r d1 d2, fX10_undo S d 1 u0 = some (r, d1) ∧ fX11_undo S d1 94 u0 = some (r, d2) ∧ GD S d2 := by
  obtain ⟨A, h1, h2, h3⟩ := h
  obtain ⟨d1, e1, r1, f1⟩ := c_undo h1 h3 u0
  obtain ⟨d2, e2, r2, f2⟩ := m_undo (h2.same h1.1.1 f1) h3 u0
  exact ⟨_, d1, d2, e1, e2, _, r1.same f2, r2, x_undo_ok h3 _⟩
theorem q_judge (h : GD S d) (u0 : Int32) (u1 : Int32) : ∃ r d1 d2, fX10_judge S d 1 u0 u1 = some (r, d1) ∧ fX11_judge S d1 94 u0 u1 = some (r, d2) ∧ GD S d2 := by
  obtain ⟨A, h1, h2, h3⟩ := h
  obtain ⟨d1, e1, r1, f1⟩ := c_judge h1 h3 u0 u1
  obtain ⟨d2, e2, r2, f2⟩ := m_judge (h2.same h1.1.1 f1) h3 u0 u1
  exact ⟨_, d1, d2, e1, e2, _, r1.same f2, r2, h3⟩
theorem q_perform (h : GD S d) (u0 : Int32) : ∃ r d1 d2, fX10_perform S d 1 u0 = some (r, d1) ∧ fX11_perform S d1 94 u0 = some (r, d2) ∧ GD S d2 := by
  obtain ⟨A, h1, h2, h3⟩ := h
  obtain ⟨d1, e1, r1, f1⟩ := c_perform h1 h3 u0
  obtain ⟨d2, e2, r2, f2⟩ := m_perform (h2.same h1.1.1 f1) h3 u0
  exact ⟨_, d1, d2, e1, e2, _, r1.same f2, r2, x_perform_ok h3 _⟩
theorem q_year (h : GD S d) (u0 : Int32) (u1 : Int32) : ∃ r d1 d2, fX10_year S d 1 u0 u1 = some (r, d1) ∧ fX11_year S d1 94 u0 u1 = some (r, d2) ∧ GD S d2 := by
  obtain ⟨A, h1, h2, h3⟩ := h
  obtain ⟨d1, e1, r1, f1⟩ := c_year h1 h3 u0 u1
  obtain ⟨d2, e2, r2, f2⟩ := m_year (h2.same h1.1.1 f1) h3 u0 u1
  exact ⟨_, d1, d2, e1, e2, _, r1.same f2, r2, x_year_ok h3 _ _⟩
theorem q_soonest (h : GD S d) (u0 : Int32) : ∃ r S1 d1 d2, fX10_soonest S d 1 u0 = some (r, S1, d1) ∧ fX11_soonest S1 d1 94 u0 = some (r, d2) ∧ GD S1 d2 := by
  obtain ⟨A, h1, h2, h3⟩ := h
  obtain ⟨S1, d1, e1, r1, f1⟩ := c_soonest h1 h3 u0
  obtain ⟨d2, e2, r2, f2⟩ := m_csoonest (h2.same r1.1.1 f1) h3 u0
  exact ⟨_, S1, d1, d2, e1, e2, _, r1.same f2, r2, h3⟩
theorem q_way (h : GD S d) (u0 : Int32) (u1 : Int32) : ∃ r S1 d1 d2, fX10_way S d 1 u0 u1 = some (r, S1, d1) ∧ fX11_way S1 d1 94 u0 u1 = some (r, d2) ∧ GD S1 d2 := by
  obtain ⟨A, h1, h2, h3⟩ := h
  obtain ⟨S1, d1, e1, r1, f1⟩ := c_way h1 h3 u0 u1
  obtain ⟨d2, e2, r2, f2⟩ := m_way (h2.same r1.1.1 f1) h3 u0 u1
  exact ⟨_, S1, d1, d2, e1, e2, _, r1.same f2, r2, h3⟩
theorem q_shown (h : GD S d) (u0 : Int32) : ∃ r S1 d1 d2, fX10_shown S d 1 u0 = some (r, S1, d1) ∧ fX11_shown S1 d1 94 u0 = some (r, d2) ∧ GD S1 d2 := by
  obtain ⟨A, h1, h2, h3⟩ := h
  obtain ⟨S1, d1, e1, r1, f1⟩ := c_shown h1 h3 u0
  obtain ⟨d2, e2, r2, f2⟩ := m_cshown (h2.same r1.1.1 f1) h3 u0
  exact ⟨_, S1, d1, d2, e1, e2, _, r1.same f2, r2, h3⟩
theorem q_shownBy (h : GD S d) (u0 : Int32) (u1 : Int32) : ∃ r S1 d1 d2, fX10_shownBy S d 1 u0 u1 = some (r, S1, d1) ∧ fX11_shownBy S1 d1 94 u0 u1 = some (r, d2) ∧ GD S1 d2 := by
  obtain ⟨A, h1, h2, h3⟩ := h
  obtain ⟨S1, d1, e1, r1, f1⟩ := c_shownBy h1 h3 u0 u1
  obtain ⟨d2, e2, r2, f2⟩ := m_shownBy (h2.same r1.1.1 f1) h3 u0 u1
  exact ⟨_, S1, d1, d2, e1, e2, _, r1.same f2, r2, h3⟩
theorem q_rows (h : GD S d) (u0 : Int32) (u1 : Int32) : ∃ r S1 d1 d2, fX10_rows S d 1 u0 u1 = some (r, S1, d1) ∧ fX11_rows S1 d1 94 u0 u1 = some (r, d2) ∧ GD S1 d2 := by
  obtain ⟨A, h1, h2, h3⟩ := h
  obtain ⟨S1, d1, e1, r1, f1⟩ := c_rows h1 h3 u0 u1
  obtain ⟨d2, e2, r2, f2⟩ := m_rows (h2.same r1.1.1 f1) h3 u0 u1
  exact ⟨_, S1, d1, d2, e1, e2, _, r1.same f2, r2, h3⟩
theorem q_most (h : GD S d)  : ∃ r S1 d1 d2, fX10_most S d 1  = some (r, S1, d1) ∧ fX11_most S1 d1 94  = some (r, d2) ∧ GD S1 d2 := by
  obtain ⟨A, h1, h2, h3⟩ := h
  obtain ⟨S1, d1, e1, r1, f1⟩ := c_most h1 h3 
  obtain ⟨d2, e2, r2, f2⟩ := m_most (h2.same r1.1.1 f1) h3 
  exact ⟨_, S1, d1, d2, e1, e2, _, r1.same f2, r2, h3⟩
theorem q_stands (h : GD S d)  : ∃ r S1 d1 d2, fX10_stands S d 1  = some (r, S1, d1) ∧ fX11_stands S1 d1 94  = some (r, d2) ∧ GD S1 d2 := by
  obtain ⟨A, h1, h2, h3⟩ := h
  obtain ⟨S1, d1, e1, r1, f1⟩ := c_stands h1 h3 
  obtain ⟨d2, e2, r2, f2⟩ := m_stands (h2.same r1.1.1 f1) h3 
  exact ⟨_, S1, d1, d2, e1, e2, _, r1.same f2, r2, h3⟩
theorem q_gain (h : GD S d) (u0 : Int32) : ∃ r d2, fX10_gain S d 1 u0 = some r ∧ fX11_gain S d 94 u0 = some (r, d2) ∧ GD S d2 := by
  obtain ⟨A, h1, h2, h3⟩ := h
  exact ⟨_, _, c_gain h1 h3 u0, m_gain h2 h3 u0, _, h1.same (Fr.uI _ ⟨by decide, by decide⟩), h2.m0 0, h3⟩
theorem q_pack (h : GD S d) (u0 : Int32) : ∃ r d2, fX10_pack S d 1 u0 = some r ∧ fX11_pack S d 94 u0 = some (r, d2) ∧ GD S d2 := by
  obtain ⟨A, h1, h2, h3⟩ := h
  exact ⟨_, _, c_pack h1 h3 u0, m_pack h2 h3 u0, _, h1.same (Fr.uI _ ⟨by decide, by decide⟩), h2.m0 0, h3⟩
theorem q_orders (h : GD S d) (u0 : Int32) : ∃ r d1 d2, fX10_orders S d 1 u0 = some (r, d1) ∧ fX11_orders S d1 94 u0 = some (r, d2) ∧ GD S d2 := by
  obtain ⟨A, h1, h2, h3⟩ := h
  obtain ⟨d1, e1, r1, f1⟩ := c_orders h1 h3 u0
  obtain ⟨d2, e2, r2, f2⟩ := m_orders (h2.same h1.1.1 f1) h3 u0
  exact ⟨_, d1, d2, e1, e2, _, r1.same f2, r2, h3⟩
theorem q_order (h : GD S d) (u0 : Int32) (u1 : Int32) : ∃ r d1 d2, fX10_order S d 1 u0 u1 = some (r, d1) ∧ fX11_order S d1 94 u0 u1 = some (r, d2) ∧ GD S d2 := by
  obtain ⟨A, h1, h2, h3⟩ := h
  obtain ⟨d1, e1, r1, f1⟩ := c_order h1 h3 u0 u1
  obtain ⟨d2, e2, r2, f2⟩ := m_order (h2.same h1.1.1 f1) h3 u0 u1
  exact ⟨_, d1, d2, e1, e2, _, r1.same f2, r2, h3⟩
theorem q_ahead (h : GD S d) (u0 : Int32) (u1 : Int32) (u2 : Int32) : ∃ r d1 d2, fX10_ahead S d 1 u0 u1 u2 = some (r, d1) ∧ fX11_ahead S d1 94 u0 u1 u2 = some (r, d2) ∧ GD S d2 := by
  obtain ⟨A, h1, h2, h3⟩ := h
  obtain ⟨d1, e1, r1, f1⟩ := c_ahead h1 h3 u0 u1 u2
  obtain ⟨d2, e2, r2, f2⟩ := m_ahead (h2.same h1.1.1 f1) h3 u0 u1 u2
  exact ⟨_, d1, d2, e1, e2, _, r1.same f2, r2, h3⟩
theorem q_join (h : GD S d) (u0 : Int32) : ∃ r d2, fX10_join S d 1 u0 = some r ∧ fX11_join S d 94 u0 = some (r, d2) ∧ GD S d2 := by
  obtain ⟨A, h1, h2, h3⟩ := h
  obtain ⟨d2, e2, r2, f2⟩ := m_join h2 h3 u0
  exact ⟨_, d2, c_join h1 h3 u0, e2, _, h1.same f2, r2, h3⟩
theorem q_over (h : GD S d)  : ∃ r d2, fX10_over S d 1  = some r ∧ fX11_over S d 94  = some (r, d2) ∧ GD S d2 := by
  obtain ⟨A, h1, h2, h3⟩ := h
  obtain ⟨d2, e2, r2, f2⟩ := m_over h2 h3 
  exact ⟨_, d2, c_over h1 h3 , e2, _, h1.same f2, r2, h3⟩
theorem q_slips (h : GD S d) (u0 : Int32) : ∃ r d1 d2, fX10_slips S d 1 u0 = some (r, d1) ∧ fX11_slips S d1 94 u0 = some (r, d2) ∧ GD S d2 := by
  obtain ⟨A, h1, h2, h3⟩ := h
  obtain ⟨d1, e1, r1, f1⟩ := c_slips h1 h3 u0
  obtain ⟨d2, e2, r2, f2⟩ := m_slips (h2.same h1.1.1 f1) h3 u0
  exact ⟨_, d1, d2, e1, e2, _, r1.same f2, r2, h3⟩
theorem q_attempt (h : GD S d) (u0 : Int32) : ∃ r d1 d2, fX10_attempt S d 1 u0 = some (r, d1) ∧ fX11_attempt S d1 94 u0 = some (r, d2) ∧ GD S d2 := by
  obtain ⟨A, h1, h2, h3⟩ := h
  obtain ⟨d1, e1, r1, f1⟩ := c_attempt h1 h3 u0
  obtain ⟨d2, e2, r2, f2⟩ := m_attempt (h2.same h1.1.1 f1) h3 u0
  exact ⟨_, d1, d2, e1, e2, _, r1.same f2, r2, h3⟩
theorem q_linings (h : GD S d) (u0 : Int32) : ∃ r d1 d2, fX10_linings S d 1 u0 = some (r, d1) ∧ fX11_linings S d1 94 u0 = some (r, d2) ∧ GD S d2 := by
  obtain ⟨A, h1, h2, h3⟩ := h
  obtain ⟨d1, e1, r1, f1⟩ := c_linings h1 h3 u0
  obtain ⟨d2, e2, r2, f2⟩ := m_linings (h2.same h1.1.1 f1) h3 u0
  exact ⟨_, d1, d2, e1, e2, _, r1.same f2, r2, h3⟩
theorem q_clique (h : GD S d)  : ∃ r d2, fX10_clique S d 1  = some r ∧ fX11_clique S d 94  = some (r, d2) ∧ GD S d2 := by
  obtain ⟨A, h1, h2, h3⟩ := h
  exact ⟨_, _, c_clique h1 h3 , m_clique h2 h3 , _, h1.same (Fr.uI _ ⟨by decide, by decide⟩), h2.m0 0, h3⟩
theorem q_forces (h : GD S d) (u0 : Int32) : ∃ r d1 d2, fX10_forces S d 1 u0 = some (r, d1) ∧ fX11_forces S d1 94 u0 = some (r, d2) ∧ GD S d2 := by
  obtain ⟨A, h1, h2, h3⟩ := h
  obtain ⟨d1, e1, r1, f1⟩ := c_forces h1 h3 u0
  obtain ⟨d2, e2, r2, f2⟩ := m_forces (h2.same h1.1.1 f1) h3 u0
  exact ⟨_, d1, d2, e1, e2, _, r1.same f2, r2, h3⟩
theorem q_best (h : GD S d) (u0 : Int32) : ∃ r d1 d2, fX10_best S d 1 u0 = some (r, d1) ∧ fX11_best S d1 94 u0 = some (r, d2) ∧ GD S d2 := by
  obtain ⟨A, h1, h2, h3⟩ := h
  obtain ⟨d1, e1, r1, f1⟩ := c_best h1 h3 u0
  obtain ⟨d2, e2, r2, f2⟩ := m_best (h2.same h1.1.1 f1) h3 u0
  exact ⟨_, d1, d2, e1, e2, _, r1.same f2, r2, h3⟩
theorem q_chance (h : GD S d) (u0 : Int32) (u1 : Int32) : ∃ r d2, fX10_chance S d 1 u0 u1 = some r ∧ fX11_chance S d 94 u0 u1 = some (r, d2) ∧ GD S d2 := by
  obtain ⟨A, h1, h2, h3⟩ := h
  exact ⟨_, _, c_chance h1 h3 u0 u1, m_chance h2 h3 u0 u1, _, h1.same (Fr.uI _ ⟨by decide, by decide⟩), h2.m0 0, h3⟩
theorem q_mean (h : GD S d) (u0 : Int32) : ∃ r d2, fX10_mean S d 1 u0 = some r ∧ fX11_mean S d 94 u0 = some (r, d2) ∧ GD S d2 := by
  obtain ⟨A, h1, h2, h3⟩ := h
  exact ⟨_, _, c_mean h1 h3 u0, m_mean h2 h3 u0, _, h1.same (Fr.uI _ ⟨by decide, by decide⟩), h2.m0 0, h3⟩
theorem q_wanted (h : GD S d)  : ∃ r d2, fX10_wanted S d 1  = some r ∧ fX11_wanted S d 94  = some (r, d2) ∧ GD S d2 := by
  obtain ⟨A, h1, h2, h3⟩ := h
  exact ⟨_, _, c_wanted h1 h3 , m_wanted h2 h3 , _, h1.same (Fr.uI _ ⟨by decide, by decide⟩), h2.m0 0, h3⟩
theorem q_numbers (h : GD S d) (u0 : Int32) (u1 : Int32) (u2 : Int32) : ∃ r d1 d2, fX10_numbers S d 1 u0 u1 u2 = some (r, d1) ∧ fX11_numbers S d1 94 u0 u1 u2 = some (r, d2) ∧ GD S d2 := by
  obtain ⟨A, h1, h2, h3⟩ := h
  obtain ⟨d1, e1, r1, f1⟩ := c_numbers h1 u0 u1 u2
  obtain ⟨d2, e2, r2, f2⟩ := m_numbers (h2.same h1.1.1 f1) h3 u0 u1 u2
  exact ⟨_, d1, d2, e1, e2, _, r1.same f2, r2, x_numbers_ok h3 _ _ _⟩
theorem q_write (h : GD S d) (u0 : Int32) (u1 : Int32) (u2 : Int64) : ∃ r d1 d2, fX10_write S d 1 u0 u1 u2 = some (r, d1) ∧ fX11_write S d1 94 u0 u1 u2 = some (r, d2) ∧ GD S d2 := by
  obtain ⟨A, h1, h2, h3⟩ := h
  obtain ⟨d1, e1, r1, f1⟩ := c_write h1 h3 u0 u1 u2
  obtain ⟨d2, e2, r2, f2⟩ := m_write (h2.same h1.1.1 f1) h3 u0 u1 u2
  exact ⟨_, d1, d2, e1, e2, _, r1.same f2, r2, x_write_ok h3 _ _ _⟩
theorem q_lists (h : GD S d) (u0 : Int32) (u1 : Int32) : ∃ r S1 d1 d2, fX10_lists S d 1 u0 u1 = some (r, S1, d1) ∧ fX11_lists S1 d1 94 u0 u1 = some (r, d2) ∧ GD S1 d2 := by
  obtain ⟨A, h1, h2, h3⟩ := h
  obtain ⟨S1, d1, e1, r1, f1⟩ := c_lists h1 h3 u0 u1
  obtain ⟨d2, e2, r2, f2⟩ := m_lists (h2.same r1.1.1 f1) h3 u0 u1
  exact ⟨_, S1, d1, d2, e1, e2, _, r1.same f2, r2, x_lists_ok h3 _ _⟩
theorem q_image (h : GD S d) (u0 : Int32) : ∃ r d1 d2, fX10_image S d 1 u0 = some (r, d1) ∧ fX11_image S d1 94 u0 = some (r, d2) ∧ GD S d2 := by
  obtain ⟨A, h1, h2, h3⟩ := h
  obtain ⟨d1, e1, r1, f1⟩ := c_image h1 h3 u0
  obtain ⟨d2, e2, r2, f2⟩ := m_image (h2.same h1.1.1 f1) h3 u0
  exact ⟨_, d1, d2, e1, e2, _, r1.same f2, r2, x_image_ok h3 _⟩
theorem q_restore (h : GD S d) (u0 : Int32) : ∃ r d1 d2, fX10_restore S d 1 u0 = some (r, d1) ∧ fX11_restore S d1 94 u0 = some (r, d2) ∧ GD S d2 := by
  obtain ⟨A, h1, h2, h3⟩ := h
  obtain ⟨d1, e1, r1, f1⟩ := c_restore h1 h3 u0
  obtain ⟨d2, e2, r2, f2⟩ := m_restore (h2.same h1.1.1 f1) h3 u0
  exact ⟨_, d1, d2, e1, e2, _, r1.same f2, r2, x_restore_ok h3 _⟩
theorem q_count (h : GD S d) (u0 : Int32) : ∃ r d2, fX10_count S d 1 u0 = some r ∧ fX11_count S d 94 u0 = some (r, d2) ∧ GD S d2 := by
  obtain ⟨A, h1, h2, h3⟩ := h
  exact ⟨_, _, c_count h1 h3 u0, m_count h2 h3 u0, _, h1.same (Fr.uI _ ⟨by decide, by decide⟩), h2.m0 0, h3⟩
end
abbrev LO : Type := (Int32 × sk_S × sk_D) ⊕ (Bool × sk_S × sk_D)
def SOK (k : Nat) (o : Option LO) : Prop := ∃ S' d', o = some (.inl (nI (k + 6), S', d')) ∧ GD S' d'
theorem pbx {k : Nat} {α : Type} {o : Option α} {f : α → Option LO} {v : α} (h : o = some v) (h2 : SOK k (f v)) : SOK k (o.bind f) := by rw [h, Option.bind_some]; exact h2
theorem pi1x {k : Nat} {c : Prop} [Decidable c] {x y : Option LO} (h : c) (h2 : SOK k x) : SOK k (if c then x else y) := by rw [if_pos h]; exact h2
theorem pi2x {k : Nat} {c : Prop} [Decidable c] {x y : Option LO} (h1 : c → SOK k x) (h2 : SOK k y) : SOK k (if c then x else y) := by
  by_cases h : c
  · rw [if_pos h]; exact h1 h
  · rw [if_neg h]; exact h2
theorem scr_j {xs : Nat → Int32} {L0 k : Nat} (j : Nat) (h : k + j < L0) (hL : L0 ≤ 3072) : sk_scr xs L0 (nI k + nI j) = some (xs (k + j)) := by
  unfold sk_scr
  rw [nI_add, if_pos (nI_in h (by omega)), nI_clamp (by omega)]
theorem scr_0 {xs : Nat → Int32} {L0 k : Nat} (h : k < L0) (hL : L0 ≤ 3072) : sk_scr xs L0 (nI k) = some (xs k) := by
  unfold sk_scr
  rw [if_pos (nI_in h (by omega)), nI_clamp (by omega)]
set_option maxHeartbeats 4000000 in
theorem law_step {S0 S4 S : sk_S} {d : sk_D} {xs : Nat → Int32} {L0 k : Nat} (e0 : S0.1.1 + 1 = 1) (e4 : S4.1.1 + 1 = 94) (hL : L0 ≤ 3072) (hk : k + 6 ≤ L0) (G : GD S d) : SOK k (fL_law_L18 S0 L0 S4 xs (nI k, S, d)) := by
  have k9 := G.k9
  have k10 := G.k10
  have hk6 : nI k + 6 = nI (k + 6) := nI_add k 6
  have s0 := scr_0 (xs := xs) (show k < L0 by omega) hL
  have s1 : sk_scr xs L0 (nI k + 1) = some (xs (k + 1)) := scr_j 1 (by omega) hL
  have s2 : sk_scr xs L0 (nI k + 2) = some (xs (k + 2)) := scr_j 2 (by omega) hL
  have s3 : sk_scr xs L0 (nI k + 3) = some (xs (k + 3)) := scr_j 3 (by omega) hL
  have s4 : sk_scr xs L0 (nI k + 4) = some (xs (k + 4)) := scr_j 4 (by omega) hL
  have s5 : sk_scr xs L0 (nI k + 5) = some (xs (k + 5)) := scr_j 5 (by omega) hL
  have c0 : ¬ (Int32.ofNat L0 - (6 : Int32) < nI k) := by
    have e : Int32.ofNat L0 = nI (L0 - 6) + 6 := by
      rw [show (6 : Int32) = nI 6 from rfl, nI_add, show L0 - 6 + 6 = L0 by omega]; rfl
    rw [e, Int32.add_sub_cancel, nI_ltI (by omega) (by omega)]
    omega
  unfold fL_law_L18
  rw [e0, e4, if_neg c0]
  refine pbx s0 ?_
  refine pi2x (fun _ => ?_) ?_
  · refine pbx s1 ?_
    refine pbx s2 ?_
    refine pbx s3 ?_
    refine pbx s4 ?_
    refine pbx s5 ?_
    refine pi1x k9 ?_
    obtain ⟨r, d1, d2, e1, e2, g⟩ := q_feed G (xs (k + 1)) (xs (k + 2)) (xs (k + 3)) (xs (k + 4)) (xs (k + 5))
    refine pbx e1 ?_
    refine pbx s1 ?_
    refine pbx s2 ?_
    refine pbx s3 ?_
    refine pbx s4 ?_
    refine pbx s5 ?_
    refine pi1x k10 ?_
    refine pbx e2 ?_
    refine pi1x rfl ?_
    exact ⟨S, d2, by rw [← hk6], g⟩
  refine pi2x (fun _ => ?_) ?_
  · refine pbx s1 ?_
    refine pi1x k9 ?_
    obtain ⟨r, d1, d2, e1, e2, g⟩ := q_life G (xs (k + 1))
    refine pbx e1 ?_
    refine pbx s1 ?_
    refine pi1x k10 ?_
    refine pbx e2 ?_
    refine pi1x rfl ?_
    exact ⟨S, d2, by rw [← hk6], g⟩
  refine pi2x (fun _ => ?_) ?_
  · refine pbx s1 ?_
    refine pi1x k9 ?_
    obtain ⟨r, d2, e1, e2, g⟩ := q_fault G (xs (k + 1))
    refine pbx e1 ?_
    refine pbx s1 ?_
    refine pi1x k10 ?_
    refine pbx e2 ?_
    refine pi1x rfl ?_
    exact ⟨S, d2, by rw [← hk6], g⟩
  refine pi2x (fun _ => ?_) ?_
  · refine pbx s1 ?_
    refine pbx s2 ?_
    refine pi1x k9 ?_
    obtain ⟨r, d2, e1, e2, g⟩ := q_doing G (xs (k + 1)) (xs (k + 2))
    refine pbx e1 ?_
    refine pbx s1 ?_
    refine pbx s2 ?_
    refine pi1x k10 ?_
    refine pbx e2 ?_
    refine pi1x rfl ?_
    exact ⟨S, d2, by rw [← hk6], g⟩
  refine pi2x (fun _ => ?_) ?_
  · refine pbx s1 ?_
    refine pi1x k9 ?_
    obtain ⟨r, d2, e1, e2, g⟩ := q_door G (xs (k + 1))
    refine pbx e1 ?_
    refine pbx s1 ?_
    refine pi1x k10 ?_
    refine pbx e2 ?_
    refine pi1x rfl ?_
    exact ⟨S, d2, by rw [← hk6], g⟩
  refine pi2x (fun _ => ?_) ?_
  · refine pbx s1 ?_
    refine pi1x k9 ?_
    obtain ⟨r, d2, e1, e2, g⟩ := q_putBack G (xs (k + 1))
    refine pbx e1 ?_
    refine pbx s1 ?_
    refine pi1x k10 ?_
    refine pbx e2 ?_
    refine pi1x rfl ?_
    exact ⟨S, d2, by rw [← hk6], g⟩
  refine pi2x (fun _ => ?_) ?_
  · refine pi1x k9 ?_
    obtain ⟨r, d2, e1, e2, g⟩ := q_open G 
    refine pbx e1 ?_
    refine pi1x k10 ?_
    refine pbx e2 ?_
    refine pi1x rfl ?_
    exact ⟨S, d2, by rw [← hk6], g⟩
  refine pi2x (fun _ => ?_) ?_
  · refine pbx s1 ?_
    refine pi1x k9 ?_
    obtain ⟨r, d1, d2, e1, e2, g⟩ := q_does G (xs (k + 1))
    refine pbx e1 ?_
    refine pbx s1 ?_
    refine pi1x k10 ?_
    refine pbx e2 ?_
    refine pi1x rfl ?_
    exact ⟨S, d2, by rw [← hk6], g⟩
  refine pi2x (fun _ => ?_) ?_
  · refine pbx s1 ?_
    refine pi1x k9 ?_
    obtain ⟨r, d1, d2, e1, e2, g⟩ := q_drop G (xs (k + 1))
    refine pbx e1 ?_
    refine pbx s1 ?_
    refine pi1x k10 ?_
    refine pbx e2 ?_
    refine pi1x rfl ?_
    exact ⟨S, d2, by rw [← hk6], g⟩
  refine pi2x (fun _ => ?_) ?_
  · refine pbx s1 ?_
    refine pi1x k9 ?_
    obtain ⟨r, d1, d2, e1, e2, g⟩ := q_forge G (xs (k + 1))
    refine pbx e1 ?_
    refine pbx s1 ?_
    refine pi1x k10 ?_
    refine pbx e2 ?_
    refine pi1x rfl ?_
    exact ⟨S, d2, by rw [← hk6], g⟩
  refine pi2x (fun _ => ?_) ?_
  · refine pbx s1 ?_
    refine pi1x k9 ?_
    obtain ⟨r, d1, d2, e1, e2, g⟩ := q_ask G (xs (k + 1))
    refine pbx e1 ?_
    refine pbx s1 ?_
    refine pi1x k10 ?_
    refine pbx e2 ?_
    refine pi1x rfl ?_
    exact ⟨S, d2, by rw [← hk6], g⟩
  refine pi2x (fun _ => ?_) ?_
  · refine pbx s1 ?_
    refine pi1x k9 ?_
    obtain ⟨r, d1, d2, e1, e2, g⟩ := q_slip G (xs (k + 1))
    refine pbx e1 ?_
    refine pbx s1 ?_
    refine pi1x k10 ?_
    refine pbx e2 ?_
    refine pi1x rfl ?_
    exact ⟨S, d2, by rw [← hk6], g⟩
  refine pi2x (fun _ => ?_) ?_
  · refine pbx s1 ?_
    refine pi1x k9 ?_
    obtain ⟨r, d1, d2, e1, e2, g⟩ := q_undo G (xs (k + 1))
    refine pbx e1 ?_
    refine pbx s1 ?_
    refine pi1x k10 ?_
    refine pbx e2 ?_
    refine pi1x rfl ?_
    exact ⟨S, d2, by rw [← hk6], g⟩
  refine pi2x (fun _ => ?_) ?_
  · refine pbx s1 ?_
    refine pbx s2 ?_
    refine pi1x k9 ?_
    obtain ⟨r, d1, d2, e1, e2, g⟩ := q_judge G (xs (k + 1)) (xs (k + 2))
    refine pbx e1 ?_
    refine pbx s1 ?_
    refine pbx s2 ?_
    refine pi1x k10 ?_
    refine pbx e2 ?_
    refine pi1x rfl ?_
    exact ⟨S, d2, by rw [← hk6], g⟩
  refine pi2x (fun _ => ?_) ?_
  · refine pbx s1 ?_
    refine pi1x k9 ?_
    obtain ⟨r, d1, d2, e1, e2, g⟩ := q_perform G (xs (k + 1))
    refine pbx e1 ?_
    refine pbx s1 ?_
    refine pi1x k10 ?_
    refine pbx e2 ?_
    refine pi1x rfl ?_
    exact ⟨S, d2, by rw [← hk6], g⟩
  refine pi2x (fun _ => ?_) ?_
  · refine pbx s1 ?_
    refine pbx s2 ?_
    refine pi1x k9 ?_
    obtain ⟨r, d1, d2, e1, e2, g⟩ := q_year G (xs (k + 1)) (xs (k + 2))
    refine pbx e1 ?_
    refine pbx s1 ?_
    refine pbx s2 ?_
    refine pi1x k10 ?_
    refine pbx e2 ?_
    refine pi1x rfl ?_
    exact ⟨S, d2, by rw [← hk6], g⟩
  refine pi2x (fun _ => ?_) ?_
  · refine pbx s1 ?_
    refine pi1x k9 ?_
    obtain ⟨r, S1, d1, d2, e1, e2, g⟩ := q_soonest G (xs (k + 1))
    refine pbx e1 ?_
    refine pbx s1 ?_
    refine pi1x g.k10 ?_
    refine pbx e2 ?_
    refine pi1x rfl ?_
    exact ⟨S1, d2, by rw [← hk6], g⟩
  refine pi2x (fun _ => ?_) ?_
  · refine pbx s1 ?_
    refine pbx s2 ?_
    refine pi1x k9 ?_
    obtain ⟨r, S1, d1, d2, e1, e2, g⟩ := q_way G (xs (k + 1)) (xs (k + 2))
    refine pbx e1 ?_
    refine pbx s1 ?_
    refine pbx s2 ?_
    refine pi1x g.k10 ?_
    refine pbx e2 ?_
    refine pi1x rfl ?_
    exact ⟨S1, d2, by rw [← hk6], g⟩
  refine pi2x (fun _ => ?_) ?_
  · refine pbx s1 ?_
    refine pi1x k9 ?_
    obtain ⟨r, S1, d1, d2, e1, e2, g⟩ := q_shown G (xs (k + 1))
    refine pbx e1 ?_
    refine pbx s1 ?_
    refine pi1x g.k10 ?_
    refine pbx e2 ?_
    refine pi1x rfl ?_
    exact ⟨S1, d2, by rw [← hk6], g⟩
  refine pi2x (fun _ => ?_) ?_
  · refine pbx s1 ?_
    refine pbx s2 ?_
    refine pi1x k9 ?_
    obtain ⟨r, S1, d1, d2, e1, e2, g⟩ := q_shownBy G (xs (k + 1)) (xs (k + 2))
    refine pbx e1 ?_
    refine pbx s1 ?_
    refine pbx s2 ?_
    refine pi1x g.k10 ?_
    refine pbx e2 ?_
    refine pi1x rfl ?_
    exact ⟨S1, d2, by rw [← hk6], g⟩
  refine pi2x (fun _ => ?_) ?_
  · refine pbx s1 ?_
    refine pbx s2 ?_
    refine pi1x k9 ?_
    obtain ⟨r, S1, d1, d2, e1, e2, g⟩ := q_rows G (xs (k + 1)) (xs (k + 2))
    refine pbx e1 ?_
    refine pbx s1 ?_
    refine pbx s2 ?_
    refine pi1x g.k10 ?_
    refine pbx e2 ?_
    refine pi1x rfl ?_
    exact ⟨S1, d2, by rw [← hk6], g⟩
  refine pi2x (fun _ => ?_) ?_
  · refine pi1x k9 ?_
    obtain ⟨r, S1, d1, d2, e1, e2, g⟩ := q_most G 
    refine pbx e1 ?_
    refine pi1x g.k10 ?_
    refine pbx e2 ?_
    refine pi1x rfl ?_
    exact ⟨S1, d2, by rw [← hk6], g⟩
  refine pi2x (fun _ => ?_) ?_
  · refine pi1x k9 ?_
    obtain ⟨r, S1, d1, d2, e1, e2, g⟩ := q_stands G 
    refine pbx e1 ?_
    refine pi1x g.k10 ?_
    refine pbx e2 ?_
    refine pi1x rfl ?_
    exact ⟨S1, d2, by rw [← hk6], g⟩
  refine pi2x (fun _ => ?_) ?_
  · refine pbx s1 ?_
    refine pi1x k9 ?_
    obtain ⟨r, d2, e1, e2, g⟩ := q_gain G (xs (k + 1))
    refine pbx e1 ?_
    refine pbx s1 ?_
    refine pi1x k10 ?_
    refine pbx e2 ?_
    refine pi1x rfl ?_
    exact ⟨S, d2, by rw [← hk6], g⟩
  refine pi2x (fun _ => ?_) ?_
  · refine pbx s1 ?_
    refine pi1x k9 ?_
    obtain ⟨r, d2, e1, e2, g⟩ := q_pack G (xs (k + 1))
    refine pbx e1 ?_
    refine pbx s1 ?_
    refine pi1x k10 ?_
    refine pbx e2 ?_
    refine pi1x rfl ?_
    exact ⟨S, d2, by rw [← hk6], g⟩
  refine pi2x (fun _ => ?_) ?_
  · refine pbx s1 ?_
    refine pi1x k9 ?_
    obtain ⟨r, d1, d2, e1, e2, g⟩ := q_orders G (xs (k + 1))
    refine pbx e1 ?_
    refine pbx s1 ?_
    refine pi1x k10 ?_
    refine pbx e2 ?_
    refine pi1x rfl ?_
    exact ⟨S, d2, by rw [← hk6], g⟩
  refine pi2x (fun _ => ?_) ?_
  · refine pbx s1 ?_
    refine pbx s2 ?_
    refine pi1x k9 ?_
    obtain ⟨r, d1, d2, e1, e2, g⟩ := q_order G (xs (k + 1)) (xs (k + 2))
    refine pbx e1 ?_
    refine pbx s1 ?_
    refine pbx s2 ?_
    refine pi1x k10 ?_
    refine pbx e2 ?_
    refine pi1x rfl ?_
    exact ⟨S, d2, by rw [← hk6], g⟩
  refine pi2x (fun _ => ?_) ?_
  · refine pbx s1 ?_
    refine pbx s2 ?_
    refine pbx s3 ?_
    refine pi1x k9 ?_
    obtain ⟨r, d1, d2, e1, e2, g⟩ := q_ahead G (xs (k + 1)) (xs (k + 2)) (xs (k + 3))
    refine pbx e1 ?_
    refine pbx s1 ?_
    refine pbx s2 ?_
    refine pbx s3 ?_
    refine pi1x k10 ?_
    refine pbx e2 ?_
    refine pi1x rfl ?_
    exact ⟨S, d2, by rw [← hk6], g⟩
  refine pi2x (fun _ => ?_) ?_
  · refine pbx s1 ?_
    refine pi1x k9 ?_
    obtain ⟨r, d2, e1, e2, g⟩ := q_join G (xs (k + 1))
    refine pbx e1 ?_
    refine pbx s1 ?_
    refine pi1x k10 ?_
    refine pbx e2 ?_
    refine pi1x rfl ?_
    exact ⟨S, d2, by rw [← hk6], g⟩
  refine pi2x (fun _ => ?_) ?_
  · refine pi1x k9 ?_
    obtain ⟨r, d2, e1, e2, g⟩ := q_over G 
    refine pbx e1 ?_
    refine pi1x k10 ?_
    refine pbx e2 ?_
    refine pi1x rfl ?_
    exact ⟨S, d2, by rw [← hk6], g⟩
  refine pi2x (fun _ => ?_) ?_
  · refine pbx s1 ?_
    refine pi1x k9 ?_
    obtain ⟨r, d1, d2, e1, e2, g⟩ := q_slips G (xs (k + 1))
    refine pbx e1 ?_
    refine pbx s1 ?_
    refine pi1x k10 ?_
    refine pbx e2 ?_
    refine pi1x rfl ?_
    exact ⟨S, d2, by rw [← hk6], g⟩
  refine pi2x (fun _ => ?_) ?_
  · refine pbx s1 ?_
    refine pi1x k9 ?_
    obtain ⟨r, d1, d2, e1, e2, g⟩ := q_attempt G (xs (k + 1))
    refine pbx e1 ?_
    refine pbx s1 ?_
    refine pi1x k10 ?_
    refine pbx e2 ?_
    refine pi1x rfl ?_
    exact ⟨S, d2, by rw [← hk6], g⟩
  refine pi2x (fun _ => ?_) ?_
  · refine pbx s1 ?_
    refine pi1x k9 ?_
    obtain ⟨r, d1, d2, e1, e2, g⟩ := q_linings G (xs (k + 1))
    refine pbx e1 ?_
    refine pbx s1 ?_
    refine pi1x k10 ?_
    refine pbx e2 ?_
    refine pi1x rfl ?_
    exact ⟨S, d2, by rw [← hk6], g⟩
  refine pi2x (fun _ => ?_) ?_
  · refine pi1x k9 ?_
    obtain ⟨r, d2, e1, e2, g⟩ := q_clique G 
    refine pbx e1 ?_
    refine pi1x k10 ?_
    refine pbx e2 ?_
    refine pi1x rfl ?_
    exact ⟨S, d2, by rw [← hk6], g⟩
  refine pi2x (fun _ => ?_) ?_
  · refine pbx s1 ?_
    refine pi1x k9 ?_
    obtain ⟨r, d1, d2, e1, e2, g⟩ := q_forces G (xs (k + 1))
    refine pbx e1 ?_
    refine pbx s1 ?_
    refine pi1x k10 ?_
    refine pbx e2 ?_
    refine pi1x rfl ?_
    exact ⟨S, d2, by rw [← hk6], g⟩
  refine pi2x (fun _ => ?_) ?_
  · refine pbx s1 ?_
    refine pi1x k9 ?_
    obtain ⟨r, d1, d2, e1, e2, g⟩ := q_best G (xs (k + 1))
    refine pbx e1 ?_
    refine pbx s1 ?_
    refine pi1x k10 ?_
    refine pbx e2 ?_
    refine pi1x rfl ?_
    exact ⟨S, d2, by rw [← hk6], g⟩
  refine pi2x (fun _ => ?_) ?_
  · refine pbx s1 ?_
    refine pbx s2 ?_
    refine pi1x k9 ?_
    obtain ⟨r, d2, e1, e2, g⟩ := q_chance G (xs (k + 1)) (xs (k + 2))
    refine pbx e1 ?_
    refine pbx s1 ?_
    refine pbx s2 ?_
    refine pi1x k10 ?_
    refine pbx e2 ?_
    refine pi1x rfl ?_
    exact ⟨S, d2, by rw [← hk6], g⟩
  refine pi2x (fun _ => ?_) ?_
  · refine pbx s1 ?_
    refine pi1x k9 ?_
    obtain ⟨r, d2, e1, e2, g⟩ := q_mean G (xs (k + 1))
    refine pbx e1 ?_
    refine pbx s1 ?_
    refine pi1x k10 ?_
    refine pbx e2 ?_
    refine pi1x rfl ?_
    exact ⟨S, d2, by rw [← hk6], g⟩
  refine pi2x (fun _ => ?_) ?_
  · refine pi1x k9 ?_
    obtain ⟨r, d2, e1, e2, g⟩ := q_wanted G 
    refine pbx e1 ?_
    refine pi1x k10 ?_
    refine pbx e2 ?_
    refine pi1x rfl ?_
    exact ⟨S, d2, by rw [← hk6], g⟩
  refine pi2x (fun _ => ?_) ?_
  · refine pbx s1 ?_
    refine pbx s2 ?_
    refine pbx s3 ?_
    refine pi1x k9 ?_
    obtain ⟨r, d1, d2, e1, e2, g⟩ := q_numbers G (xs (k + 1)) (xs (k + 2)) (xs (k + 3))
    refine pbx e1 ?_
    refine pbx s1 ?_
    refine pbx s2 ?_
    refine pbx s3 ?_
    refine pi1x k10 ?_
    refine pbx e2 ?_
    refine pi1x rfl ?_
    exact ⟨S, d2, by rw [← hk6], g⟩
  refine pi2x (fun _ => ?_) ?_
  · refine pbx s1 ?_
    refine pbx s2 ?_
    refine pbx s3 ?_
    refine pbx s4 ?_
    refine pi1x k9 ?_
    obtain ⟨r, d1, d2, e1, e2, g⟩ := q_write G (xs (k + 1)) (xs (k + 2)) (((xs (k + 3)).toInt64 <<< ((32 : Int32).toInt64 &&& 63)) ||| ((xs (k + 4)).toInt64 &&& (4294967295 : Int64)))
    refine pbx e1 ?_
    refine pbx s1 ?_
    refine pbx s2 ?_
    refine pbx s3 ?_
    refine pbx s4 ?_
    refine pi1x k10 ?_
    refine pbx e2 ?_
    refine pi1x rfl ?_
    exact ⟨S, d2, by rw [← hk6], g⟩
  refine pi2x (fun _ => ?_) ?_
  · refine pbx s1 ?_
    refine pbx s2 ?_
    refine pi1x k9 ?_
    obtain ⟨r, S1, d1, d2, e1, e2, g⟩ := q_lists G (xs (k + 1)) (xs (k + 2))
    refine pbx e1 ?_
    refine pbx s1 ?_
    refine pbx s2 ?_
    refine pi1x g.k10 ?_
    refine pbx e2 ?_
    refine pi1x rfl ?_
    exact ⟨S1, d2, by rw [← hk6], g⟩
  refine pi2x (fun _ => ?_) ?_
  · refine pbx s1 ?_
    refine pi1x k9 ?_
    obtain ⟨r, d1, d2, e1, e2, g⟩ := q_image G (xs (k + 1))
    refine pbx e1 ?_
    refine pbx s1 ?_
    refine pi1x k10 ?_
    refine pbx e2 ?_
    refine pi1x rfl ?_
    exact ⟨S, d2, by rw [← hk6], g⟩
  refine pi2x (fun _ => ?_) ?_
  · refine pbx s1 ?_
    refine pi1x k9 ?_
    obtain ⟨r, d1, d2, e1, e2, g⟩ := q_restore G (xs (k + 1))
    refine pbx e1 ?_
    refine pbx s1 ?_
    refine pi1x k10 ?_
    refine pbx e2 ?_
    refine pi1x rfl ?_
    exact ⟨S, d2, by rw [← hk6], g⟩
  refine pi2x (fun _ => ?_) ?_
  · refine pbx s1 ?_
    refine pi1x k9 ?_
    obtain ⟨r, d2, e1, e2, g⟩ := q_count G (xs (k + 1))
    refine pbx e1 ?_
    refine pbx s1 ?_
    refine pi1x k10 ?_
    refine pbx e2 ?_
    refine pi1x rfl ?_
    exact ⟨S, d2, by rw [← hk6], g⟩
  exact ⟨S, d, by rw [← hk6], G⟩
/-- the counts stay in the room -/
theorem GD.room {S : sk_S} {d : sk_D} (h : GD S d) : 115 ≤ S.1.1 ∧ S.1.1 ≤ 600000 ∧ S.1.2 ≤ 7302250 := by
  obtain ⟨A, h, _, _⟩ := h
  obtain ⟨q, c, w, m, len, hw, _⟩ := h.2.2.2.2.2.2
  obtain ⟨_, _, _, _, _, _, _, _, _, _, _, _, _, _, ⟨e, he, hl⟩, g1, g2, g3, g4⟩ := hw
  have : len ≤ 65536 := by
    rw [hl]
    exact Nat.le_trans (Nat.pow_le_pow_right (by omega) he) (by decide)
  omega
theorem law_loop {S0 S4 : sk_S} {xs : Nat → Int32} {L0 : Nat} (e0 : S0.1.1 + 1 = 1) (e4 : S4.1.1 + 1 = 94) (hL : L0 ≤ 3072) : ∀ f k S d, L0 - k ≤ f → k ≤ L0 → GD S d → ∃ SS dd, sk_itr (fL_law_L18 S0 L0 S4 xs) (nI k, S, d) = some (true, SS, dd) ∧ GD SS dd := by
  intro f
  induction f with
  | zero =>
    intro k S d hf hk G
    refine ⟨S, d, sk_itr_exit ?_, G⟩
    unfold fL_law_L18
    rw [if_pos]
    have h1 : k = L0 := by omega
    subst h1
    show Int32.ofNat k - (6 : Int32) < nI k
    rw [fa_lt, show (6 : Int32) = nI 6 from rfl, fb_subI (by rw [nI_toInt (by omega), show Int32.ofNat k = nI k from rfl, nI_toInt (by omega)]; omega) (by rw [nI_toInt (by omega), show Int32.ofNat k = nI k from rfl, nI_toInt (by omega)]; omega), show Int32.ofNat k = nI k from rfl, nI_toInt (by omega), nI_toInt (by omega)]
    omega
  | succ f ih =>
    intro k S d hf hk G
    by_cases q : k + 6 ≤ L0
    · obtain ⟨S1, d1, e1, G1⟩ := law_step (xs := xs) e0 e4 hL q G
      rw [sk_itr_step e1]
      exact ih (k + 6) S1 d1 (by omega) q G1
    · refine ⟨S, d, sk_itr_exit ?_, G⟩
      unfold fL_law_L18
      rw [if_pos]
      show Int32.ofNat L0 - (6 : Int32) < nI k
      rw [fa_lt, show (6 : Int32) = nI 6 from rfl, fb_subI (by rw [nI_toInt (by omega), show Int32.ofNat L0 = nI L0 from rfl, nI_toInt (by omega)]; omega) (by rw [nI_toInt (by omega), show Int32.ofNat L0 = nI L0 from rfl, nI_toInt (by omega)]; omega), show Int32.ofNat L0 = nI L0 from rfl, nI_toInt (by omega), nI_toInt (by omega), nI_toInt (by omega)]
      omega
theorem law_true (xs : Nat → Int32) {L0 : Nat} (hL : L0 ≤ 3072) : ∃ SS dd, fL_law xs L0 SS0 dd0 = some (true, SS, dd) ∧ SS.1.1 ≤ 600000 ∧ SS.1.2 ≤ 7302250 := by
  obtain ⟨d, t1, t2, t3⟩ := i_two
  obtain ⟨SS, dd, l1, l2⟩ := law_loop (S0 := SS0) (S4 := mkS 93 sS1 DD1) (xs := xs) rfl rfl hL L0 0 (mkS 115 sSz DDl) d (by omega) (by omega) ⟨AA0, t2, t3, AA0_ok⟩
  refine ⟨SS, dd, ?_, l2.room.2.1, l2.room.2.2⟩
  unfold fL_law
  refine bs i_one.1 ?_
  refine bs t1 ?_
  exact bs l1 rfl
