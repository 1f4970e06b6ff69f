/-! the words, fields and sites that the methods use, by program -/
theorem fl_B_13 : x_FL "DescriptorDesk$ByteRow" 13 5 1 := ⟨5, _, rfl, rfl, by decide, Or.inl w_38⟩
theorem fl_B_17 : x_FL "DescriptorDesk$ByteRow" 17 5 2 := ⟨5, _, rfl, rfl, by decide, Or.inl w_39⟩
theorem fl_B_9 : x_FL "DescriptorDesk$ByteRow" 9 5 0 := ⟨5, _, rfl, rfl, by decide, Or.inl w_37⟩
theorem fl_D_11 : x_FL "DescriptorDesk" 11 0 0 := ⟨0, _, rfl, rfl, by decide, Or.inl w_143⟩
theorem fl_D_112 : x_FL "DescriptorDesk" 112 4 2 := ⟨4, _, rfl, rfl, by decide, Or.inr ⟨"DescriptorDesk", by decide +kernel⟩⟩
theorem fl_D_115 : x_FL "DescriptorDesk" 115 4 1 := ⟨4, _, rfl, rfl, by decide, Or.inr ⟨"DescriptorDesk", by decide +kernel⟩⟩
theorem fl_D_133 : x_FL "DescriptorDesk" 133 1 4 := ⟨1, _, rfl, rfl, by decide, Or.inr ⟨"DescriptorDesk", by decide +kernel⟩⟩
theorem fl_D_158 : x_FL "DescriptorDesk" 158 2 1 := ⟨2, _, rfl, rfl, by decide, Or.inr ⟨"DescriptorDesk", by decide +kernel⟩⟩
theorem fl_D_162 : x_FL "DescriptorDesk" 162 2 2 := ⟨2, _, rfl, rfl, by decide, Or.inr ⟨"DescriptorDesk", by decide +kernel⟩⟩
theorem fl_D_169 : x_FL "DescriptorDesk" 169 5 2 := ⟨5, _, rfl, rfl, by decide, Or.inr ⟨"DescriptorDesk", by decide +kernel⟩⟩
theorem fl_D_17 : x_FL "DescriptorDesk" 17 0 1 := ⟨0, _, rfl, rfl, by decide, Or.inl w_144⟩
theorem fl_D_178 : x_FL "DescriptorDesk" 178 1 1 := ⟨1, _, rfl, rfl, by decide, Or.inr ⟨"DescriptorDesk", by decide +kernel⟩⟩
theorem fl_D_181 : x_FL "DescriptorDesk" 181 1 2 := ⟨1, _, rfl, rfl, by decide, Or.inr ⟨"DescriptorDesk", by decide +kernel⟩⟩
theorem fl_D_184 : x_FL "DescriptorDesk" 184 1 3 := ⟨1, _, rfl, rfl, by decide, Or.inr ⟨"DescriptorDesk", by decide +kernel⟩⟩
theorem fl_D_191 : x_FL "DescriptorDesk" 191 2 4 := ⟨2, _, rfl, rfl, by decide, Or.inr ⟨"DescriptorDesk", by decide +kernel⟩⟩
theorem fl_D_197 : x_FL "DescriptorDesk" 197 2 3 := ⟨2, _, rfl, rfl, by decide, Or.inr ⟨"DescriptorDesk", by decide +kernel⟩⟩
theorem fl_D_23 : x_FL "DescriptorDesk" 23 0 2 := ⟨0, _, rfl, rfl, by decide, Or.inl w_145⟩
theorem fl_D_246 : x_FL "DescriptorDesk" 246 2 0 := ⟨2, _, rfl, rfl, by decide, Or.inr ⟨"DescriptorDesk", by decide +kernel⟩⟩
theorem fl_D_250 : x_FL "DescriptorDesk" 250 3 0 := ⟨3, _, rfl, rfl, by decide, Or.inr ⟨"DescriptorDesk", by decide +kernel⟩⟩
theorem fl_D_253 : x_FL "DescriptorDesk" 253 3 2 := ⟨3, _, rfl, rfl, by decide, Or.inr ⟨"DescriptorDesk", by decide +kernel⟩⟩
theorem fl_D_256 : x_FL "DescriptorDesk" 256 3 1 := ⟨3, _, rfl, rfl, by decide, Or.inr ⟨"DescriptorDesk", by decide +kernel⟩⟩
theorem fl_D_29 : x_FL "DescriptorDesk" 29 0 3 := ⟨0, _, rfl, rfl, by decide, Or.inl w_146⟩
theorem fl_D_36 : x_FL "DescriptorDesk" 36 0 4 := ⟨0, _, rfl, rfl, by decide, Or.inl w_147⟩
theorem fl_D_40 : x_FL "DescriptorDesk" 40 0 5 := ⟨0, _, rfl, rfl, by decide, Or.inl w_148⟩
theorem fl_D_43 : x_FL "DescriptorDesk" 43 0 6 := ⟨0, _, rfl, rfl, by decide, Or.inl w_149⟩
theorem fl_F_15 : x_FL "DescriptorDesk$StoredFile" 15 4 1 := ⟨4, _, rfl, rfl, by decide, Or.inl w_128⟩
theorem fl_F_19 : x_FL "DescriptorDesk$StoredFile" 19 4 2 := ⟨4, _, rfl, rfl, by decide, Or.inl w_130⟩
theorem fl_F_22 : x_FL "DescriptorDesk$StoredFile" 22 4 3 := ⟨4, _, rfl, rfl, by decide, Or.inl w_132⟩
theorem fl_F_9 : x_FL "DescriptorDesk$StoredFile" 9 4 0 := ⟨4, _, rfl, rfl, by decide, Or.inl w_127⟩
theorem fl_I_12 : x_FL "DescriptorDesk$Pipe" 12 3 0 := ⟨3, _, rfl, rfl, by decide, Or.inl w_109⟩
theorem fl_I_18 : x_FL "DescriptorDesk$Pipe" 18 3 1 := ⟨3, _, rfl, rfl, by decide, Or.inl w_111⟩
theorem fl_I_22 : x_FL "DescriptorDesk$Pipe" 22 3 2 := ⟨3, _, rfl, rfl, by decide, Or.inl w_113⟩
theorem fl_M_120 : x_FL "DescriptorDeskModel" 120 32 17 := ⟨6, _, rfl, rfl, by decide, Or.inl w_638⟩
theorem fl_M_13 : x_FL "DescriptorDeskModel" 13 32 2 := ⟨6, _, rfl, rfl, by decide, Or.inl w_623⟩
theorem fl_M_16 : x_FL "DescriptorDeskModel" 16 32 3 := ⟨6, _, rfl, rfl, by decide, Or.inl w_624⟩
theorem fl_M_161 : x_FL "DescriptorDeskModel" 161 32 19 := ⟨6, _, rfl, rfl, by decide, Or.inl w_640⟩
theorem fl_M_19 : x_FL "DescriptorDeskModel" 19 32 4 := ⟨6, _, rfl, rfl, by decide, Or.inl w_625⟩
theorem fl_M_22 : x_FL "DescriptorDeskModel" 22 32 5 := ⟨6, _, rfl, rfl, by decide, Or.inl w_626⟩
theorem fl_M_26 : x_FL "DescriptorDeskModel" 26 32 6 := ⟨6, _, rfl, rfl, by decide, Or.inl w_627⟩
theorem fl_M_29 : x_FL "DescriptorDeskModel" 29 32 7 := ⟨6, _, rfl, rfl, by decide, Or.inl w_628⟩
theorem fl_M_32 : x_FL "DescriptorDeskModel" 32 32 8 := ⟨6, _, rfl, rfl, by decide, Or.inl w_629⟩
theorem fl_M_35 : x_FL "DescriptorDeskModel" 35 32 9 := ⟨6, _, rfl, rfl, by decide, Or.inl w_630⟩
theorem fl_M_38 : x_FL "DescriptorDeskModel" 38 32 10 := ⟨6, _, rfl, rfl, by decide, Or.inl w_631⟩
theorem fl_M_41 : x_FL "DescriptorDeskModel" 41 32 11 := ⟨6, _, rfl, rfl, by decide, Or.inl w_632⟩
theorem fl_M_44 : x_FL "DescriptorDeskModel" 44 32 12 := ⟨6, _, rfl, rfl, by decide, Or.inl w_633⟩
theorem fl_M_48 : x_FL "DescriptorDeskModel" 48 32 13 := ⟨6, _, rfl, rfl, by decide, Or.inl w_634⟩
theorem fl_M_51 : x_FL "DescriptorDeskModel" 51 32 14 := ⟨6, _, rfl, rfl, by decide, Or.inl w_635⟩
theorem fl_M_54 : x_FL "DescriptorDeskModel" 54 32 15 := ⟨6, _, rfl, rfl, by decide, Or.inl w_636⟩
theorem fl_M_57 : x_FL "DescriptorDeskModel" 57 32 16 := ⟨6, _, rfl, rfl, by decide, Or.inl w_637⟩
theorem fl_M_60 : x_FL "DescriptorDeskModel" 60 32 18 := ⟨6, _, rfl, rfl, by decide, Or.inl w_639⟩
theorem fl_M_63 : x_FL "DescriptorDeskModel" 63 32 20 := ⟨6, _, rfl, rfl, by decide, Or.inl w_641⟩
theorem fl_M_66 : x_FL "DescriptorDeskModel" 66 32 0 := ⟨6, _, rfl, rfl, by decide, Or.inl w_621⟩
theorem fl_M_7 : x_FL "DescriptorDeskModel" 7 32 1 := ⟨6, _, rfl, rfl, by decide, Or.inl w_622⟩
theorem fl_O_13 : x_FL "DescriptorDesk$Opening" 13 2 1 := ⟨2, _, rfl, rfl, by decide, Or.inl w_82⟩
theorem fl_O_17 : x_FL "DescriptorDesk$Opening" 17 2 2 := ⟨2, _, rfl, rfl, by decide, Or.inl w_84⟩
theorem fl_O_21 : x_FL "DescriptorDesk$Opening" 21 2 3 := ⟨2, _, rfl, rfl, by decide, Or.inl w_86⟩
theorem fl_O_24 : x_FL "DescriptorDesk$Opening" 24 2 4 := ⟨2, _, rfl, rfl, by decide, Or.inl w_88⟩
theorem fl_O_33 : x_FL "DescriptorDesk$Opening" 33 4 3 := ⟨4, _, rfl, rfl, by decide, Or.inr ⟨"DescriptorDesk", by decide +kernel⟩⟩
theorem fl_O_7 : x_FL "DescriptorDesk$Opening" 7 2 0 := ⟨2, _, rfl, rfl, by decide, Or.inl w_80⟩
theorem fl_P_11 : x_FL "DescriptorDesk$Proc" 11 1 0 := ⟨1, _, rfl, rfl, by decide, Or.inl w_55⟩
theorem fl_P_17 : x_FL "DescriptorDesk$Proc" 17 1 1 := ⟨1, _, rfl, rfl, by decide, Or.inl w_56⟩
theorem fl_P_21 : x_FL "DescriptorDesk$Proc" 21 1 2 := ⟨1, _, rfl, rfl, by decide, Or.inl w_58⟩
theorem fl_P_24 : x_FL "DescriptorDesk$Proc" 24 1 3 := ⟨1, _, rfl, rfl, by decide, Or.inl w_60⟩
theorem fl_P_27 : x_FL "DescriptorDesk$Proc" 27 1 4 := ⟨1, _, rfl, rfl, by decide, Or.inl w_62⟩
theorem fl_P_44 : x_FL "DescriptorDesk$Proc" 44 2 4 := ⟨2, _, rfl, rfl, by decide, Or.inr ⟨"DescriptorDesk", by decide +kernel⟩⟩
theorem pf_B_13 (mn : String) : x_PF "DescriptorDesk$ByteRow" 13 5 1 mn := fun ci r hc hr => by have hc : some 5 = some ci := hc; cases hc; cases hr; exact Or.inl rfl
theorem pf_B_17 (mn : String) : x_PF "DescriptorDesk$ByteRow" 17 5 2 mn := fun ci r hc hr => by have hc : some 5 = some ci := hc; cases hc; cases hr; exact Or.inl rfl
theorem pf_B_9 {mn : String} (h : mn = "<init>") : x_PF "DescriptorDesk$ByteRow" 9 5 0 mn := fun ci r hc hr => by have hc : some 5 = some ci := hc; cases hc; cases hr; exact Or.inr ⟨rfl, h, rfl, w_37⟩
theorem pf_D_11 {mn : String} (h : mn = "<init>") : x_PF "DescriptorDesk" 11 0 0 mn := fun ci r hc hr => by have hc : some 0 = some ci := hc; cases hc; cases hr; exact Or.inr ⟨rfl, h, rfl, w_143⟩
theorem pf_D_112 (mn : String) : x_PF "DescriptorDesk" 112 4 2 mn := fun ci r hc hr => by have hc : some 4 = some ci := hc; cases hc; cases hr; exact Or.inl rfl
theorem pf_D_115 (mn : String) : x_PF "DescriptorDesk" 115 4 1 mn := fun ci r hc hr => by have hc : some 4 = some ci := hc; cases hc; cases hr; exact Or.inl rfl
theorem pf_D_133 (mn : String) : x_PF "DescriptorDesk" 133 1 4 mn := fun ci r hc hr => by have hc : some 1 = some ci := hc; cases hc; cases hr; exact Or.inl rfl
theorem pf_D_162 (mn : String) : x_PF "DescriptorDesk" 162 2 2 mn := fun ci r hc hr => by have hc : some 2 = some ci := hc; cases hc; cases hr; exact Or.inl rfl
theorem pf_D_17 {mn : String} (h : mn = "<init>") : x_PF "DescriptorDesk" 17 0 1 mn := fun ci r hc hr => by have hc : some 0 = some ci := hc; cases hc; cases hr; exact Or.inr ⟨rfl, h, rfl, w_144⟩
theorem pf_D_23 {mn : String} (h : mn = "<init>") : x_PF "DescriptorDesk" 23 0 2 mn := fun ci r hc hr => by have hc : some 0 = some ci := hc; cases hc; cases hr; exact Or.inr ⟨rfl, h, rfl, w_145⟩
theorem pf_D_29 {mn : String} (h : mn = "<init>") : x_PF "DescriptorDesk" 29 0 3 mn := fun ci r hc hr => by have hc : some 0 = some ci := hc; cases hc; cases hr; exact Or.inr ⟨rfl, h, rfl, w_146⟩
theorem pf_D_36 {mn : String} (h : mn = "<init>") : x_PF "DescriptorDesk" 36 0 4 mn := fun ci r hc hr => by have hc : some 0 = some ci := hc; cases hc; cases hr; exact Or.inr ⟨rfl, h, rfl, w_147⟩
theorem pf_D_40 {mn : String} (h : mn = "<init>") : x_PF "DescriptorDesk" 40 0 5 mn := fun ci r hc hr => by have hc : some 0 = some ci := hc; cases hc; cases hr; exact Or.inr ⟨rfl, h, rfl, w_148⟩
theorem pf_D_43 (mn : String) : x_PF "DescriptorDesk" 43 0 6 mn := fun ci r hc hr => by have hc : some 0 = some ci := hc; cases hc; cases hr; exact Or.inl rfl
theorem pf_F_15 (mn : String) : x_PF "DescriptorDesk$StoredFile" 15 4 1 mn := fun ci r hc hr => by have hc : some 4 = some ci := hc; cases hc; cases hr; exact Or.inl rfl
theorem pf_F_19 (mn : String) : x_PF "DescriptorDesk$StoredFile" 19 4 2 mn := fun ci r hc hr => by have hc : some 4 = some ci := hc; cases hc; cases hr; exact Or.inl rfl
theorem pf_F_22 (mn : String) : x_PF "DescriptorDesk$StoredFile" 22 4 3 mn := fun ci r hc hr => by have hc : some 4 = some ci := hc; cases hc; cases hr; exact Or.inl rfl
theorem pf_F_9 {mn : String} (h : mn = "<init>") : x_PF "DescriptorDesk$StoredFile" 9 4 0 mn := fun ci r hc hr => by have hc : some 4 = some ci := hc; cases hc; cases hr; exact Or.inr ⟨rfl, h, rfl, w_127⟩
theorem pf_I_12 {mn : String} (h : mn = "<init>") : x_PF "DescriptorDesk$Pipe" 12 3 0 mn := fun ci r hc hr => by have hc : some 3 = some ci := hc; cases hc; cases hr; exact Or.inr ⟨rfl, h, rfl, w_109⟩
theorem pf_I_18 (mn : String) : x_PF "DescriptorDesk$Pipe" 18 3 1 mn := fun ci r hc hr => by have hc : some 3 = some ci := hc; cases hc; cases hr; exact Or.inl rfl
theorem pf_I_22 (mn : String) : x_PF "DescriptorDesk$Pipe" 22 3 2 mn := fun ci r hc hr => by have hc : some 3 = some ci := hc; cases hc; cases hr; exact Or.inl rfl
theorem pf_M_120 (mn : String) : x_PF "DescriptorDeskModel" 120 32 17 mn := fun ci r hc hr => by have hc : some 6 = some ci := hc; cases hc; cases hr; exact Or.inl rfl
theorem pf_M_13 {mn : String} (h : mn = "<init>") : x_PF "DescriptorDeskModel" 13 32 2 mn := fun ci r hc hr => by have hc : some 6 = some ci := hc; cases hc; cases hr; exact Or.inr ⟨rfl, h, rfl, w_623⟩
theorem pf_M_16 {mn : String} (h : mn = "<init>") : x_PF "DescriptorDeskModel" 16 32 3 mn := fun ci r hc hr => by have hc : some 6 = some ci := hc; cases hc; cases hr; exact Or.inr ⟨rfl, h, rfl, w_624⟩
theorem pf_M_161 (mn : String) : x_PF "DescriptorDeskModel" 161 32 19 mn := fun ci r hc hr => by have hc : some 6 = some ci := hc; cases hc; cases hr; exact Or.inl rfl
theorem pf_M_19 {mn : String} (h : mn = "<init>") : x_PF "DescriptorDeskModel" 19 32 4 mn := fun ci r hc hr => by have hc : some 6 = some ci := hc; cases hc; cases hr; exact Or.inr ⟨rfl, h, rfl, w_625⟩
theorem pf_M_22 {mn : String} (h : mn = "<init>") : x_PF "DescriptorDeskModel" 22 32 5 mn := fun ci r hc hr => by have hc : some 6 = some ci := hc; cases hc; cases hr; exact Or.inr ⟨rfl, h, rfl, w_626⟩
theorem pf_M_26 {mn : String} (h : mn = "<init>") : x_PF "DescriptorDeskModel" 26 32 6 mn := fun ci r hc hr => by have hc : some 6 = some ci := hc; cases hc; cases hr; exact Or.inr ⟨rfl, h, rfl, w_627⟩
theorem pf_M_29 {mn : String} (h : mn = "<init>") : x_PF "DescriptorDeskModel" 29 32 7 mn := fun ci r hc hr => by have hc : some 6 = some ci := hc; cases hc; cases hr; exact Or.inr ⟨rfl, h, rfl, w_628⟩
theorem pf_M_32 {mn : String} (h : mn = "<init>") : x_PF "DescriptorDeskModel" 32 32 8 mn := fun ci r hc hr => by have hc : some 6 = some ci := hc; cases hc; cases hr; exact Or.inr ⟨rfl, h, rfl, w_629⟩
theorem pf_M_35 {mn : String} (h : mn = "<init>") : x_PF "DescriptorDeskModel" 35 32 9 mn := fun ci r hc hr => by have hc : some 6 = some ci := hc; cases hc; cases hr; exact Or.inr ⟨rfl, h, rfl, w_630⟩
theorem pf_M_38 {mn : String} (h : mn = "<init>") : x_PF "DescriptorDeskModel" 38 32 10 mn := fun ci r hc hr => by have hc : some 6 = some ci := hc; cases hc; cases hr; exact Or.inr ⟨rfl, h, rfl, w_631⟩
theorem pf_M_41 {mn : String} (h : mn = "<init>") : x_PF "DescriptorDeskModel" 41 32 11 mn := fun ci r hc hr => by have hc : some 6 = some ci := hc; cases hc; cases hr; exact Or.inr ⟨rfl, h, rfl, w_632⟩
theorem pf_M_44 {mn : String} (h : mn = "<init>") : x_PF "DescriptorDeskModel" 44 32 12 mn := fun ci r hc hr => by have hc : some 6 = some ci := hc; cases hc; cases hr; exact Or.inr ⟨rfl, h, rfl, w_633⟩
theorem pf_M_48 {mn : String} (h : mn = "<init>") : x_PF "DescriptorDeskModel" 48 32 13 mn := fun ci r hc hr => by have hc : some 6 = some ci := hc; cases hc; cases hr; exact Or.inr ⟨rfl, h, rfl, w_634⟩
theorem pf_M_51 {mn : String} (h : mn = "<init>") : x_PF "DescriptorDeskModel" 51 32 14 mn := fun ci r hc hr => by have hc : some 6 = some ci := hc; cases hc; cases hr; exact Or.inr ⟨rfl, h, rfl, w_635⟩
theorem pf_M_54 {mn : String} (h : mn = "<init>") : x_PF "DescriptorDeskModel" 54 32 15 mn := fun ci r hc hr => by have hc : some 6 = some ci := hc; cases hc; cases hr; exact Or.inr ⟨rfl, h, rfl, w_636⟩
theorem pf_M_57 {mn : String} (h : mn = "<init>") : x_PF "DescriptorDeskModel" 57 32 16 mn := fun ci r hc hr => by have hc : some 6 = some ci := hc; cases hc; cases hr; exact Or.inr ⟨rfl, h, rfl, w_637⟩
theorem pf_M_60 {mn : String} (h : mn = "<init>") : x_PF "DescriptorDeskModel" 60 32 18 mn := fun ci r hc hr => by have hc : some 6 = some ci := hc; cases hc; cases hr; exact Or.inr ⟨rfl, h, rfl, w_639⟩
theorem pf_M_63 {mn : String} (h : mn = "<init>") : x_PF "DescriptorDeskModel" 63 32 20 mn := fun ci r hc hr => by have hc : some 6 = some ci := hc; cases hc; cases hr; exact Or.inr ⟨rfl, h, rfl, w_641⟩
theorem pf_M_66 (mn : String) : x_PF "DescriptorDeskModel" 66 32 0 mn := fun ci r hc hr => by have hc : some 6 = some ci := hc; cases hc; cases hr; exact Or.inl rfl
theorem pf_M_7 {mn : String} (h : mn = "<init>") : x_PF "DescriptorDeskModel" 7 32 1 mn := fun ci r hc hr => by have hc : some 6 = some ci := hc; cases hc; cases hr; exact Or.inr ⟨rfl, h, rfl, w_622⟩
theorem pf_O_13 (mn : String) : x_PF "DescriptorDesk$Opening" 13 2 1 mn := fun ci r hc hr => by have hc : some 2 = some ci := hc; cases hc; cases hr; exact Or.inl rfl
theorem pf_O_17 (mn : String) : x_PF "DescriptorDesk$Opening" 17 2 2 mn := fun ci r hc hr => by have hc : some 2 = some ci := hc; cases hc; cases hr; exact Or.inl rfl
theorem pf_O_21 (mn : String) : x_PF "DescriptorDesk$Opening" 21 2 3 mn := fun ci r hc hr => by have hc : some 2 = some ci := hc; cases hc; cases hr; exact Or.inl rfl
theorem pf_O_24 (mn : String) : x_PF "DescriptorDesk$Opening" 24 2 4 mn := fun ci r hc hr => by have hc : some 2 = some ci := hc; cases hc; cases hr; exact Or.inl rfl
theorem pf_O_33 (mn : String) : x_PF "DescriptorDesk$Opening" 33 4 3 mn := fun ci r hc hr => by have hc : some 4 = some ci := hc; cases hc; cases hr; exact Or.inl rfl
theorem pf_O_7 (mn : String) : x_PF "DescriptorDesk$Opening" 7 2 0 mn := fun ci r hc hr => by have hc : some 2 = some ci := hc; cases hc; cases hr; exact Or.inl rfl
theorem pf_P_11 {mn : String} (h : mn = "<init>") : x_PF "DescriptorDesk$Proc" 11 1 0 mn := fun ci r hc hr => by have hc : some 1 = some ci := hc; cases hc; cases hr; exact Or.inr ⟨rfl, h, rfl, w_55⟩
theorem pf_P_17 (mn : String) : x_PF "DescriptorDesk$Proc" 17 1 1 mn := fun ci r hc hr => by have hc : some 1 = some ci := hc; cases hc; cases hr; exact Or.inl rfl
theorem pf_P_21 (mn : String) : x_PF "DescriptorDesk$Proc" 21 1 2 mn := fun ci r hc hr => by have hc : some 1 = some ci := hc; cases hc; cases hr; exact Or.inl rfl
theorem pf_P_24 (mn : String) : x_PF "DescriptorDesk$Proc" 24 1 3 mn := fun ci r hc hr => by have hc : some 1 = some ci := hc; cases hc; cases hr; exact Or.inl rfl
theorem pf_P_27 (mn : String) : x_PF "DescriptorDesk$Proc" 27 1 4 mn := fun ci r hc hr => by have hc : some 1 = some ci := hc; cases hc; cases hr; exact Or.inl rfl
theorem pf_P_44 (mn : String) : x_PF "DescriptorDesk$Proc" 44 2 4 mn := fun ci r hc hr => by have hc : some 2 = some ci := hc; cases hc; cases hr; exact Or.inl rfl
theorem ty_5_1 : ∀ ci, xk_c 5 = some ci → xk_ty ci 1 = .int := fun ci hc => by have hc : some 5 = some ci := hc; cases hc; rfl
theorem ty_5_2 : ∀ ci, xk_c 5 = some ci → xk_ty ci 2 = .int := fun ci hc => by have hc : some 5 = some ci := hc; cases hc; rfl
theorem ty_5_0 : ∀ ci, xk_c 5 = some ci → (∃ n, xk_ty ci 0 = .object n) ∨ ∃ t, xk_ty ci 0 = .array t := fun ci hc => by have hc : some 5 = some ci := hc; cases hc; exact Or.inr ⟨_, rfl⟩
theorem ty_0_0 : ∀ ci, xk_c 0 = some ci → (∃ n, xk_ty ci 0 = .object n) ∨ ∃ t, xk_ty ci 0 = .array t := fun ci hc => by have hc : some 0 = some ci := hc; cases hc; exact Or.inr ⟨_, rfl⟩
theorem ty_4_2 : ∀ ci, xk_c 4 = some ci → xk_ty ci 2 = .int := fun ci hc => by have hc : some 4 = some ci := hc; cases hc; rfl
theorem ty_4_1 : ∀ ci, xk_c 4 = some ci → xk_ty ci 1 = .int := fun ci hc => by have hc : some 4 = some ci := hc; cases hc; rfl
theorem ty_1_4 : ∀ ci, xk_c 1 = some ci → xk_ty ci 4 = .long := fun ci hc => by have hc : some 1 = some ci := hc; cases hc; rfl
theorem ty_2_2 : ∀ ci, xk_c 2 = some ci → xk_ty ci 2 = .int := fun ci hc => by have hc : some 2 = some ci := hc; cases hc; rfl
theorem ty_0_1 : ∀ ci, xk_c 0 = some ci → (∃ n, xk_ty ci 1 = .object n) ∨ ∃ t, xk_ty ci 1 = .array t := fun ci hc => by have hc : some 0 = some ci := hc; cases hc; exact Or.inr ⟨_, rfl⟩
theorem ty_0_2 : ∀ ci, xk_c 0 = some ci → (∃ n, xk_ty ci 2 = .object n) ∨ ∃ t, xk_ty ci 2 = .array t := fun ci hc => by have hc : some 0 = some ci := hc; cases hc; exact Or.inr ⟨_, rfl⟩
theorem ty_0_3 : ∀ ci, xk_c 0 = some ci → (∃ n, xk_ty ci 3 = .object n) ∨ ∃ t, xk_ty ci 3 = .array t := fun ci hc => by have hc : some 0 = some ci := hc; cases hc; exact Or.inr ⟨_, rfl⟩
theorem ty_0_4 : ∀ ci, xk_c 0 = some ci → (∃ n, xk_ty ci 4 = .object n) ∨ ∃ t, xk_ty ci 4 = .array t := fun ci hc => by have hc : some 0 = some ci := hc; cases hc; exact Or.inl ⟨_, rfl⟩
theorem ty_0_5 : ∀ ci, xk_c 0 = some ci → (∃ n, xk_ty ci 5 = .object n) ∨ ∃ t, xk_ty ci 5 = .array t := fun ci hc => by have hc : some 0 = some ci := hc; cases hc; exact Or.inl ⟨_, rfl⟩
theorem ty_0_6 : ∀ ci, xk_c 0 = some ci → xk_ty ci 6 = .int := fun ci hc => by have hc : some 0 = some ci := hc; cases hc; rfl
theorem ty_4_3 : ∀ ci, xk_c 4 = some ci → xk_ty ci 3 = .int := fun ci hc => by have hc : some 4 = some ci := hc; cases hc; rfl
theorem ty_4_0 : ∀ ci, xk_c 4 = some ci → (∃ n, xk_ty ci 0 = .object n) ∨ ∃ t, xk_ty ci 0 = .array t := fun ci hc => by have hc : some 4 = some ci := hc; cases hc; exact Or.inr ⟨_, rfl⟩
theorem ty_3_0 : ∀ ci, xk_c 3 = some ci → (∃ n, xk_ty ci 0 = .object n) ∨ ∃ t, xk_ty ci 0 = .array t := fun ci hc => by have hc : some 3 = some ci := hc; cases hc; exact Or.inl ⟨_, rfl⟩
theorem ty_3_1 : ∀ ci, xk_c 3 = some ci → xk_ty ci 1 = .int := fun ci hc => by have hc : some 3 = some ci := hc; cases hc; rfl
theorem ty_3_2 : ∀ ci, xk_c 3 = some ci → xk_ty ci 2 = .int := fun ci hc => by have hc : some 3 = some ci := hc; cases hc; rfl
theorem ty_32_17 : ∀ ci, xk_c 32 = some ci → xk_ty ci 17 = .int := fun ci hc => by have hc : some 6 = some ci := hc; cases hc; rfl
theorem ty_32_2 : ∀ ci, xk_c 32 = some ci → (∃ n, xk_ty ci 2 = .object n) ∨ ∃ t, xk_ty ci 2 = .array t := fun ci hc => by have hc : some 6 = some ci := hc; cases hc; exact Or.inr ⟨_, rfl⟩
theorem ty_32_3 : ∀ ci, xk_c 32 = some ci → (∃ n, xk_ty ci 3 = .object n) ∨ ∃ t, xk_ty ci 3 = .array t := fun ci hc => by have hc : some 6 = some ci := hc; cases hc; exact Or.inr ⟨_, rfl⟩
theorem ty_32_19 : ∀ ci, xk_c 32 = some ci → xk_ty ci 19 = .long := fun ci hc => by have hc : some 6 = some ci := hc; cases hc; rfl
theorem ty_32_4 : ∀ ci, xk_c 32 = some ci → (∃ n, xk_ty ci 4 = .object n) ∨ ∃ t, xk_ty ci 4 = .array t := fun ci hc => by have hc : some 6 = some ci := hc; cases hc; exact Or.inr ⟨_, rfl⟩
theorem ty_32_5 : ∀ ci, xk_c 32 = some ci → (∃ n, xk_ty ci 5 = .object n) ∨ ∃ t, xk_ty ci 5 = .array t := fun ci hc => by have hc : some 6 = some ci := hc; cases hc; exact Or.inr ⟨_, rfl⟩
theorem ty_32_6 : ∀ ci, xk_c 32 = some ci → (∃ n, xk_ty ci 6 = .object n) ∨ ∃ t, xk_ty ci 6 = .array t := fun ci hc => by have hc : some 6 = some ci := hc; cases hc; exact Or.inr ⟨_, rfl⟩
theorem ty_32_7 : ∀ ci, xk_c 32 = some ci → (∃ n, xk_ty ci 7 = .object n) ∨ ∃ t, xk_ty ci 7 = .array t := fun ci hc => by have hc : some 6 = some ci := hc; cases hc; exact Or.inr ⟨_, rfl⟩
theorem ty_32_8 : ∀ ci, xk_c 32 = some ci → (∃ n, xk_ty ci 8 = .object n) ∨ ∃ t, xk_ty ci 8 = .array t := fun ci hc => by have hc : some 6 = some ci := hc; cases hc; exact Or.inr ⟨_, rfl⟩
theorem ty_32_9 : ∀ ci, xk_c 32 = some ci → (∃ n, xk_ty ci 9 = .object n) ∨ ∃ t, xk_ty ci 9 = .array t := fun ci hc => by have hc : some 6 = some ci := hc; cases hc; exact Or.inr ⟨_, rfl⟩
theorem ty_32_10 : ∀ ci, xk_c 32 = some ci → (∃ n, xk_ty ci 10 = .object n) ∨ ∃ t, xk_ty ci 10 = .array t := fun ci hc => by have hc : some 6 = some ci := hc; cases hc; exact Or.inr ⟨_, rfl⟩
theorem ty_32_11 : ∀ ci, xk_c 32 = some ci → (∃ n, xk_ty ci 11 = .object n) ∨ ∃ t, xk_ty ci 11 = .array t := fun ci hc => by have hc : some 6 = some ci := hc; cases hc; exact Or.inr ⟨_, rfl⟩
theorem ty_32_12 : ∀ ci, xk_c 32 = some ci → (∃ n, xk_ty ci 12 = .object n) ∨ ∃ t, xk_ty ci 12 = .array t := fun ci hc => by have hc : some 6 = some ci := hc; cases hc; exact Or.inr ⟨_, rfl⟩
theorem ty_32_13 : ∀ ci, xk_c 32 = some ci → (∃ n, xk_ty ci 13 = .object n) ∨ ∃ t, xk_ty ci 13 = .array t := fun ci hc => by have hc : some 6 = some ci := hc; cases hc; exact Or.inr ⟨_, rfl⟩
theorem ty_32_14 : ∀ ci, xk_c 32 = some ci → (∃ n, xk_ty ci 14 = .object n) ∨ ∃ t, xk_ty ci 14 = .array t := fun ci hc => by have hc : some 6 = some ci := hc; cases hc; exact Or.inr ⟨_, rfl⟩
theorem ty_32_15 : ∀ ci, xk_c 32 = some ci → (∃ n, xk_ty ci 15 = .object n) ∨ ∃ t, xk_ty ci 15 = .array t := fun ci hc => by have hc : some 6 = some ci := hc; cases hc; exact Or.inr ⟨_, rfl⟩
theorem ty_32_16 : ∀ ci, xk_c 32 = some ci → (∃ n, xk_ty ci 16 = .object n) ∨ ∃ t, xk_ty ci 16 = .array t := fun ci hc => by have hc : some 6 = some ci := hc; cases hc; exact Or.inr ⟨_, rfl⟩
theorem ty_32_18 : ∀ ci, xk_c 32 = some ci → (∃ n, xk_ty ci 18 = .object n) ∨ ∃ t, xk_ty ci 18 = .array t := fun ci hc => by have hc : some 6 = some ci := hc; cases hc; exact Or.inr ⟨_, rfl⟩
theorem ty_32_20 : ∀ ci, xk_c 32 = some ci → (∃ n, xk_ty ci 20 = .object n) ∨ ∃ t, xk_ty ci 20 = .array t := fun ci hc => by have hc : some 6 = some ci := hc; cases hc; exact Or.inr ⟨_, rfl⟩
theorem ty_32_0 : ∀ ci, xk_c 32 = some ci → xk_ty ci 0 = .int := fun ci hc => by have hc : some 6 = some ci := hc; cases hc; rfl
theorem ty_32_1 : ∀ ci, xk_c 32 = some ci → (∃ n, xk_ty ci 1 = .object n) ∨ ∃ t, xk_ty ci 1 = .array t := fun ci hc => by have hc : some 6 = some ci := hc; cases hc; exact Or.inr ⟨_, rfl⟩
theorem ty_2_1 : ∀ ci, xk_c 2 = some ci → (∃ n, xk_ty ci 1 = .object n) ∨ ∃ t, xk_ty ci 1 = .array t := fun ci hc => by have hc : some 2 = some ci := hc; cases hc; exact Or.inl ⟨_, rfl⟩
theorem ty_2_3 : ∀ ci, xk_c 2 = some ci → xk_ty ci 3 = .int := fun ci hc => by have hc : some 2 = some ci := hc; cases hc; rfl
theorem ty_2_4 : ∀ ci, xk_c 2 = some ci → xk_ty ci 4 = .int := fun ci hc => by have hc : some 2 = some ci := hc; cases hc; rfl
theorem ty_2_0 : ∀ ci, xk_c 2 = some ci → (∃ n, xk_ty ci 0 = .object n) ∨ ∃ t, xk_ty ci 0 = .array t := fun ci hc => by have hc : some 2 = some ci := hc; cases hc; exact Or.inl ⟨_, rfl⟩
theorem ty_1_0 : ∀ ci, xk_c 1 = some ci → (∃ n, xk_ty ci 0 = .object n) ∨ ∃ t, xk_ty ci 0 = .array t := fun ci hc => by have hc : some 1 = some ci := hc; cases hc; exact Or.inr ⟨_, rfl⟩
theorem ty_1_1 : ∀ ci, xk_c 1 = some ci → xk_ty ci 1 = .int := fun ci hc => by have hc : some 1 = some ci := hc; cases hc; rfl
theorem ty_1_2 : ∀ ci, xk_c 1 = some ci → xk_ty ci 2 = .int := fun ci hc => by have hc : some 1 = some ci := hc; cases hc; rfl
theorem ty_1_3 : ∀ ci, xk_c 1 = some ci → xk_ty ci 3 = .int := fun ci hc => by have hc : some 1 = some ci := hc; cases hc; rfl
theorem ar_6 : x_ar 6 2 1 (.object "DescriptorDesk$Proc") := ⟨rfl, fun _ => ⟨rfl, rfl⟩, rfl⟩
theorem ar_7 : x_ar 7 2 2 (.object "DescriptorDesk$Opening") := ⟨rfl, fun _ => ⟨rfl, rfl⟩, rfl⟩
theorem ar_8 : x_ar 8 2 3 (.object "DescriptorDesk$Pipe") := ⟨rfl, fun _ => ⟨rfl, rfl⟩, rfl⟩
theorem ar_9 : x_ar 9 2 4 (.object "DescriptorDesk$StoredFile") := ⟨rfl, fun _ => ⟨rfl, rfl⟩, rfl⟩
theorem ar_10 : x_ar 10 2 2 (.object "DescriptorDesk$Opening") := ⟨rfl, fun _ => ⟨rfl, rfl⟩, rfl⟩
theorem ar_11 : x_ar 11 0 0 (.int) := ⟨rfl, fun _ => ⟨rfl, rfl⟩, rfl⟩
theorem ar_12 : x_ar 12 0 0 (.int) := ⟨rfl, fun _ => ⟨rfl, rfl⟩, rfl⟩
theorem ar_33 : x_ar 33 0 0 (.int) := ⟨rfl, fun _ => ⟨rfl, rfl⟩, rfl⟩
theorem ar_34 : x_ar 34 0 0 (.int) := ⟨rfl, fun _ => ⟨rfl, rfl⟩, rfl⟩
theorem ar_35 : x_ar 35 0 0 (.int) := ⟨rfl, fun _ => ⟨rfl, rfl⟩, rfl⟩
theorem ar_36 : x_ar 36 0 0 (.int) := ⟨rfl, fun _ => ⟨rfl, rfl⟩, rfl⟩
theorem ar_37 : x_ar 37 1 0 (.long) := ⟨rfl, fun _ => ⟨rfl, rfl⟩, rfl⟩
theorem ar_38 : x_ar 38 0 0 (.int) := ⟨rfl, fun _ => ⟨rfl, rfl⟩, rfl⟩
theorem ar_39 : x_ar 39 0 0 (.int) := ⟨rfl, fun _ => ⟨rfl, rfl⟩, rfl⟩
theorem ar_40 : x_ar 40 0 0 (.int) := ⟨rfl, fun _ => ⟨rfl, rfl⟩, rfl⟩
theorem ar_41 : x_ar 41 0 0 (.int) := ⟨rfl, fun _ => ⟨rfl, rfl⟩, rfl⟩
theorem ar_42 : x_ar 42 0 0 (.int) := ⟨rfl, fun _ => ⟨rfl, rfl⟩, rfl⟩
theorem ar_43 : x_ar 43 0 0 (.int) := ⟨rfl, fun _ => ⟨rfl, rfl⟩, rfl⟩
theorem ar_44 : x_ar 44 0 0 (.boolean) := ⟨rfl, fun _ => ⟨rfl, rfl⟩, rfl⟩
theorem ar_45 : x_ar 45 0 0 (.boolean) := ⟨rfl, fun _ => ⟨rfl, rfl⟩, rfl⟩
theorem ar_46 : x_ar 46 0 0 (.int) := ⟨rfl, fun _ => ⟨rfl, rfl⟩, rfl⟩
theorem ar_47 : x_ar 47 0 0 (.int) := ⟨rfl, fun _ => ⟨rfl, rfl⟩, rfl⟩
theorem ar_48 : x_ar 48 0 0 (.int) := ⟨rfl, fun _ => ⟨rfl, rfl⟩, rfl⟩
theorem ar_49 : x_ar 49 0 0 (.int) := ⟨rfl, fun _ => ⟨rfl, rfl⟩, rfl⟩
theorem ar_50 : x_ar 50 0 0 (.int) := ⟨rfl, fun _ => ⟨rfl, rfl⟩, rfl⟩
theorem ar_64 : x_ar 64 1 0 (.long) := ⟨rfl, fun _ => ⟨rfl, rfl⟩, rfl⟩
theorem df_1 : ∀ k, k < 5 → defaultValue (xk_ty 1 k) = xdf (xk_s 1 k) := fun k hk => by have h : k = 0 ∨ k = 1 ∨ k = 2 ∨ k = 3 ∨ k = 4 := (by omega); rcases h with rfl | rfl | rfl | rfl | rfl <;> rfl
theorem df_2 : ∀ k, k < 5 → defaultValue (xk_ty 2 k) = xdf (xk_s 2 k) := fun k hk => by have h : k = 0 ∨ k = 1 ∨ k = 2 ∨ k = 3 ∨ k = 4 := (by omega); rcases h with rfl | rfl | rfl | rfl | rfl <;> rfl
theorem df_3 : ∀ k, k < 3 → defaultValue (xk_ty 3 k) = xdf (xk_s 3 k) := fun k hk => by have h : k = 0 ∨ k = 1 ∨ k = 2 := (by omega); rcases h with rfl | rfl | rfl <;> rfl
theorem df_4 : ∀ k, k < 4 → defaultValue (xk_ty 4 k) = xdf (xk_s 4 k) := fun k hk => by have h : k = 0 ∨ k = 1 ∨ k = 2 ∨ k = 3 := (by omega); rcases h with rfl | rfl | rfl | rfl <;> rfl
theorem df_5 : ∀ k, k < 3 → defaultValue (xk_ty 5 k) = xdf (xk_s 5 k) := fun k hk => by have h : k = 0 ∨ k = 1 ∨ k = 2 := (by omega); rcases h with rfl | rfl | rfl <;> rfl
theorem oa_D_84 : x_OA "DescriptorDesk" 84 "java/lang/IllegalStateException" ["java/lang/RuntimeException", "java/lang/Exception"] := by unfold x_OA; decide +kernel
theorem oa_D_155 : x_OA "DescriptorDesk" 155 "java/lang/IllegalArgumentException" ["java/lang/RuntimeException", "java/lang/Exception"] := by unfold x_OA; decide +kernel
theorem cs_D_35 : x_SI "DescriptorDesk" 35 ⟨"DescriptorDesk$ByteRow", "<init>", "()V"⟩ M_B_init 0 := ⟨⟨rfl, rfl, Or.inl ⟨rfl, w_35⟩⟩, by decide +kernel, ⟨rfl, rfl, w_35, rfl⟩, Or.inr ⟨"DescriptorDesk", by decide +kernel⟩, w_34, by decide +kernel, by decide +kernel⟩
theorem cs_D_47 : x_SI "DescriptorDesk" 47 ⟨"DescriptorDesk$Proc", "<init>", "()V"⟩ M_P_init 0 := ⟨⟨rfl, rfl, Or.inl ⟨rfl, w_52⟩⟩, by decide +kernel, ⟨rfl, rfl, w_52, rfl⟩, Or.inr ⟨"DescriptorDesk", by decide +kernel⟩, w_51, by decide +kernel, by decide +kernel⟩
theorem cs_D_48 : x_SI "DescriptorDesk" 48 ⟨"DescriptorDesk$Opening", "<init>", "()V"⟩ M_O_init 0 := ⟨⟨rfl, rfl, Or.inl ⟨rfl, w_78⟩⟩, by decide +kernel, ⟨rfl, rfl, w_78, rfl⟩, Or.inr ⟨"DescriptorDesk", by decide +kernel⟩, w_77, by decide +kernel, by decide +kernel⟩
theorem cs_D_49 : x_SI "DescriptorDesk" 49 ⟨"DescriptorDesk$Pipe", "<init>", "()V"⟩ M_I_init 0 := ⟨⟨rfl, rfl, Or.inl ⟨rfl, w_105⟩⟩, by decide +kernel, ⟨rfl, rfl, w_105, rfl⟩, Or.inr ⟨"DescriptorDesk", by decide +kernel⟩, w_104, by decide +kernel, by decide +kernel⟩
theorem cs_D_50 : x_SI "DescriptorDesk" 50 ⟨"DescriptorDesk$StoredFile", "<init>", "()V"⟩ M_F_init 0 := ⟨⟨rfl, rfl, Or.inl ⟨rfl, w_125⟩⟩, by decide +kernel, ⟨rfl, rfl, w_125, rfl⟩, Or.inr ⟨"DescriptorDesk", by decide +kernel⟩, w_124, by decide +kernel, by decide +kernel⟩
theorem cs_D_51 : x_SV "DescriptorDesk" 51 ⟨"DescriptorDesk", "leastAbsent", "()I"⟩ M_D_leastAbsent 0 0 := ⟨⟨rfl, rfl, Or.inl ⟨rfl, w_172⟩⟩, by decide +kernel, w_169, w_171, ⟨0, _, rfl, rfl, List.mem_filter.mpr ⟨List.mem_append_left _ (List.mem_of_getElem? (i := 0) (by decide +kernel)), by decide +kernel⟩⟩, by decide +kernel, by decide +kernel⟩
theorem cs_D_55 : x_SV "DescriptorDesk" 55 ⟨"DescriptorDesk", "freeOpening", "(LDescriptorDesk$Opening;)LDescriptorDesk$Opening;"⟩ M_D_freeOpening 0 1 := ⟨⟨rfl, rfl, Or.inl ⟨rfl, w_176⟩⟩, by decide +kernel, w_173, w_175, ⟨0, _, rfl, rfl, List.mem_filter.mpr ⟨List.mem_append_left _ (List.mem_of_getElem? (i := 1) (by decide +kernel)), by decide +kernel⟩⟩, by decide +kernel, by decide +kernel⟩
theorem cs_D_59 : x_SV "DescriptorDesk" 59 ⟨"DescriptorDesk$Proc", "begin", "()V"⟩ M_P_begin 1 0 := ⟨⟨rfl, rfl, Or.inl ⟨rfl, w_180⟩⟩, by decide +kernel, w_177, w_178, ⟨1, _, rfl, rfl, w_179⟩, by decide +kernel, by decide +kernel⟩
theorem cs_D_62 : x_SV "DescriptorDesk" 62 ⟨"DescriptorDesk$Opening", "begin", "(LDescriptorDesk$Pipe;LDescriptorDesk$StoredFile;I)V"⟩ M_O_begin 2 3 := ⟨⟨rfl, rfl, Or.inl ⟨rfl, w_188⟩⟩, by decide +kernel, w_185, w_186, ⟨2, _, rfl, rfl, w_187⟩, by decide +kernel, by decide +kernel⟩
theorem cs_D_65 : x_SV "DescriptorDesk" 65 ⟨"DescriptorDesk$Proc", "hold", "(ILDescriptorDesk$Opening;)V"⟩ M_P_hold 1 2 := ⟨⟨rfl, rfl, Or.inl ⟨rfl, w_196⟩⟩, by decide +kernel, w_193, w_194, ⟨1, _, rfl, rfl, w_195⟩, by decide +kernel, by decide +kernel⟩
theorem cs_D_69 : x_SV "DescriptorDesk" 69 ⟨"DescriptorDesk", "readyProc", "(I)LDescriptorDesk$Proc;"⟩ M_D_readyProc 0 1 := ⟨⟨rfl, rfl, Or.inl ⟨rfl, w_339⟩⟩, by decide +kernel, w_336, w_338, ⟨0, _, rfl, rfl, List.mem_filter.mpr ⟨List.mem_append_left _ (List.mem_of_getElem? (i := 15) (by decide +kernel)), by decide +kernel⟩⟩, by decide +kernel, by decide +kernel⟩
theorem cs_D_73 : x_SV "DescriptorDesk" 73 ⟨"DescriptorDesk$Proc", "openingAt", "(I)LDescriptorDesk$Opening;"⟩ M_P_openingAt 1 1 := ⟨⟨rfl, rfl, Or.inl ⟨rfl, w_204⟩⟩, by decide +kernel, w_245, w_202, ⟨1, _, rfl, rfl, w_203⟩, by decide +kernel, by decide +kernel⟩
theorem cs_D_77 : x_SV "DescriptorDesk" 77 ⟨"DescriptorDesk", "procThere", "(I)LDescriptorDesk$Proc;"⟩ M_D_procThere 0 1 := ⟨⟨rfl, rfl, Or.inl ⟨rfl, w_228⟩⟩, by decide +kernel, w_225, w_227, ⟨0, _, rfl, rfl, List.mem_filter.mpr ⟨List.mem_append_left _ (List.mem_of_getElem? (i := 2) (by decide +kernel)), by decide +kernel⟩⟩, by decide +kernel, by decide +kernel⟩
theorem cs_D_87 : x_SV "DescriptorDesk" 87 ⟨"DescriptorDesk$Proc", "beAbsent", "()V"⟩ M_P_beAbsent 1 0 := ⟨⟨rfl, rfl, Or.inl ⟨rfl, w_418⟩⟩, by decide +kernel, w_415, w_416, ⟨1, _, rfl, rfl, w_417⟩, by decide +kernel, by decide +kernel⟩
theorem cs_D_90 : x_SV "DescriptorDesk" 90 ⟨"DescriptorDesk", "wakeAll", "()I"⟩ M_D_wakeAll 0 0 := ⟨⟨rfl, rfl, Or.inl ⟨rfl, w_422⟩⟩, by decide +kernel, w_419, w_421, ⟨0, _, rfl, rfl, List.mem_filter.mpr ⟨List.mem_append_left _ (List.mem_of_getElem? (i := 17) (by decide +kernel)), by decide +kernel⟩⟩, by decide +kernel, by decide +kernel⟩
theorem cs_D_93 : x_SS "DescriptorDesk" 93 ⟨"DescriptorDesk", "checkName", "(I)V"⟩ M_D_checkName 1 := ⟨⟨rfl, rfl, Or.inl ⟨rfl, w_448⟩⟩, by decide +kernel, w_446, w_447, w_1, by decide +kernel, by decide +kernel⟩
theorem cs_D_97 : x_SS "DescriptorDesk" 97 ⟨"DescriptorDesk", "checkHow", "(I)V"⟩ M_D_checkHow 1 := ⟨⟨rfl, rfl, Or.inl ⟨rfl, w_467⟩⟩, by decide +kernel, w_465, w_466, w_1, by decide +kernel, by decide +kernel⟩
theorem cs_D_100 : x_SV "DescriptorDesk" 100 ⟨"DescriptorDesk", "fileNamed", "(I)LDescriptorDesk$StoredFile;"⟩ M_D_fileNamed 0 1 := ⟨⟨rfl, rfl, Or.inl ⟨rfl, w_472⟩⟩, by decide +kernel, w_469, w_471, ⟨0, _, rfl, rfl, List.mem_filter.mpr ⟨List.mem_append_left _ (List.mem_of_getElem? (i := 20) (by decide +kernel)), by decide +kernel⟩⟩, by decide +kernel, by decide +kernel⟩
theorem cs_D_104 : x_SV "DescriptorDesk" 104 ⟨"DescriptorDesk", "freeFile", "()LDescriptorDesk$StoredFile;"⟩ M_D_freeFile 0 0 := ⟨⟨rfl, rfl, Or.inl ⟨rfl, w_476⟩⟩, by decide +kernel, w_473, w_475, ⟨0, _, rfl, rfl, List.mem_filter.mpr ⟨List.mem_append_left _ (List.mem_of_getElem? (i := 21) (by decide +kernel)), by decide +kernel⟩⟩, by decide +kernel, by decide +kernel⟩
theorem cs_D_108 : x_SV "DescriptorDesk" 108 ⟨"DescriptorDesk$Proc", "freeFrom", "(I)I"⟩ M_P_freeFrom 1 1 := ⟨⟨rfl, rfl, Or.inl ⟨rfl, w_480⟩⟩, by decide +kernel, w_477, w_478, ⟨1, _, rfl, rfl, w_479⟩, by decide +kernel, by decide +kernel⟩
theorem cs_D_118 : x_SV "DescriptorDesk" 118 ⟨"DescriptorDesk", "freePipe", "()LDescriptorDesk$Pipe;"⟩ M_D_freePipe 0 0 := ⟨⟨rfl, rfl, Or.inl ⟨rfl, w_494⟩⟩, by decide +kernel, w_491, w_493, ⟨0, _, rfl, rfl, List.mem_filter.mpr ⟨List.mem_append_left _ (List.mem_of_getElem? (i := 22) (by decide +kernel)), by decide +kernel⟩⟩, by decide +kernel, by decide +kernel⟩
theorem cs_D_122 : x_SS "DescriptorDesk" 122 ⟨"DescriptorDesk", "checkAmount", "(I)V"⟩ M_D_checkAmount 1 := ⟨⟨rfl, rfl, Or.inl ⟨rfl, w_504⟩⟩, by decide +kernel, w_502, w_503, w_1, by decide +kernel, by decide +kernel⟩
theorem cs_D_125 : x_SV "DescriptorDesk" 125 ⟨"DescriptorDesk", "hindranceToRead", "(LDescriptorDesk$Opening;I)I"⟩ M_D_hindranceToRead 0 2 := ⟨⟨rfl, rfl, Or.inl ⟨rfl, w_430⟩⟩, by decide +kernel, w_427, w_429, ⟨0, _, rfl, rfl, List.mem_filter.mpr ⟨List.mem_append_left _ (List.mem_of_getElem? (i := 19) (by decide +kernel)), by decide +kernel⟩⟩, by decide +kernel, by decide +kernel⟩
theorem cs_D_129 : x_SV "DescriptorDesk" 129 ⟨"DescriptorDesk$Proc", "beWaiting", "(III)V"⟩ M_P_beWaiting 1 3 := ⟨⟨rfl, rfl, Or.inl ⟨rfl, w_509⟩⟩, by decide +kernel, w_506, w_507, ⟨1, _, rfl, rfl, w_508⟩, by decide +kernel, by decide +kernel⟩
theorem cs_D_137 : x_SV "DescriptorDesk" 137 ⟨"DescriptorDesk", "take", "(LDescriptorDesk$Proc;LDescriptorDesk$Opening;I)I"⟩ M_D_take 0 3 := ⟨⟨rfl, rfl, Or.inl ⟨rfl, w_513⟩⟩, by decide +kernel, w_510, w_512, ⟨0, _, rfl, rfl, List.mem_filter.mpr ⟨List.mem_append_left _ (List.mem_of_getElem? (i := 23) (by decide +kernel)), by decide +kernel⟩⟩, by decide +kernel, by decide +kernel⟩
theorem cs_D_141 : x_SS "DescriptorDesk" 141 ⟨"DescriptorDesk", "hindranceToWrite", "(LDescriptorDesk$Opening;I)I"⟩ M_D_hindranceToWrite 2 := ⟨⟨rfl, rfl, Or.inl ⟨rfl, w_433⟩⟩, by decide +kernel, w_431, w_432, w_1, by decide +kernel, by decide +kernel⟩
theorem cs_D_144 : x_SV "DescriptorDesk" 144 ⟨"DescriptorDesk", "put", "(LDescriptorDesk$Opening;JI)V"⟩ M_D_put 0 3 := ⟨⟨rfl, rfl, Or.inl ⟨rfl, w_550⟩⟩, by decide +kernel, w_547, w_549, ⟨0, _, rfl, rfl, List.mem_filter.mpr ⟨List.mem_append_left _ (List.mem_of_getElem? (i := 25) (by decide +kernel)), by decide +kernel⟩⟩, by decide +kernel, by decide +kernel⟩
theorem cs_D_148 : x_SV "DescriptorDesk" 148 ⟨"DescriptorDesk$Proc", "release", "(I)V"⟩ M_P_release 1 1 := ⟨⟨rfl, rfl, Or.inl ⟨rfl, w_200⟩⟩, by decide +kernel, w_575, w_198, ⟨1, _, rfl, rfl, w_199⟩, by decide +kernel, by decide +kernel⟩
theorem cs_D_172 : x_SV "DescriptorDesk" 172 ⟨"DescriptorDesk$ByteRow", "addLast", "(I)V"⟩ M_B_addLast 5 1 := ⟨⟨rfl, rfl, Or.inl ⟨rfl, w_558⟩⟩, by decide +kernel, w_555, w_556, ⟨5, _, rfl, rfl, w_557⟩, by decide +kernel, by decide +kernel⟩
theorem cs_D_175 : x_SV "DescriptorDesk" 175 ⟨"DescriptorDesk$ByteRow", "byteAt", "(I)I"⟩ M_B_byteAt 5 1 := ⟨⟨rfl, rfl, Or.inl ⟨rfl, w_236⟩⟩, by decide +kernel, w_233, w_234, ⟨5, _, rfl, rfl, w_235⟩, by decide +kernel, by decide +kernel⟩
theorem cs_D_187 : x_SS "DescriptorDesk" 187 ⟨"DescriptorDesk", "kindOf", "(LDescriptorDesk$Opening;)I"⟩ M_D_kindOf 1 := ⟨⟨rfl, rfl, Or.inl ⟨rfl, w_248⟩⟩, by decide +kernel, w_246, w_247, w_1, by decide +kernel, by decide +kernel⟩
theorem cs_D_194 : x_SV "DescriptorDesk" 194 ⟨"DescriptorDesk", "bytesIn", "(LDescriptorDesk$Opening;)I"⟩ M_D_bytesIn 0 1 := ⟨⟨rfl, rfl, Or.inl ⟨rfl, w_256⟩⟩, by decide +kernel, w_253, w_255, ⟨0, _, rfl, rfl, List.mem_filter.mpr ⟨List.mem_append_left _ (List.mem_of_getElem? (i := 3) (by decide +kernel)), by decide +kernel⟩⟩, by decide +kernel, by decide +kernel⟩
theorem cs_D_200 : x_SV "DescriptorDesk" 200 ⟨"DescriptorDesk", "procsThere", "()I"⟩ M_D_procsThere 0 0 := ⟨⟨rfl, rfl, Or.inl ⟨rfl, w_264⟩⟩, by decide +kernel, w_261, w_263, ⟨0, _, rfl, rfl, List.mem_filter.mpr ⟨List.mem_append_left _ (List.mem_of_getElem? (i := 4) (by decide +kernel)), by decide +kernel⟩⟩, by decide +kernel, by decide +kernel⟩
theorem cs_D_203 : x_SV "DescriptorDesk" 203 ⟨"DescriptorDesk", "procsWaiting", "()I"⟩ M_D_procsWaiting 0 0 := ⟨⟨rfl, rfl, Or.inl ⟨rfl, w_268⟩⟩, by decide +kernel, w_265, w_267, ⟨0, _, rfl, rfl, List.mem_filter.mpr ⟨List.mem_append_left _ (List.mem_of_getElem? (i := 5) (by decide +kernel)), by decide +kernel⟩⟩, by decide +kernel, by decide +kernel⟩
theorem cs_D_206 : x_SV "DescriptorDesk" 206 ⟨"DescriptorDesk", "openingsThere", "()I"⟩ M_D_openingsThere 0 0 := ⟨⟨rfl, rfl, Or.inl ⟨rfl, w_276⟩⟩, by decide +kernel, w_273, w_275, ⟨0, _, rfl, rfl, List.mem_filter.mpr ⟨List.mem_append_left _ (List.mem_of_getElem? (i := 6) (by decide +kernel)), by decide +kernel⟩⟩, by decide +kernel, by decide +kernel⟩
theorem cs_D_209 : x_SV "DescriptorDesk" 209 ⟨"DescriptorDesk", "pipesThere", "()I"⟩ M_D_pipesThere 0 0 := ⟨⟨rfl, rfl, Or.inl ⟨rfl, w_280⟩⟩, by decide +kernel, w_277, w_279, ⟨0, _, rfl, rfl, List.mem_filter.mpr ⟨List.mem_append_left _ (List.mem_of_getElem? (i := 7) (by decide +kernel)), by decide +kernel⟩⟩, by decide +kernel, by decide +kernel⟩
theorem cs_D_212 : x_SV "DescriptorDesk" 212 ⟨"DescriptorDesk", "filesThere", "()I"⟩ M_D_filesThere 0 0 := ⟨⟨rfl, rfl, Or.inl ⟨rfl, w_285⟩⟩, by decide +kernel, w_282, w_284, ⟨0, _, rfl, rfl, List.mem_filter.mpr ⟨List.mem_append_left _ (List.mem_of_getElem? (i := 8) (by decide +kernel)), by decide +kernel⟩⟩, by decide +kernel, by decide +kernel⟩
theorem cs_D_215 : x_SV "DescriptorDesk" 215 ⟨"DescriptorDesk", "filesWithNames", "()I"⟩ M_D_filesWithNames 0 0 := ⟨⟨rfl, rfl, Or.inl ⟨rfl, w_293⟩⟩, by decide +kernel, w_290, w_292, ⟨0, _, rfl, rfl, List.mem_filter.mpr ⟨List.mem_append_left _ (List.mem_of_getElem? (i := 9) (by decide +kernel)), by decide +kernel⟩⟩, by decide +kernel, by decide +kernel⟩
theorem cs_D_218 : x_SV "DescriptorDesk" 218 ⟨"DescriptorDesk", "bytesInPipes", "()I"⟩ M_D_bytesInPipes 0 0 := ⟨⟨rfl, rfl, Or.inl ⟨rfl, w_297⟩⟩, by decide +kernel, w_294, w_296, ⟨0, _, rfl, rfl, List.mem_filter.mpr ⟨List.mem_append_left _ (List.mem_of_getElem? (i := 10) (by decide +kernel)), by decide +kernel⟩⟩, by decide +kernel, by decide +kernel⟩
theorem cs_D_221 : x_SV "DescriptorDesk" 221 ⟨"DescriptorDesk", "waitingInVain", "()I"⟩ M_D_waitingInVain 0 0 := ⟨⟨rfl, rfl, Or.inl ⟨rfl, w_301⟩⟩, by decide +kernel, w_298, w_300, ⟨0, _, rfl, rfl, List.mem_filter.mpr ⟨List.mem_append_left _ (List.mem_of_getElem? (i := 11) (by decide +kernel)), by decide +kernel⟩⟩, by decide +kernel, by decide +kernel⟩
theorem cs_D_224 : x_SS "DescriptorDesk" 224 ⟨"java/lang/Integer", "bitCount", "(I)I"⟩ M_Int_bitCount 1 := ⟨⟨rfl, rfl, Or.inl ⟨rfl, w_324⟩⟩, by decide +kernel, w_322, w_323, w_14, by decide +kernel, by decide +kernel⟩
theorem cs_D_237 : x_SV "DescriptorDesk" 237 ⟨"DescriptorDesk$Pipe", "isThere", "()Z"⟩ M_I_isThere 3 0 := ⟨⟨rfl, rfl, Or.inl ⟨rfl, w_216⟩⟩, by decide +kernel, w_281, w_214, ⟨3, _, rfl, rfl, w_215⟩, by decide +kernel, by decide +kernel⟩
theorem cs_D_241 : x_SV "DescriptorDesk" 241 ⟨"DescriptorDesk$StoredFile", "isThere", "()Z"⟩ M_F_isThere 4 0 := ⟨⟨rfl, rfl, Or.inl ⟨rfl, w_289⟩⟩, by decide +kernel, w_286, w_287, ⟨4, _, rfl, rfl, w_288⟩, by decide +kernel, by decide +kernel⟩
theorem cs_D_242 : x_SV "DescriptorDesk" 242 ⟨"DescriptorDesk$Opening", "has", "(I)Z"⟩ M_O_has 2 1 := ⟨⟨rfl, rfl, Or.inl ⟨rfl, w_252⟩⟩, by decide +kernel, w_249, w_250, ⟨2, _, rfl, rfl, w_251⟩, by decide +kernel, by decide +kernel⟩
theorem cs_D_259 : x_SS "DescriptorDesk" 259 ⟨"DescriptorDesk", "placeToWrite", "(LDescriptorDesk$Opening;LDescriptorDesk$StoredFile;)I"⟩ M_D_placeToWrite 2 := ⟨⟨rfl, rfl, Or.inl ⟨rfl, w_436⟩⟩, by decide +kernel, w_434, w_435, w_1, by decide +kernel, by decide +kernel⟩
theorem cs_D_263 : x_SS "DescriptorDesk" 263 ⟨"DescriptorDesk", "takeFromPipe", "(LDescriptorDesk$Proc;LDescriptorDesk$Pipe;I)I"⟩ M_D_takeFromPipe 3 := ⟨⟨rfl, rfl, Or.inl ⟨rfl, w_516⟩⟩, by decide +kernel, w_514, w_515, w_1, by decide +kernel, by decide +kernel⟩
theorem cs_D_267 : x_SS "DescriptorDesk" 267 ⟨"DescriptorDesk", "takeFromFile", "(LDescriptorDesk$Proc;LDescriptorDesk$Opening;LDescriptorDesk$StoredFile;I)I"⟩ M_D_takeFromFile 4 := ⟨⟨rfl, rfl, Or.inl ⟨rfl, w_530⟩⟩, by decide +kernel, w_528, w_529, w_1, by decide +kernel, by decide +kernel⟩
theorem cs_D_271 : x_SV "DescriptorDesk" 271 ⟨"DescriptorDesk", "takeFromConsole", "(LDescriptorDesk$Proc;I)I"⟩ M_D_takeFromConsole 0 2 := ⟨⟨rfl, rfl, Or.inl ⟨rfl, w_539⟩⟩, by decide +kernel, w_536, w_538, ⟨0, _, rfl, rfl, List.mem_filter.mpr ⟨List.mem_append_left _ (List.mem_of_getElem? (i := 24) (by decide +kernel)), by decide +kernel⟩⟩, by decide +kernel, by decide +kernel⟩
theorem cs_D_275 : x_SS "DescriptorDesk" 275 ⟨"java/lang/Math", "min", "(II)I"⟩ M_Math_min 2 := ⟨⟨rfl, rfl, Or.inl ⟨rfl, w_519⟩⟩, by decide +kernel, w_517, w_518, w_13, by decide +kernel, by decide +kernel⟩
theorem cs_D_281 : x_SV "DescriptorDesk" 281 ⟨"DescriptorDesk$ByteRow", "takeFirst", "()I"⟩ M_B_takeFirst 5 0 := ⟨⟨rfl, rfl, Or.inl ⟨rfl, w_523⟩⟩, by decide +kernel, w_520, w_521, ⟨5, _, rfl, rfl, w_522⟩, by decide +kernel, by decide +kernel⟩
theorem cs_D_284 : x_SV "DescriptorDesk" 284 ⟨"DescriptorDesk$Proc", "getByte", "(I)V"⟩ M_P_getByte 1 1 := ⟨⟨rfl, rfl, Or.inl ⟨rfl, w_527⟩⟩, by decide +kernel, w_524, w_525, ⟨1, _, rfl, rfl, w_526⟩, by decide +kernel, by decide +kernel⟩
theorem cs_D_287 : x_SS "DescriptorDesk" 287 ⟨"java/lang/Math", "max", "(II)I"⟩ M_Math_max 2 := ⟨⟨rfl, rfl, Or.inl ⟨rfl, w_483⟩⟩, by decide +kernel, w_531, w_482, w_13, by decide +kernel, by decide +kernel⟩
theorem cs_D_290 : x_SV "DescriptorDesk" 290 ⟨"DescriptorDesk$StoredFile", "byteAt", "(I)I"⟩ M_F_byteAt 4 1 := ⟨⟨rfl, rfl, Or.inl ⟨rfl, w_535⟩⟩, by decide +kernel, w_532, w_533, ⟨4, _, rfl, rfl, w_534⟩, by decide +kernel, by decide +kernel⟩
theorem cs_D_291 : x_SV "DescriptorDesk" 291 ⟨"DescriptorDesk", "putByte", "(LDescriptorDesk$Opening;I)V"⟩ M_D_putByte 0 2 := ⟨⟨rfl, rfl, Or.inl ⟨rfl, w_554⟩⟩, by decide +kernel, w_551, w_553, ⟨0, _, rfl, rfl, List.mem_filter.mpr ⟨List.mem_append_left _ (List.mem_of_getElem? (i := 26) (by decide +kernel)), by decide +kernel⟩⟩, by decide +kernel, by decide +kernel⟩
theorem cs_D_295 : x_SV "DescriptorDesk" 295 ⟨"DescriptorDesk$StoredFile", "put", "(II)V"⟩ M_F_put 4 2 := ⟨⟨rfl, rfl, Or.inl ⟨rfl, w_562⟩⟩, by decide +kernel, w_559, w_560, ⟨4, _, rfl, rfl, w_561⟩, by decide +kernel, by decide +kernel⟩
theorem cs_D_298 : x_SV "DescriptorDesk" 298 ⟨"DescriptorDesk", "showByte", "(I)V"⟩ M_D_showByte 0 1 := ⟨⟨rfl, rfl, Or.inl ⟨rfl, w_567⟩⟩, by decide +kernel, w_564, w_566, ⟨0, _, rfl, rfl, List.mem_filter.mpr ⟨List.mem_append_left _ (List.mem_of_getElem? (i := 27) (by decide +kernel)), by decide +kernel⟩⟩, by decide +kernel, by decide +kernel⟩
theorem cs_D_301 : x_SV "DescriptorDesk" 301 ⟨"DescriptorDesk$Proc", "isWaiting", "()Z"⟩ M_P_isWaiting 1 0 := ⟨⟨rfl, rfl, Or.inl ⟨rfl, w_272⟩⟩, by decide +kernel, w_269, w_270, ⟨1, _, rfl, rfl, w_271⟩, by decide +kernel, by decide +kernel⟩
theorem cs_D_304 : x_SV "DescriptorDesk" 304 ⟨"DescriptorDesk", "mustWait", "(LDescriptorDesk$Proc;)Z"⟩ M_D_mustWait 0 1 := ⟨⟨rfl, rfl, Or.inl ⟨rfl, w_426⟩⟩, by decide +kernel, w_423, w_425, ⟨0, _, rfl, rfl, List.mem_filter.mpr ⟨List.mem_append_left _ (List.mem_of_getElem? (i := 18) (by decide +kernel)), by decide +kernel⟩⟩, by decide +kernel, by decide +kernel⟩
theorem cs_D_308 : x_SV "DescriptorDesk" 308 ⟨"DescriptorDesk$Proc", "beReady", "()V"⟩ M_P_beReady 1 0 := ⟨⟨rfl, rfl, Or.inl ⟨rfl, w_184⟩⟩, by decide +kernel, w_437, w_182, ⟨1, _, rfl, rfl, w_183⟩, by decide +kernel, by decide +kernel⟩
theorem cs_D_311 : x_SV "DescriptorDesk" 311 ⟨"DescriptorDesk", "vainAmong", "(I)I"⟩ M_D_vainAmong 0 1 := ⟨⟨rfl, rfl, Or.inl ⟨rfl, w_305⟩⟩, by decide +kernel, w_302, w_304, ⟨0, _, rfl, rfl, List.mem_filter.mpr ⟨List.mem_append_left _ (List.mem_of_getElem? (i := 12) (by decide +kernel)), by decide +kernel⟩⟩, by decide +kernel, by decide +kernel⟩
theorem cs_D_314 : x_SV "DescriptorDesk" 314 ⟨"DescriptorDesk", "waitsForNoneBut", "(LDescriptorDesk$Proc;I)Z"⟩ M_D_waitsForNoneBut 0 2 := ⟨⟨rfl, rfl, Or.inl ⟨rfl, w_309⟩⟩, by decide +kernel, w_306, w_308, ⟨0, _, rfl, rfl, List.mem_filter.mpr ⟨List.mem_append_left _ (List.mem_of_getElem? (i := 13) (by decide +kernel)), by decide +kernel⟩⟩, by decide +kernel, by decide +kernel⟩
theorem cs_D_318 : x_SV "DescriptorDesk" 318 ⟨"DescriptorDesk", "holdersOfEnd", "(LDescriptorDesk$Pipe;I)I"⟩ M_D_holdersOfEnd 0 2 := ⟨⟨rfl, rfl, Or.inl ⟨rfl, w_313⟩⟩, by decide +kernel, w_310, w_312, ⟨0, _, rfl, rfl, List.mem_filter.mpr ⟨List.mem_append_left _ (List.mem_of_getElem? (i := 14) (by decide +kernel)), by decide +kernel⟩⟩, by decide +kernel, by decide +kernel⟩
theorem cs_D_322 : x_SV "DescriptorDesk" 322 ⟨"DescriptorDesk$Proc", "holdsEnd", "(LDescriptorDesk$Pipe;I)Z"⟩ M_P_holdsEnd 1 2 := ⟨⟨rfl, rfl, Or.inl ⟨rfl, w_317⟩⟩, by decide +kernel, w_314, w_315, ⟨1, _, rfl, rfl, w_316⟩, by decide +kernel, by decide +kernel⟩
theorem cs_O_27 : x_SV "DescriptorDesk$Opening" 27 ⟨"DescriptorDesk$Pipe", "addEnd", "(I)V"⟩ M_I_addEnd 3 1 := ⟨⟨rfl, rfl, Or.inl ⟨rfl, w_192⟩⟩, by decide +kernel, w_189, w_190, ⟨3, _, rfl, rfl, w_191⟩, by decide +kernel, by decide +kernel⟩
theorem cs_O_38 : x_SV "DescriptorDesk$Opening" 38 ⟨"DescriptorDesk$Pipe", "dropEnd", "(I)V"⟩ M_I_dropEnd 3 1 := ⟨⟨rfl, rfl, Or.inl ⟨rfl, w_212⟩⟩, by decide +kernel, w_209, w_210, ⟨3, _, rfl, rfl, w_211⟩, by decide +kernel, by decide +kernel⟩
theorem cs_I_11 : x_SI "DescriptorDesk$Pipe" 11 ⟨"DescriptorDesk$ByteRow", "<init>", "()V"⟩ M_B_init 0 := ⟨⟨rfl, rfl, Or.inl ⟨rfl, w_35⟩⟩, by decide +kernel, ⟨rfl, rfl, w_35, rfl⟩, Or.inr ⟨"DescriptorDesk", by decide +kernel⟩, w_34, by decide +kernel, by decide +kernel⟩
theorem cs_I_25 : x_SV "DescriptorDesk$Pipe" 25 ⟨"DescriptorDesk$Pipe", "isThere", "()Z"⟩ M_I_isThere 3 0 := ⟨⟨rfl, rfl, Or.inl ⟨rfl, w_216⟩⟩, by decide +kernel, w_213, w_214, ⟨3, _, rfl, rfl, w_215⟩, by decide +kernel, by decide +kernel⟩
theorem cs_I_29 : x_SV "DescriptorDesk$Pipe" 29 ⟨"DescriptorDesk$ByteRow", "empty", "()V"⟩ M_B_empty 5 0 := ⟨⟨rfl, rfl, Or.inl ⟨rfl, w_220⟩⟩, by decide +kernel, w_217, w_218, ⟨5, _, rfl, rfl, w_219⟩, by decide +kernel, by decide +kernel⟩
theorem cs_P_31 : x_SV "DescriptorDesk$Proc" 31 ⟨"DescriptorDesk$Proc", "beReady", "()V"⟩ M_P_beReady 1 0 := ⟨⟨rfl, rfl, Or.inl ⟨rfl, w_184⟩⟩, by decide +kernel, w_181, w_182, ⟨1, _, rfl, rfl, w_183⟩, by decide +kernel, by decide +kernel⟩
theorem cs_P_34 : x_SV "DescriptorDesk$Proc" 34 ⟨"DescriptorDesk$Proc", "release", "(I)V"⟩ M_P_release 1 1 := ⟨⟨rfl, rfl, Or.inl ⟨rfl, w_200⟩⟩, by decide +kernel, w_197, w_198, ⟨1, _, rfl, rfl, w_199⟩, by decide +kernel, by decide +kernel⟩
theorem cs_P_38 : x_SS "DescriptorDesk$Proc" 38 ⟨"java/lang/Math", "max", "(II)I"⟩ M_Math_max 2 := ⟨⟨rfl, rfl, Or.inl ⟨rfl, w_483⟩⟩, by decide +kernel, w_481, w_482, w_13, by decide +kernel, by decide +kernel⟩
theorem cs_P_47 : x_SV "DescriptorDesk$Proc" 47 ⟨"DescriptorDesk$Proc", "openingAt", "(I)LDescriptorDesk$Opening;"⟩ M_P_openingAt 1 1 := ⟨⟨rfl, rfl, Or.inl ⟨rfl, w_204⟩⟩, by decide +kernel, w_201, w_202, ⟨1, _, rfl, rfl, w_203⟩, by decide +kernel, by decide +kernel⟩
theorem cs_P_51 : x_SV "DescriptorDesk$Proc" 51 ⟨"DescriptorDesk$Opening", "drop", "()V"⟩ M_O_drop 2 0 := ⟨⟨rfl, rfl, Or.inl ⟨rfl, w_208⟩⟩, by decide +kernel, w_205, w_206, ⟨2, _, rfl, rfl, w_207⟩, by decide +kernel, by decide +kernel⟩
theorem cs_P_54 : x_SV "DescriptorDesk$Proc" 54 ⟨"DescriptorDesk$Opening", "isEnd", "(LDescriptorDesk$Pipe;I)Z"⟩ M_O_isEnd 2 2 := ⟨⟨rfl, rfl, Or.inl ⟨rfl, w_321⟩⟩, by decide +kernel, w_318, w_319, ⟨2, _, rfl, rfl, w_320⟩, by decide +kernel, by decide +kernel⟩
theorem cs_F_25 : x_SS "DescriptorDesk$StoredFile" 25 ⟨"java/lang/Math", "max", "(II)I"⟩ M_Math_max 2 := ⟨⟨rfl, rfl, Or.inl ⟨rfl, w_483⟩⟩, by decide +kernel, w_563, w_482, w_13, by decide +kernel, by decide +kernel⟩
theorem cs_M_70 : x_SS "DescriptorDeskModel" 70 ⟨"DescriptorDeskModel", "in", "(III)Z"⟩ M_M_in 3 := ⟨⟨rfl, rfl, Or.inl ⟨rfl, w_729⟩⟩, by decide +kernel, w_727, w_728, w_7, by decide +kernel, by decide +kernel⟩
theorem cs_M_74 : x_SV "DescriptorDeskModel" 74 ⟨"DescriptorDeskModel", "holders", "(I)I"⟩ M_M_holders 32 1 := ⟨⟨rfl, rfl, Or.inl ⟨rfl, w_749⟩⟩, by decide +kernel, w_746, w_748, ⟨6, _, rfl, rfl, List.mem_filter.mpr ⟨List.mem_append_left _ (List.mem_of_getElem? (i := 38) (by decide +kernel)), by decide +kernel⟩⟩, by decide +kernel, by decide +kernel⟩
theorem cs_M_78 : x_SV "DescriptorDeskModel" 78 ⟨"DescriptorDeskModel", "openings", "(II)I"⟩ M_M_openings 32 2 := ⟨⟨rfl, rfl, Or.inl ⟨rfl, w_753⟩⟩, by decide +kernel, w_750, w_752, ⟨6, _, rfl, rfl, List.mem_filter.mpr ⟨List.mem_append_left _ (List.mem_of_getElem? (i := 39) (by decide +kernel)), by decide +kernel⟩⟩, by decide +kernel, by decide +kernel⟩
theorem cs_M_82 : x_SV "DescriptorDeskModel" 82 ⟨"DescriptorDeskModel", "freeOpening", "()I"⟩ M_M_freeOpening 32 0 := ⟨⟨rfl, rfl, Or.inl ⟨rfl, w_702⟩⟩, by decide +kernel, w_699, w_701, ⟨6, _, rfl, rfl, List.mem_filter.mpr ⟨List.mem_append_left _ (List.mem_of_getElem? (i := 29) (by decide +kernel)), by decide +kernel⟩⟩, by decide +kernel, by decide +kernel⟩
theorem cs_M_86 : x_SV "DescriptorDeskModel" 86 ⟨"DescriptorDeskModel", "freeDescriptor", "(I)I"⟩ M_M_freeDescriptor 32 1 := ⟨⟨rfl, rfl, Or.inl ⟨rfl, w_718⟩⟩, by decide +kernel, w_715, w_717, ⟨6, _, rfl, rfl, List.mem_filter.mpr ⟨List.mem_append_left _ (List.mem_of_getElem? (i := 33) (by decide +kernel)), by decide +kernel⟩⟩, by decide +kernel, by decide +kernel⟩
theorem cs_M_89 : x_SV "DescriptorDeskModel" 89 ⟨"DescriptorDeskModel", "freeProcess", "()I"⟩ M_M_freeProcess 32 0 := ⟨⟨rfl, rfl, Or.inl ⟨rfl, w_698⟩⟩, by decide +kernel, w_695, w_697, ⟨6, _, rfl, rfl, List.mem_filter.mpr ⟨List.mem_append_left _ (List.mem_of_getElem? (i := 28) (by decide +kernel)), by decide +kernel⟩⟩, by decide +kernel, by decide +kernel⟩
theorem cs_M_92 : x_SV "DescriptorDeskModel" 92 ⟨"DescriptorDeskModel", "begin", "(I)V"⟩ M_M_begin 32 1 := ⟨⟨rfl, rfl, Or.inl ⟨rfl, w_706⟩⟩, by decide +kernel, w_703, w_705, ⟨6, _, rfl, rfl, List.mem_filter.mpr ⟨List.mem_append_left _ (List.mem_of_getElem? (i := 30) (by decide +kernel)), by decide +kernel⟩⟩, by decide +kernel, by decide +kernel⟩
theorem cs_M_96 : x_SV "DescriptorDeskModel" 96 ⟨"DescriptorDeskModel", "newOpening", "(III)I"⟩ M_M_newOpening 32 3 := ⟨⟨rfl, rfl, Or.inl ⟨rfl, w_710⟩⟩, by decide +kernel, w_707, w_709, ⟨6, _, rfl, rfl, List.mem_filter.mpr ⟨List.mem_append_left _ (List.mem_of_getElem? (i := 31) (by decide +kernel)), by decide +kernel⟩⟩, by decide +kernel, by decide +kernel⟩
theorem cs_M_100 : x_SV "DescriptorDeskModel" 100 ⟨"DescriptorDeskModel", "give", "(II)I"⟩ M_M_give 32 2 := ⟨⟨rfl, rfl, Or.inl ⟨rfl, w_714⟩⟩, by decide +kernel, w_711, w_713, ⟨6, _, rfl, rfl, List.mem_filter.mpr ⟨List.mem_append_left _ (List.mem_of_getElem? (i := 32) (by decide +kernel)), by decide +kernel⟩⟩, by decide +kernel, by decide +kernel⟩
theorem cs_M_103 : x_SV "DescriptorDeskModel" 103 ⟨"DescriptorDeskModel", "isReady", "(I)Z"⟩ M_M_isReady 32 1 := ⟨⟨rfl, rfl, Or.inl ⟨rfl, w_726⟩⟩, by decide +kernel, w_723, w_725, ⟨6, _, rfl, rfl, List.mem_filter.mpr ⟨List.mem_append_left _ (List.mem_of_getElem? (i := 34) (by decide +kernel)), by decide +kernel⟩⟩, by decide +kernel, by decide +kernel⟩
theorem cs_M_107 : x_SV "DescriptorDeskModel" 107 ⟨"DescriptorDeskModel", "fails", "(ZZ)Z"⟩ M_M_fails 32 2 := ⟨⟨rfl, rfl, Or.inl ⟨rfl, w_733⟩⟩, by decide +kernel, w_730, w_732, ⟨6, _, rfl, rfl, List.mem_filter.mpr ⟨List.mem_append_left _ (List.mem_of_getElem? (i := 35) (by decide +kernel)), by decide +kernel⟩⟩, by decide +kernel, by decide +kernel⟩
theorem cs_M_111 : x_SV "DescriptorDeskModel" 111 ⟨"DescriptorDeskModel", "isThere", "(I)Z"⟩ M_M_isThere 32 1 := ⟨⟨rfl, rfl, Or.inl ⟨rfl, w_741⟩⟩, by decide +kernel, w_738, w_740, ⟨6, _, rfl, rfl, List.mem_filter.mpr ⟨List.mem_append_left _ (List.mem_of_getElem? (i := 36) (by decide +kernel)), by decide +kernel⟩⟩, by decide +kernel, by decide +kernel⟩
theorem cs_M_114 : x_SV "DescriptorDeskModel" 114 ⟨"DescriptorDeskModel", "sweep", "()V"⟩ M_M_sweep 32 0 := ⟨⟨rfl, rfl, Or.inl ⟨rfl, w_745⟩⟩, by decide +kernel, w_742, w_744, ⟨6, _, rfl, rfl, List.mem_filter.mpr ⟨List.mem_append_left _ (List.mem_of_getElem? (i := 37) (by decide +kernel)), by decide +kernel⟩⟩, by decide +kernel, by decide +kernel⟩
theorem cs_M_117 : x_SV "DescriptorDeskModel" 117 ⟨"DescriptorDeskModel", "wake", "()I"⟩ M_M_wake 32 0 := ⟨⟨rfl, rfl, Or.inl ⟨rfl, w_757⟩⟩, by decide +kernel, w_754, w_756, ⟨6, _, rfl, rfl, List.mem_filter.mpr ⟨List.mem_append_left _ (List.mem_of_getElem? (i := 40) (by decide +kernel)), by decide +kernel⟩⟩, by decide +kernel, by decide +kernel⟩
theorem cs_M_123 : x_SV "DescriptorDeskModel" 123 ⟨"DescriptorDeskModel", "waits", "(IZI)Z"⟩ M_M_waits 32 3 := ⟨⟨rfl, rfl, Or.inl ⟨rfl, w_761⟩⟩, by decide +kernel, w_758, w_760, ⟨6, _, rfl, rfl, List.mem_filter.mpr ⟨List.mem_append_left _ (List.mem_of_getElem? (i := 41) (by decide +kernel)), by decide +kernel⟩⟩, by decide +kernel, by decide +kernel⟩
theorem cs_M_127 : x_SV "DescriptorDeskModel" 127 ⟨"DescriptorDeskModel", "named", "(I)I"⟩ M_M_named 32 1 := ⟨⟨rfl, rfl, Or.inl ⟨rfl, w_769⟩⟩, by decide +kernel, w_766, w_768, ⟨6, _, rfl, rfl, List.mem_filter.mpr ⟨List.mem_append_left _ (List.mem_of_getElem? (i := 42) (by decide +kernel)), by decide +kernel⟩⟩, by decide +kernel, by decide +kernel⟩
theorem cs_M_130 : x_SV "DescriptorDeskModel" 130 ⟨"DescriptorDeskModel", "freeFile", "()I"⟩ M_M_freeFile 32 0 := ⟨⟨rfl, rfl, Or.inl ⟨rfl, w_773⟩⟩, by decide +kernel, w_770, w_772, ⟨6, _, rfl, rfl, List.mem_filter.mpr ⟨List.mem_append_left _ (List.mem_of_getElem? (i := 43) (by decide +kernel)), by decide +kernel⟩⟩, by decide +kernel, by decide +kernel⟩
theorem cs_M_133 : x_SV "DescriptorDeskModel" 133 ⟨"DescriptorDeskModel", "openingOf", "(II)I"⟩ M_M_openingOf 32 2 := ⟨⟨rfl, rfl, Or.inl ⟨rfl, w_789⟩⟩, by decide +kernel, w_786, w_788, ⟨6, _, rfl, rfl, List.mem_filter.mpr ⟨List.mem_append_left _ (List.mem_of_getElem? (i := 44) (by decide +kernel)), by decide +kernel⟩⟩, by decide +kernel, by decide +kernel⟩
theorem cs_M_138 : x_SV "DescriptorDeskModel" 138 ⟨"DescriptorDeskModel", "freeDescriptors", "(I)I"⟩ M_M_freeDescriptors 32 1 := ⟨⟨rfl, rfl, Or.inl ⟨rfl, w_798⟩⟩, by decide +kernel, w_795, w_797, ⟨6, _, rfl, rfl, List.mem_filter.mpr ⟨List.mem_append_left _ (List.mem_of_getElem? (i := 45) (by decide +kernel)), by decide +kernel⟩⟩, by decide +kernel, by decide +kernel⟩
theorem cs_M_141 : x_SV "DescriptorDeskModel" 141 ⟨"DescriptorDeskModel", "countOpenings", "()I"⟩ M_M_countOpenings 32 0 := ⟨⟨rfl, rfl, Or.inl ⟨rfl, w_802⟩⟩, by decide +kernel, w_799, w_801, ⟨6, _, rfl, rfl, List.mem_filter.mpr ⟨List.mem_append_left _ (List.mem_of_getElem? (i := 46) (by decide +kernel)), by decide +kernel⟩⟩, by decide +kernel, by decide +kernel⟩
theorem cs_M_144 : x_SV "DescriptorDeskModel" 144 ⟨"DescriptorDeskModel", "take", "(III)V"⟩ M_M_take 32 3 := ⟨⟨rfl, rfl, Or.inl ⟨rfl, w_818⟩⟩, by decide +kernel, w_815, w_817, ⟨6, _, rfl, rfl, List.mem_filter.mpr ⟨List.mem_append_left _ (List.mem_of_getElem? (i := 49) (by decide +kernel)), by decide +kernel⟩⟩, by decide +kernel, by decide +kernel⟩
theorem cs_M_148 : x_SV "DescriptorDeskModel" 148 ⟨"DescriptorDeskModel", "waitFor", "(IIII)I"⟩ M_M_waitFor 32 4 := ⟨⟨rfl, rfl, Or.inl ⟨rfl, w_810⟩⟩, by decide +kernel, w_807, w_809, ⟨6, _, rfl, rfl, List.mem_filter.mpr ⟨List.mem_append_left _ (List.mem_of_getElem? (i := 47) (by decide +kernel)), by decide +kernel⟩⟩, by decide +kernel, by decide +kernel⟩
theorem cs_M_152 : x_SV "DescriptorDeskModel" 152 ⟨"DescriptorDeskModel", "readPipe", "(III)I"⟩ M_M_readPipe 32 3 := ⟨⟨rfl, rfl, Or.inl ⟨rfl, w_814⟩⟩, by decide +kernel, w_811, w_813, ⟨6, _, rfl, rfl, List.mem_filter.mpr ⟨List.mem_append_left _ (List.mem_of_getElem? (i := 48) (by decide +kernel)), by decide +kernel⟩⟩, by decide +kernel, by decide +kernel⟩
theorem cs_M_155 : x_SV "DescriptorDeskModel" 155 ⟨"DescriptorDeskModel", "readFile", "(III)I"⟩ M_M_readFile 32 3 := ⟨⟨rfl, rfl, Or.inl ⟨rfl, w_822⟩⟩, by decide +kernel, w_819, w_821, ⟨6, _, rfl, rfl, List.mem_filter.mpr ⟨List.mem_append_left _ (List.mem_of_getElem? (i := 50) (by decide +kernel)), by decide +kernel⟩⟩, by decide +kernel, by decide +kernel⟩
theorem cs_M_158 : x_SV "DescriptorDeskModel" 158 ⟨"DescriptorDeskModel", "readConsole", "(II)I"⟩ M_M_readConsole 32 2 := ⟨⟨rfl, rfl, Or.inl ⟨rfl, w_826⟩⟩, by decide +kernel, w_823, w_825, ⟨6, _, rfl, rfl, List.mem_filter.mpr ⟨List.mem_append_left _ (List.mem_of_getElem? (i := 51) (by decide +kernel)), by decide +kernel⟩⟩, by decide +kernel, by decide +kernel⟩
theorem cs_M_167 : x_SV "DescriptorDeskModel" 167 ⟨"DescriptorDeskModel", "writeFile", "(IJI)I"⟩ M_M_writeFile 32 3 := ⟨⟨rfl, rfl, Or.inl ⟨rfl, w_838⟩⟩, by decide +kernel, w_835, w_837, ⟨6, _, rfl, rfl, List.mem_filter.mpr ⟨List.mem_append_left _ (List.mem_of_getElem? (i := 52) (by decide +kernel)), by decide +kernel⟩⟩, by decide +kernel, by decide +kernel⟩
theorem cs_M_171 : x_SV "DescriptorDeskModel" 171 ⟨"DescriptorDeskModel", "show", "(I)V"⟩ M_M_show 32 1 := ⟨⟨rfl, rfl, Or.inl ⟨rfl, w_842⟩⟩, by decide +kernel, w_839, w_841, ⟨6, _, rfl, rfl, List.mem_filter.mpr ⟨List.mem_append_left _ (List.mem_of_getElem? (i := 53) (by decide +kernel)), by decide +kernel⟩⟩, by decide +kernel, by decide +kernel⟩
theorem cs_M_174 : x_SV "DescriptorDeskModel" 174 ⟨"DescriptorDeskModel", "isOnly", "(III)Z"⟩ M_M_isOnly 32 3 := ⟨⟨rfl, rfl, Or.inl ⟨rfl, w_879⟩⟩, by decide +kernel, w_876, w_878, ⟨6, _, rfl, rfl, List.mem_filter.mpr ⟨List.mem_append_left _ (List.mem_of_getElem? (i := 55) (by decide +kernel)), by decide +kernel⟩⟩, by decide +kernel, by decide +kernel⟩
theorem cs_M_177 : x_SV "DescriptorDeskModel" 177 ⟨"DescriptorDeskModel", "vain", "()I"⟩ M_M_vain 32 0 := ⟨⟨rfl, rfl, Or.inl ⟨rfl, w_875⟩⟩, by decide +kernel, w_872, w_874, ⟨6, _, rfl, rfl, List.mem_filter.mpr ⟨List.mem_append_left _ (List.mem_of_getElem? (i := 54) (by decide +kernel)), by decide +kernel⟩⟩, by decide +kernel, by decide +kernel⟩
