/-! the law's cases -/
set_option maxRecDepth 20000 in
theorem k_pm112_0 : k_c112_0 ∈ k_P.2.1 112 := by
  have h : k_P.2.1 112 = [k_c112_0] := by rfl
  rw [h]
  exact List.mem_cons_self
set_option maxRecDepth 20000 in
theorem k_pm113_0 : k_c113_0 ∈ k_P.2.1 113 := by
  have h : k_P.2.1 113 = [k_c113_0] := by rfl
  rw [h]
  exact List.mem_cons_self
set_option maxRecDepth 20000 in
theorem k_pm114_0 : k_c114_0 ∈ k_P.2.1 114 := by
  have h : k_P.2.1 114 = [k_c114_0] := by rfl
  rw [h]
  exact List.mem_cons_self
set_option maxRecDepth 20000 in
theorem k_pm123_0 : k_c123_0 ∈ k_P.2.1 123 := by
  have h : k_P.2.1 123 = [k_c123_0, k_c123_1, k_c123_2, k_c123_3, k_c123_4, k_c123_5, k_c123_6] := by rfl
  rw [h]
  exact List.mem_cons_self
set_option maxRecDepth 20000 in
theorem k_pm123_1 : k_c123_1 ∈ k_P.2.1 123 := by
  have h : k_P.2.1 123 = [k_c123_0, k_c123_1, k_c123_2, k_c123_3, k_c123_4, k_c123_5, k_c123_6] := by rfl
  rw [h]
  exact List.mem_cons_of_mem _ (List.mem_cons_self)
set_option maxRecDepth 20000 in
theorem k_pm123_2 : k_c123_2 ∈ k_P.2.1 123 := by
  have h : k_P.2.1 123 = [k_c123_0, k_c123_1, k_c123_2, k_c123_3, k_c123_4, k_c123_5, k_c123_6] := by rfl
  rw [h]
  exact List.mem_cons_of_mem _ (List.mem_cons_of_mem _ (List.mem_cons_self))
set_option maxRecDepth 20000 in
theorem k_pm123_3 : k_c123_3 ∈ k_P.2.1 123 := by
  have h : k_P.2.1 123 = [k_c123_0, k_c123_1, k_c123_2, k_c123_3, k_c123_4, k_c123_5, k_c123_6] := by rfl
  rw [h]
  exact List.mem_cons_of_mem _ (List.mem_cons_of_mem _ (List.mem_cons_of_mem _ (List.mem_cons_self)))
set_option maxRecDepth 20000 in
theorem k_pm123_4 : k_c123_4 ∈ k_P.2.1 123 := by
  have h : k_P.2.1 123 = [k_c123_0, k_c123_1, k_c123_2, k_c123_3, k_c123_4, k_c123_5, k_c123_6] := by rfl
  rw [h]
  exact List.mem_cons_of_mem _ (List.mem_cons_of_mem _ (List.mem_cons_of_mem _ (List.mem_cons_of_mem _ (List.mem_cons_self))))
set_option maxRecDepth 20000 in
theorem k_pm123_5 : k_c123_5 ∈ k_P.2.1 123 := by
  have h : k_P.2.1 123 = [k_c123_0, k_c123_1, k_c123_2, k_c123_3, k_c123_4, k_c123_5, k_c123_6] := by rfl
  rw [h]
  exact List.mem_cons_of_mem _ (List.mem_cons_of_mem _ (List.mem_cons_of_mem _ (List.mem_cons_of_mem _ (List.mem_cons_of_mem _ (List.mem_cons_self)))))
set_option maxRecDepth 20000 in
theorem k_pm123_6 : k_c123_6 ∈ k_P.2.1 123 := by
  have h : k_P.2.1 123 = [k_c123_0, k_c123_1, k_c123_2, k_c123_3, k_c123_4, k_c123_5, k_c123_6] := by rfl
  rw [h]
  exact List.mem_cons_of_mem _ (List.mem_cons_of_mem _ (List.mem_cons_of_mem _ (List.mem_cons_of_mem _ (List.mem_cons_of_mem _ (List.mem_cons_of_mem _ (List.mem_cons_self))))))
set_option maxRecDepth 20000 in
theorem k_pm125_0 : k_c125_0 ∈ k_P.2.1 125 := by
  have h : k_P.2.1 125 = [k_c125_0, k_c125_1, k_c125_2, k_c125_3] := by rfl
  rw [h]
  exact List.mem_cons_self
set_option maxRecDepth 20000 in
theorem k_pm125_1 : k_c125_1 ∈ k_P.2.1 125 := by
  have h : k_P.2.1 125 = [k_c125_0, k_c125_1, k_c125_2, k_c125_3] := by rfl
  rw [h]
  exact List.mem_cons_of_mem _ (List.mem_cons_self)
set_option maxRecDepth 20000 in
theorem k_pm125_2 : k_c125_2 ∈ k_P.2.1 125 := by
  have h : k_P.2.1 125 = [k_c125_0, k_c125_1, k_c125_2, k_c125_3] := by rfl
  rw [h]
  exact List.mem_cons_of_mem _ (List.mem_cons_of_mem _ (List.mem_cons_self))
set_option maxRecDepth 20000 in
theorem k_pm125_3 : k_c125_3 ∈ k_P.2.1 125 := by
  have h : k_P.2.1 125 = [k_c125_0, k_c125_1, k_c125_2, k_c125_3] := by rfl
  rw [h]
  exact List.mem_cons_of_mem _ (List.mem_cons_of_mem _ (List.mem_cons_of_mem _ (List.mem_cons_self)))
set_option maxRecDepth 20000 in
theorem k_pm127_0 : k_c127_0 ∈ k_P.2.1 127 := by
  have h : k_P.2.1 127 = [k_c127_0] := by rfl
  rw [h]
  exact List.mem_cons_self
set_option maxRecDepth 20000 in
theorem k_pm128_0 : k_c128_0 ∈ k_P.2.1 128 := by
  have h : k_P.2.1 128 = [k_c128_0, k_c128_1, k_c128_2, k_c128_3, k_c128_4, k_c128_5, k_c128_6, k_c128_7] := by rfl
  rw [h]
  exact List.mem_cons_self
set_option maxRecDepth 20000 in
theorem k_pm128_1 : k_c128_1 ∈ k_P.2.1 128 := by
  have h : k_P.2.1 128 = [k_c128_0, k_c128_1, k_c128_2, k_c128_3, k_c128_4, k_c128_5, k_c128_6, k_c128_7] := by rfl
  rw [h]
  exact List.mem_cons_of_mem _ (List.mem_cons_self)
set_option maxRecDepth 20000 in
theorem k_pm128_2 : k_c128_2 ∈ k_P.2.1 128 := by
  have h : k_P.2.1 128 = [k_c128_0, k_c128_1, k_c128_2, k_c128_3, k_c128_4, k_c128_5, k_c128_6, k_c128_7] := by rfl
  rw [h]
  exact List.mem_cons_of_mem _ (List.mem_cons_of_mem _ (List.mem_cons_self))
set_option maxRecDepth 20000 in
theorem k_pm128_3 : k_c128_3 ∈ k_P.2.1 128 := by
  have h : k_P.2.1 128 = [k_c128_0, k_c128_1, k_c128_2, k_c128_3, k_c128_4, k_c128_5, k_c128_6, k_c128_7] := by rfl
  rw [h]
  exact List.mem_cons_of_mem _ (List.mem_cons_of_mem _ (List.mem_cons_of_mem _ (List.mem_cons_self)))
set_option maxRecDepth 20000 in
theorem k_pm128_4 : k_c128_4 ∈ k_P.2.1 128 := by
  have h : k_P.2.1 128 = [k_c128_0, k_c128_1, k_c128_2, k_c128_3, k_c128_4, k_c128_5, k_c128_6, k_c128_7] := by rfl
  rw [h]
  exact List.mem_cons_of_mem _ (List.mem_cons_of_mem _ (List.mem_cons_of_mem _ (List.mem_cons_of_mem _ (List.mem_cons_self))))
set_option maxRecDepth 20000 in
theorem k_pm128_5 : k_c128_5 ∈ k_P.2.1 128 := by
  have h : k_P.2.1 128 = [k_c128_0, k_c128_1, k_c128_2, k_c128_3, k_c128_4, k_c128_5, k_c128_6, k_c128_7] := by rfl
  rw [h]
  exact List.mem_cons_of_mem _ (List.mem_cons_of_mem _ (List.mem_cons_of_mem _ (List.mem_cons_of_mem _ (List.mem_cons_of_mem _ (List.mem_cons_self)))))
set_option maxRecDepth 20000 in
theorem k_pm128_6 : k_c128_6 ∈ k_P.2.1 128 := by
  have h : k_P.2.1 128 = [k_c128_0, k_c128_1, k_c128_2, k_c128_3, k_c128_4, k_c128_5, k_c128_6, k_c128_7] := by rfl
  rw [h]
  exact List.mem_cons_of_mem _ (List.mem_cons_of_mem _ (List.mem_cons_of_mem _ (List.mem_cons_of_mem _ (List.mem_cons_of_mem _ (List.mem_cons_of_mem _ (List.mem_cons_self))))))
set_option maxRecDepth 20000 in
theorem k_pm128_7 : k_c128_7 ∈ k_P.2.1 128 := by
  have h : k_P.2.1 128 = [k_c128_0, k_c128_1, k_c128_2, k_c128_3, k_c128_4, k_c128_5, k_c128_6, k_c128_7] := by rfl
  rw [h]
  exact List.mem_cons_of_mem _ (List.mem_cons_of_mem _ (List.mem_cons_of_mem _ (List.mem_cons_of_mem _ (List.mem_cons_of_mem _ (List.mem_cons_of_mem _ (List.mem_cons_of_mem _ (List.mem_cons_self)))))))
set_option maxRecDepth 20000 in
theorem k_pm129_0 : k_c129_0 ∈ k_P.2.1 129 := by
  have h : k_P.2.1 129 = [k_c129_0] := by rfl
  rw [h]
  exact List.mem_cons_self
set_option maxRecDepth 20000 in
theorem k_pm132_0 : k_c132_0 ∈ k_P.2.1 132 := by
  have h : k_P.2.1 132 = [k_c132_0] := by rfl
  rw [h]
  exact List.mem_cons_self
set_option maxRecDepth 20000 in
theorem k_pm133_0 : k_c133_0 ∈ k_P.2.1 133 := by
  have h : k_P.2.1 133 = [k_c133_0] := by rfl
  rw [h]
  exact List.mem_cons_self
set_option maxRecDepth 20000 in
theorem k_pm134_0 : k_c134_0 ∈ k_P.2.1 134 := by
  have h : k_P.2.1 134 = [k_c134_0] := by rfl
  rw [h]
  exact List.mem_cons_self
set_option maxRecDepth 20000 in
theorem k_pm143_0 : k_c143_0 ∈ k_P.2.1 143 := by
  have h : k_P.2.1 143 = [k_c143_0] := by rfl
  rw [h]
  exact List.mem_cons_self
set_option maxRecDepth 20000 in
theorem k_pm144_0 : k_c144_0 ∈ k_P.2.1 144 := by
  have h : k_P.2.1 144 = [k_c144_0] := by rfl
  rw [h]
  exact List.mem_cons_self
set_option maxRecDepth 20000 in
theorem k_pm145_0 : k_c145_0 ∈ k_P.2.1 145 := by
  have h : k_P.2.1 145 = [k_c145_0] := by rfl
  rw [h]
  exact List.mem_cons_self
set_option maxRecDepth 20000 in
theorem k_pm146_0 : k_c146_0 ∈ k_P.2.1 146 := by
  have h : k_P.2.1 146 = [k_c146_0] := by rfl
  rw [h]
  exact List.mem_cons_self
set_option maxRecDepth 20000 in
theorem k_pm147_0 : k_c147_0 ∈ k_P.2.1 147 := by
  have h : k_P.2.1 147 = [k_c147_0] := by rfl
  rw [h]
  exact List.mem_cons_self
set_option maxRecDepth 20000 in
theorem k_pm148_0 : k_c148_0 ∈ k_P.2.1 148 := by
  have h : k_P.2.1 148 = [k_c148_0] := by rfl
  rw [h]
  exact List.mem_cons_self
set_option maxRecDepth 20000 in
theorem k_pm149_0 : k_c149_0 ∈ k_P.2.1 149 := by
  have h : k_P.2.1 149 = [k_c149_0] := by rfl
  rw [h]
  exact List.mem_cons_self
set_option maxRecDepth 20000 in
theorem k_pm150_0 : k_c150_0 ∈ k_P.2.1 150 := by
  have h : k_P.2.1 150 = [k_c150_0] := by rfl
  rw [h]
  exact List.mem_cons_self
set_option maxRecDepth 20000 in
theorem k_pm151_0 : k_c151_0 ∈ k_P.2.1 151 := by
  have h : k_P.2.1 151 = [k_c151_0] := by rfl
  rw [h]
  exact List.mem_cons_self
set_option maxRecDepth 20000 in
theorem k_pm152_0 : k_c152_0 ∈ k_P.2.1 152 := by
  have h : k_P.2.1 152 = [k_c152_0] := by rfl
  rw [h]
  exact List.mem_cons_self
set_option maxRecDepth 20000 in
theorem k_pm154_0 : k_c154_0 ∈ k_P.2.1 154 := by
  have h : k_P.2.1 154 = [k_c154_0] := by rfl
  rw [h]
  exact List.mem_cons_self
set_option maxRecDepth 20000 in
theorem k_pm155_0 : k_c155_0 ∈ k_P.2.1 155 := by
  have h : k_P.2.1 155 = [k_c155_0] := by rfl
  rw [h]
  exact List.mem_cons_self
set_option maxRecDepth 20000 in
theorem k_pm157_0 : k_c157_0 ∈ k_P.2.1 157 := by
  have h : k_P.2.1 157 = [k_c157_0] := by rfl
  rw [h]
  exact List.mem_cons_self
set_option maxRecDepth 20000 in
theorem k_pm160_0 : k_c160_0 ∈ k_P.2.1 160 := by
  have h : k_P.2.1 160 = [k_c160_0] := by rfl
  rw [h]
  exact List.mem_cons_self
set_option maxRecDepth 20000 in
theorem k_pm161_0 : k_c161_0 ∈ k_P.2.1 161 := by
  have h : k_P.2.1 161 = [k_c161_0] := by rfl
  rw [h]
  exact List.mem_cons_self
set_option maxRecDepth 20000 in
theorem k_pm162_0 : k_c162_0 ∈ k_P.2.1 162 := by
  have h : k_P.2.1 162 = [k_c162_0] := by rfl
  rw [h]
  exact List.mem_cons_self
set_option maxRecDepth 20000 in
theorem k_pm163_0 : k_c163_0 ∈ k_P.2.1 163 := by
  have h : k_P.2.1 163 = [k_c163_0] := by rfl
  rw [h]
  exact List.mem_cons_self
set_option maxRecDepth 20000 in
theorem k_pm164_0 : k_c164_0 ∈ k_P.2.1 164 := by
  have h : k_P.2.1 164 = [k_c164_0] := by rfl
  rw [h]
  exact List.mem_cons_self
set_option maxRecDepth 20000 in
theorem k_pm165_0 : k_c165_0 ∈ k_P.2.1 165 := by
  have h : k_P.2.1 165 = [k_c165_0] := by rfl
  rw [h]
  exact List.mem_cons_self
set_option maxRecDepth 20000 in
theorem k_pm166_0 : k_c166_0 ∈ k_P.2.1 166 := by
  have h : k_P.2.1 166 = [k_c166_0] := by rfl
  rw [h]
  exact List.mem_cons_self
set_option maxRecDepth 20000 in
theorem k_pm167_0 : k_c167_0 ∈ k_P.2.1 167 := by
  have h : k_P.2.1 167 = [k_c167_0] := by rfl
  rw [h]
  exact List.mem_cons_self
set_option maxRecDepth 20000 in
theorem k_pm169_0 : k_c169_0 ∈ k_P.2.1 169 := by
  have h : k_P.2.1 169 = [k_c169_0] := by rfl
  rw [h]
  exact List.mem_cons_self
set_option maxRecDepth 20000 in
theorem k_pm170_0 : k_c170_0 ∈ k_P.2.1 170 := by
  have h : k_P.2.1 170 = [k_c170_0] := by rfl
  rw [h]
  exact List.mem_cons_self
set_option maxRecDepth 20000 in
theorem k_pm171_0 : k_c171_0 ∈ k_P.2.1 171 := by
  have h : k_P.2.1 171 = [k_c171_0] := by rfl
  rw [h]
  exact List.mem_cons_self
set_option maxRecDepth 20000 in
theorem k_pm173_0 : k_c173_0 ∈ k_P.2.1 173 := by
  have h : k_P.2.1 173 = [k_c173_0] := by rfl
  rw [h]
  exact List.mem_cons_self
set_option maxRecDepth 20000 in
theorem k_pm174_0 : k_c174_0 ∈ k_P.2.1 174 := by
  have h : k_P.2.1 174 = [k_c174_0] := by rfl
  rw [h]
  exact List.mem_cons_self
set_option maxRecDepth 20000 in
theorem k_pm176_0 : k_c176_0 ∈ k_P.2.1 176 := by
  have h : k_P.2.1 176 = [k_c176_0] := by rfl
  rw [h]
  exact List.mem_cons_self
set_option maxRecDepth 20000 in
theorem k_pm177_0 : k_c177_0 ∈ k_P.2.1 177 := by
  have h : k_P.2.1 177 = [k_c177_0] := by rfl
  rw [h]
  exact List.mem_cons_self
set_option maxRecDepth 20000 in
theorem k_pm180_0 : k_c180_0 ∈ k_P.2.1 180 := by
  have h : k_P.2.1 180 = [k_c180_0] := by rfl
  rw [h]
  exact List.mem_cons_self
set_option maxRecDepth 20000 in
theorem k_pm181_0 : k_c181_0 ∈ k_P.2.1 181 := by
  have h : k_P.2.1 181 = [k_c181_0] := by rfl
  rw [h]
  exact List.mem_cons_self
set_option maxRecDepth 20000 in
theorem k_pm184_0 : k_c184_0 ∈ k_P.2.1 184 := by
  have h : k_P.2.1 184 = [k_c184_0] := by rfl
  rw [h]
  exact List.mem_cons_self
set_option maxRecDepth 20000 in
theorem k_pm186_0 : k_c186_0 ∈ k_P.2.1 186 := by
  have h : k_P.2.1 186 = [k_c186_0] := by rfl
  rw [h]
  exact List.mem_cons_self
set_option maxRecDepth 20000 in
theorem k_pm188_0 : k_c188_0 ∈ k_P.2.1 188 := by
  have h : k_P.2.1 188 = [k_c188_0] := by rfl
  rw [h]
  exact List.mem_cons_self
set_option maxRecDepth 20000 in
theorem k_pm190_0 : k_c190_0 ∈ k_P.2.1 190 := by
  have h : k_P.2.1 190 = [k_c190_0] := by rfl
  rw [h]
  exact List.mem_cons_self
set_option maxRecDepth 20000 in
theorem k_pm191_0 : k_c191_0 ∈ k_P.2.1 191 := by
  have h : k_P.2.1 191 = [k_c191_0] := by rfl
  rw [h]
  exact List.mem_cons_self
set_option maxRecDepth 20000 in
theorem k_pm192_0 : k_c192_0 ∈ k_P.2.1 192 := by
  have h : k_P.2.1 192 = [k_c192_0] := by rfl
  rw [h]
  exact List.mem_cons_self
set_option maxRecDepth 20000 in
theorem k_pm193_0 : k_c193_0 ∈ k_P.2.1 193 := by
  have h : k_P.2.1 193 = [k_c193_0] := by rfl
  rw [h]
  exact List.mem_cons_self
set_option maxRecDepth 20000 in
theorem k_pm195_0 : k_c195_0 ∈ k_P.2.1 195 := by
  have h : k_P.2.1 195 = [k_c195_0] := by rfl
  rw [h]
  exact List.mem_cons_self
set_option maxRecDepth 20000 in
theorem k_pm196_0 : k_c196_0 ∈ k_P.2.1 196 := by
  have h : k_P.2.1 196 = [k_c196_0] := by rfl
  rw [h]
  exact List.mem_cons_self
set_option maxRecDepth 20000 in
theorem k_pm197_0 : k_c197_0 ∈ k_P.2.1 197 := by
  have h : k_P.2.1 197 = [k_c197_0] := by rfl
  rw [h]
  exact List.mem_cons_self
set_option maxRecDepth 20000 in
theorem k_pm198_0 : k_c198_0 ∈ k_P.2.1 198 := by
  have h : k_P.2.1 198 = [k_c198_0, k_c198_1, k_c198_2, k_c198_3, k_c198_4] := by rfl
  rw [h]
  exact List.mem_cons_self
set_option maxRecDepth 20000 in
theorem k_pm198_1 : k_c198_1 ∈ k_P.2.1 198 := by
  have h : k_P.2.1 198 = [k_c198_0, k_c198_1, k_c198_2, k_c198_3, k_c198_4] := by rfl
  rw [h]
  exact List.mem_cons_of_mem _ (List.mem_cons_self)
set_option maxRecDepth 20000 in
theorem k_pm198_2 : k_c198_2 ∈ k_P.2.1 198 := by
  have h : k_P.2.1 198 = [k_c198_0, k_c198_1, k_c198_2, k_c198_3, k_c198_4] := by rfl
  rw [h]
  exact List.mem_cons_of_mem _ (List.mem_cons_of_mem _ (List.mem_cons_self))
set_option maxRecDepth 20000 in
theorem k_pm198_3 : k_c198_3 ∈ k_P.2.1 198 := by
  have h : k_P.2.1 198 = [k_c198_0, k_c198_1, k_c198_2, k_c198_3, k_c198_4] := by rfl
  rw [h]
  exact List.mem_cons_of_mem _ (List.mem_cons_of_mem _ (List.mem_cons_of_mem _ (List.mem_cons_self)))
set_option maxRecDepth 20000 in
theorem k_pm198_4 : k_c198_4 ∈ k_P.2.1 198 := by
  have h : k_P.2.1 198 = [k_c198_0, k_c198_1, k_c198_2, k_c198_3, k_c198_4] := by rfl
  rw [h]
  exact List.mem_cons_of_mem _ (List.mem_cons_of_mem _ (List.mem_cons_of_mem _ (List.mem_cons_of_mem _ (List.mem_cons_self))))
set_option maxRecDepth 20000 in
theorem k_pm199_0 : k_c199_0 ∈ k_P.2.1 199 := by
  have h : k_P.2.1 199 = [k_c199_0] := by rfl
  rw [h]
  exact List.mem_cons_self
set_option maxRecDepth 20000 in
theorem k_pm201_0 : k_c201_0 ∈ k_P.2.1 201 := by
  have h : k_P.2.1 201 = [k_c201_0] := by rfl
  rw [h]
  exact List.mem_cons_self
set_option maxRecDepth 20000 in
theorem k_pm202_0 : k_c202_0 ∈ k_P.2.1 202 := by
  have h : k_P.2.1 202 = [k_c202_0] := by rfl
  rw [h]
  exact List.mem_cons_self
set_option maxRecDepth 20000 in
theorem k_pm203_0 : k_c203_0 ∈ k_P.2.1 203 := by
  have h : k_P.2.1 203 = [k_c203_0] := by rfl
  rw [h]
  exact List.mem_cons_self
set_option maxRecDepth 20000 in
theorem k_pm210_0 : k_c210_0 ∈ k_P.2.1 210 := by
  have h : k_P.2.1 210 = [k_c210_0, k_c210_1, k_c210_2, k_c210_3, k_c210_4, k_c210_5, k_c210_6] := by rfl
  rw [h]
  exact List.mem_cons_self
set_option maxRecDepth 20000 in
theorem k_pm210_1 : k_c210_1 ∈ k_P.2.1 210 := by
  have h : k_P.2.1 210 = [k_c210_0, k_c210_1, k_c210_2, k_c210_3, k_c210_4, k_c210_5, k_c210_6] := by rfl
  rw [h]
  exact List.mem_cons_of_mem _ (List.mem_cons_self)
set_option maxRecDepth 20000 in
theorem k_pm210_2 : k_c210_2 ∈ k_P.2.1 210 := by
  have h : k_P.2.1 210 = [k_c210_0, k_c210_1, k_c210_2, k_c210_3, k_c210_4, k_c210_5, k_c210_6] := by rfl
  rw [h]
  exact List.mem_cons_of_mem _ (List.mem_cons_of_mem _ (List.mem_cons_self))
set_option maxRecDepth 20000 in
theorem k_pm210_3 : k_c210_3 ∈ k_P.2.1 210 := by
  have h : k_P.2.1 210 = [k_c210_0, k_c210_1, k_c210_2, k_c210_3, k_c210_4, k_c210_5, k_c210_6] := by rfl
  rw [h]
  exact List.mem_cons_of_mem _ (List.mem_cons_of_mem _ (List.mem_cons_of_mem _ (List.mem_cons_self)))
set_option maxRecDepth 20000 in
theorem k_pm210_4 : k_c210_4 ∈ k_P.2.1 210 := by
  have h : k_P.2.1 210 = [k_c210_0, k_c210_1, k_c210_2, k_c210_3, k_c210_4, k_c210_5, k_c210_6] := by rfl
  rw [h]
  exact List.mem_cons_of_mem _ (List.mem_cons_of_mem _ (List.mem_cons_of_mem _ (List.mem_cons_of_mem _ (List.mem_cons_self))))
set_option maxRecDepth 20000 in
theorem k_pm210_5 : k_c210_5 ∈ k_P.2.1 210 := by
  have h : k_P.2.1 210 = [k_c210_0, k_c210_1, k_c210_2, k_c210_3, k_c210_4, k_c210_5, k_c210_6] := by rfl
  rw [h]
  exact List.mem_cons_of_mem _ (List.mem_cons_of_mem _ (List.mem_cons_of_mem _ (List.mem_cons_of_mem _ (List.mem_cons_of_mem _ (List.mem_cons_self)))))
set_option maxRecDepth 20000 in
theorem k_pm210_6 : k_c210_6 ∈ k_P.2.1 210 := by
  have h : k_P.2.1 210 = [k_c210_0, k_c210_1, k_c210_2, k_c210_3, k_c210_4, k_c210_5, k_c210_6] := by rfl
  rw [h]
  exact List.mem_cons_of_mem _ (List.mem_cons_of_mem _ (List.mem_cons_of_mem _ (List.mem_cons_of_mem _ (List.mem_cons_of_mem _ (List.mem_cons_of_mem _ (List.mem_cons_self))))))
set_option maxRecDepth 20000 in
theorem k_pm213_0 : k_c213_0 ∈ k_P.2.1 213 := by
  have h : k_P.2.1 213 = [k_c213_0, k_c213_1, k_c213_2, k_c213_3] := by rfl
  rw [h]
  exact List.mem_cons_self
set_option maxRecDepth 20000 in
theorem k_pm213_1 : k_c213_1 ∈ k_P.2.1 213 := by
  have h : k_P.2.1 213 = [k_c213_0, k_c213_1, k_c213_2, k_c213_3] := by rfl
  rw [h]
  exact List.mem_cons_of_mem _ (List.mem_cons_self)
set_option maxRecDepth 20000 in
theorem k_pm213_2 : k_c213_2 ∈ k_P.2.1 213 := by
  have h : k_P.2.1 213 = [k_c213_0, k_c213_1, k_c213_2, k_c213_3] := by rfl
  rw [h]
  exact List.mem_cons_of_mem _ (List.mem_cons_of_mem _ (List.mem_cons_self))
set_option maxRecDepth 20000 in
theorem k_pm213_3 : k_c213_3 ∈ k_P.2.1 213 := by
  have h : k_P.2.1 213 = [k_c213_0, k_c213_1, k_c213_2, k_c213_3] := by rfl
  rw [h]
  exact List.mem_cons_of_mem _ (List.mem_cons_of_mem _ (List.mem_cons_of_mem _ (List.mem_cons_self)))
set_option maxRecDepth 20000 in
theorem k_pm214_0 : k_c214_0 ∈ k_P.2.1 214 := by
  have h : k_P.2.1 214 = [k_c214_0] := by rfl
  rw [h]
  exact List.mem_cons_self
set_option maxRecDepth 20000 in
theorem k_pm215_0 : k_c215_0 ∈ k_P.2.1 215 := by
  have h : k_P.2.1 215 = [k_c215_0, k_c215_1, k_c215_2, k_c215_3, k_c215_4, k_c215_5, k_c215_6, k_c215_7] := by rfl
  rw [h]
  exact List.mem_cons_self
set_option maxRecDepth 20000 in
theorem k_pm215_1 : k_c215_1 ∈ k_P.2.1 215 := by
  have h : k_P.2.1 215 = [k_c215_0, k_c215_1, k_c215_2, k_c215_3, k_c215_4, k_c215_5, k_c215_6, k_c215_7] := by rfl
  rw [h]
  exact List.mem_cons_of_mem _ (List.mem_cons_self)
set_option maxRecDepth 20000 in
theorem k_pm215_2 : k_c215_2 ∈ k_P.2.1 215 := by
  have h : k_P.2.1 215 = [k_c215_0, k_c215_1, k_c215_2, k_c215_3, k_c215_4, k_c215_5, k_c215_6, k_c215_7] := by rfl
  rw [h]
  exact List.mem_cons_of_mem _ (List.mem_cons_of_mem _ (List.mem_cons_self))
set_option maxRecDepth 20000 in
theorem k_pm215_3 : k_c215_3 ∈ k_P.2.1 215 := by
  have h : k_P.2.1 215 = [k_c215_0, k_c215_1, k_c215_2, k_c215_3, k_c215_4, k_c215_5, k_c215_6, k_c215_7] := by rfl
  rw [h]
  exact List.mem_cons_of_mem _ (List.mem_cons_of_mem _ (List.mem_cons_of_mem _ (List.mem_cons_self)))
set_option maxRecDepth 20000 in
theorem k_pm215_4 : k_c215_4 ∈ k_P.2.1 215 := by
  have h : k_P.2.1 215 = [k_c215_0, k_c215_1, k_c215_2, k_c215_3, k_c215_4, k_c215_5, k_c215_6, k_c215_7] := by rfl
  rw [h]
  exact List.mem_cons_of_mem _ (List.mem_cons_of_mem _ (List.mem_cons_of_mem _ (List.mem_cons_of_mem _ (List.mem_cons_self))))
set_option maxRecDepth 20000 in
theorem k_pm215_5 : k_c215_5 ∈ k_P.2.1 215 := by
  have h : k_P.2.1 215 = [k_c215_0, k_c215_1, k_c215_2, k_c215_3, k_c215_4, k_c215_5, k_c215_6, k_c215_7] := by rfl
  rw [h]
  exact List.mem_cons_of_mem _ (List.mem_cons_of_mem _ (List.mem_cons_of_mem _ (List.mem_cons_of_mem _ (List.mem_cons_of_mem _ (List.mem_cons_self)))))
set_option maxRecDepth 20000 in
theorem k_pm215_6 : k_c215_6 ∈ k_P.2.1 215 := by
  have h : k_P.2.1 215 = [k_c215_0, k_c215_1, k_c215_2, k_c215_3, k_c215_4, k_c215_5, k_c215_6, k_c215_7] := by rfl
  rw [h]
  exact List.mem_cons_of_mem _ (List.mem_cons_of_mem _ (List.mem_cons_of_mem _ (List.mem_cons_of_mem _ (List.mem_cons_of_mem _ (List.mem_cons_of_mem _ (List.mem_cons_self))))))
set_option maxRecDepth 20000 in
theorem k_pm215_7 : k_c215_7 ∈ k_P.2.1 215 := by
  have h : k_P.2.1 215 = [k_c215_0, k_c215_1, k_c215_2, k_c215_3, k_c215_4, k_c215_5, k_c215_6, k_c215_7] := by rfl
  rw [h]
  exact List.mem_cons_of_mem _ (List.mem_cons_of_mem _ (List.mem_cons_of_mem _ (List.mem_cons_of_mem _ (List.mem_cons_of_mem _ (List.mem_cons_of_mem _ (List.mem_cons_of_mem _ (List.mem_cons_self)))))))
set_option maxRecDepth 20000 in
theorem k_pm236_0 : k_c236_0 ∈ k_P.2.1 236 := by
  have h : k_P.2.1 236 = [k_c236_0] := by rfl
  rw [h]
  exact List.mem_cons_self
set_option maxRecDepth 20000 in
theorem k_pm250_0 : k_c250_0 ∈ k_P.2.1 250 := by
  have h : k_P.2.1 250 = [k_c250_0] := by rfl
  rw [h]
  exact List.mem_cons_self
set_option maxRecDepth 20000 in
theorem k_pm251_0 : k_c251_0 ∈ k_P.2.1 251 := by
  have h : k_P.2.1 251 = [k_c251_0] := by rfl
  rw [h]
  exact List.mem_cons_self
set_option maxRecDepth 20000 in
theorem k_pm257_0 : k_c257_0 ∈ k_P.2.1 257 := by
  have h : k_P.2.1 257 = [k_c257_0] := by rfl
  rw [h]
  exact List.mem_cons_self
set_option maxRecDepth 20000 in
theorem k_pm258_0 : k_c258_0 ∈ k_P.2.1 258 := by
  have h : k_P.2.1 258 = [k_c258_0] := by rfl
  rw [h]
  exact List.mem_cons_self
set_option maxRecDepth 20000 in
theorem k_pm262_0 : k_c262_0 ∈ k_P.2.1 262 := by
  have h : k_P.2.1 262 = [k_c262_0] := by rfl
  rw [h]
  exact List.mem_cons_self
set_option maxRecDepth 20000 in
theorem k_pm264_0 : k_c264_0 ∈ k_P.2.1 264 := by
  have h : k_P.2.1 264 = [k_c264_0] := by rfl
  rw [h]
  exact List.mem_cons_self
set_option maxRecDepth 20000 in
theorem k_pm265_0 : k_c265_0 ∈ k_P.2.1 265 := by
  have h : k_P.2.1 265 = [k_c265_0] := by rfl
  rw [h]
  exact List.mem_cons_self
set_option maxRecDepth 20000 in
theorem k_pm266_0 : k_c266_0 ∈ k_P.2.1 266 := by
  have h : k_P.2.1 266 = [k_c266_0] := by rfl
  rw [h]
  exact List.mem_cons_self
set_option maxRecDepth 20000 in
theorem k_pm267_0 : k_c267_0 ∈ k_P.2.1 267 := by
  have h : k_P.2.1 267 = [k_c267_0] := by rfl
  rw [h]
  exact List.mem_cons_self
set_option maxRecDepth 20000 in
theorem k_pm268_0 : k_c268_0 ∈ k_P.2.1 268 := by
  have h : k_P.2.1 268 = [k_c268_0] := by rfl
  rw [h]
  exact List.mem_cons_self
set_option maxRecDepth 20000 in
theorem k_pm269_0 : k_c269_0 ∈ k_P.2.1 269 := by
  have h : k_P.2.1 269 = [k_c269_0] := by rfl
  rw [h]
  exact List.mem_cons_self
set_option maxRecDepth 20000 in
theorem k_pm270_0 : k_c270_0 ∈ k_P.2.1 270 := by
  have h : k_P.2.1 270 = [k_c270_0] := by rfl
  rw [h]
  exact List.mem_cons_self
set_option maxRecDepth 20000 in
theorem k_pm271_0 : k_c271_0 ∈ k_P.2.1 271 := by
  have h : k_P.2.1 271 = [k_c271_0] := by rfl
  rw [h]
  exact List.mem_cons_self
set_option maxRecDepth 20000 in
theorem k_pm276_0 : k_c276_0 ∈ k_P.2.1 276 := by
  have h : k_P.2.1 276 = [k_c276_0] := by rfl
  rw [h]
  exact List.mem_cons_self
set_option maxRecDepth 20000 in
theorem k_pm277_0 : k_c277_0 ∈ k_P.2.1 277 := by
  have h : k_P.2.1 277 = [k_c277_0] := by rfl
  rw [h]
  exact List.mem_cons_self
set_option maxRecDepth 20000 in
theorem k_pm285_0 : k_c285_0 ∈ k_P.2.1 285 := by
  have h : k_P.2.1 285 = [k_c285_0] := by rfl
  rw [h]
  exact List.mem_cons_self
set_option maxRecDepth 20000 in
theorem k_pm287_0 : k_c287_0 ∈ k_P.2.1 287 := by
  have h : k_P.2.1 287 = [k_c287_0] := by rfl
  rw [h]
  exact List.mem_cons_self
set_option maxRecDepth 20000 in
theorem k_pm288_0 : k_c288_0 ∈ k_P.2.1 288 := by
  have h : k_P.2.1 288 = [k_c288_0] := by rfl
  rw [h]
  exact List.mem_cons_self
set_option maxRecDepth 20000 in
theorem k_pm291_0 : k_c291_0 ∈ k_P.2.1 291 := by
  have h : k_P.2.1 291 = [k_c291_0] := by rfl
  rw [h]
  exact List.mem_cons_self
set_option maxRecDepth 20000 in
theorem k_pm292_0 : k_c292_0 ∈ k_P.2.1 292 := by
  have h : k_P.2.1 292 = [k_c292_0] := by rfl
  rw [h]
  exact List.mem_cons_self
set_option maxRecDepth 20000 in
theorem k_pm293_0 : k_c293_0 ∈ k_P.2.1 293 := by
  have h : k_P.2.1 293 = [k_c293_0] := by rfl
  rw [h]
  exact List.mem_cons_self
set_option maxRecDepth 20000 in
theorem k_pm295_0 : k_c295_0 ∈ k_P.2.1 295 := by
  have h : k_P.2.1 295 = [k_c295_0] := by rfl
  rw [h]
  exact List.mem_cons_self
set_option maxRecDepth 20000 in
theorem k_pm296_0 : k_c296_0 ∈ k_P.2.1 296 := by
  have h : k_P.2.1 296 = [k_c296_0] := by rfl
  rw [h]
  exact List.mem_cons_self
set_option maxRecDepth 20000 in
theorem k_pm298_0 : k_c298_0 ∈ k_P.2.1 298 := by
  have h : k_P.2.1 298 = [k_c298_0] := by rfl
  rw [h]
  exact List.mem_cons_self
set_option maxRecDepth 20000 in
theorem k_pm299_0 : k_c299_0 ∈ k_P.2.1 299 := by
  have h : k_P.2.1 299 = [k_c299_0] := by rfl
  rw [h]
  exact List.mem_cons_self
set_option maxRecDepth 20000 in
theorem k_pm300_0 : k_c300_0 ∈ k_P.2.1 300 := by
  have h : k_P.2.1 300 = [k_c300_0] := by rfl
  rw [h]
  exact List.mem_cons_self
set_option maxRecDepth 20000 in
theorem k_pm301_0 : k_c301_0 ∈ k_P.2.1 301 := by
  have h : k_P.2.1 301 = [k_c301_0] := by rfl
  rw [h]
  exact List.mem_cons_self
set_option maxRecDepth 20000 in
theorem k_pm303_0 : k_c303_0 ∈ k_P.2.1 303 := by
  have h : k_P.2.1 303 = [k_c303_0] := by rfl
  rw [h]
  exact List.mem_cons_self
set_option maxRecDepth 20000 in
theorem k_pm304_0 : k_c304_0 ∈ k_P.2.1 304 := by
  have h : k_P.2.1 304 = [k_c304_0] := by rfl
  rw [h]
  exact List.mem_cons_self
set_option maxRecDepth 20000 in
theorem k_pm306_0 : k_c306_0 ∈ k_P.2.1 306 := by
  have h : k_P.2.1 306 = [k_c306_0] := by rfl
  rw [h]
  exact List.mem_cons_self
set_option maxRecDepth 20000 in
theorem k_pm307_0 : k_c307_0 ∈ k_P.2.1 307 := by
  have h : k_P.2.1 307 = [k_c307_0] := by rfl
  rw [h]
  exact List.mem_cons_self
set_option maxRecDepth 20000 in
theorem k_pm310_0 : k_c310_0 ∈ k_P.2.1 310 := by
  have h : k_P.2.1 310 = [k_c310_0] := by rfl
  rw [h]
  exact List.mem_cons_self
set_option maxRecDepth 20000 in
theorem k_pm311_0 : k_c311_0 ∈ k_P.2.1 311 := by
  have h : k_P.2.1 311 = [k_c311_0] := by rfl
  rw [h]
  exact List.mem_cons_self
set_option maxRecDepth 20000 in
theorem k_pm314_0 : k_c314_0 ∈ k_P.2.1 314 := by
  have h : k_P.2.1 314 = [k_c314_0] := by rfl
  rw [h]
  exact List.mem_cons_self
set_option maxRecDepth 20000 in
theorem k_pm318_0 : k_c318_0 ∈ k_P.2.1 318 := by
  have h : k_P.2.1 318 = [k_c318_0] := by rfl
  rw [h]
  exact List.mem_cons_self
set_option maxRecDepth 20000 in
theorem k_pm319_0 : k_c319_0 ∈ k_P.2.1 319 := by
  have h : k_P.2.1 319 = [k_c319_0] := by rfl
  rw [h]
  exact List.mem_cons_self
set_option maxRecDepth 20000 in
theorem k_pm325_0 : k_c325_0 ∈ k_P.2.1 325 := by
  have h : k_P.2.1 325 = [k_c325_0] := by rfl
  rw [h]
  exact List.mem_cons_self
set_option maxRecDepth 20000 in
theorem k_pm331_0 : k_c331_0 ∈ k_P.2.1 331 := by
  have h : k_P.2.1 331 = [k_c331_0] := by rfl
  rw [h]
  exact List.mem_cons_self
set_option maxRecDepth 20000 in
theorem k_pm332_0 : k_c332_0 ∈ k_P.2.1 332 := by
  have h : k_P.2.1 332 = [k_c332_0] := by rfl
  rw [h]
  exact List.mem_cons_self
set_option maxRecDepth 20000 in
theorem k_pm346_0 : k_c346_0 ∈ k_P.2.1 346 := by
  have h : k_P.2.1 346 = [k_c346_0] := by rfl
  rw [h]
  exact List.mem_cons_self
set_option maxRecDepth 20000 in
theorem k_pm349_0 : k_c349_0 ∈ k_P.2.1 349 := by
  have h : k_P.2.1 349 = [k_c349_0] := by rfl
  rw [h]
  exact List.mem_cons_self
set_option maxRecDepth 20000 in
theorem k_pm352_0 : k_c352_0 ∈ k_P.2.1 352 := by
  have h : k_P.2.1 352 = [k_c352_0] := by rfl
  rw [h]
  exact List.mem_cons_self
set_option maxRecDepth 20000 in
theorem k_pm353_0 : k_c353_0 ∈ k_P.2.1 353 := by
  have h : k_P.2.1 353 = [k_c353_0] := by rfl
  rw [h]
  exact List.mem_cons_self
set_option maxRecDepth 20000 in
theorem k_pm355_0 : k_c355_0 ∈ k_P.2.1 355 := by
  have h : k_P.2.1 355 = [k_c355_0] := by rfl
  rw [h]
  exact List.mem_cons_self
set_option maxRecDepth 20000 in
theorem k_pm356_0 : k_c356_0 ∈ k_P.2.1 356 := by
  have h : k_P.2.1 356 = [k_c356_0] := by rfl
  rw [h]
  exact List.mem_cons_self
theorem k_case0 {p : Program} {l : Launch} {e : Env} {s : State} {m : MethodId} {below : List Frame} {meth : Method} {c : Code} {Q : State → Prop} {b L : Nat} {xs : Nat → Int32} {D : va_G} {dA : Nat → ClassId} {a1 a2 i cells slots : Nat} {ls : Array Slot} {w : cWld} {H : Heap} {locs : List Loc} (C : k_Cx p s m c b L xs D dA) (I : k_In s D dA a1 a2 w H locs ∧ k_R a1 a2 w) (hl : lv_has ls 4 (k_lv b a1 a2 i)) (hi : i + 7 ≤ L) (hcb : cells + 26 ≤ 600000) (hsb : slots + 1584 ≤ 7302250)
    (kk : ∀ (w : cWld) (H : Heap) (locs : List Loc), k_In s D dA a1 a2 w H locs ∧ k_R a1 a2 w → W p l e room_1 s m #[Value.ref b] below meth c H locs (cells + 26) (slots + 1584) Q (F0 m 1990 ls [])) : W p l e room_1 s m #[Value.ref b] below meth c H locs cells slots Q (F0 m 260 ls []) := by
  have hc0 : cells ≤ 600000 := by omega
  have hs0 : slots ≤ 7302250 := by omega
  have hc1 := hcb
  have hs1 := hsb
  obtain ⟨I, hR⟩ := I
  refine lv_aload_n C.1 C.2.1 k_L260 rfl (lv_at hl 1 rfl) ?_
  refine k_pub C I (a := 112) (idx := 13) (M := k_M112) (ct := k_c112_0) rfl k_pm112_0 rfl (k_in 3 157 rfl rfl) (by decide +kernel) (x := a1) (As := []) (rest := []) [(a1 : Int)] (k_preC 0 rfl (by decide +kernel) ⟨k_aR I.2.2.2.2.1, trivial⟩ trivial) (Nat.le_of_ble_eq_true rfl) k_L261 hc0 hs0 hl.1 (fun rv1 rs1 w1 H1 lo1 hv1 hp1 I1 => ?_)
  obtain ⟨r1, rfl, rfl⟩ := hv1
  have hR := k_RK hp1.1 (by decide +kernel) (by decide +kernel) hR
  refine lv_pop C.1 C.2.1 k_L264 rfl ?_
  refine lv_aload_n C.1 C.2.1 k_L265 rfl (lv_at hl 2 rfl) ?_
  refine k_pub C I1 (a := 201) (idx := 17) (M := k_M201) (ct := k_c201_0) rfl k_pm201_0 rfl (k_in 8 7 rfl rfl) (by decide +kernel) (x := a2) (As := []) (rest := []) [(a2 : Int)] (k_preC 0 rfl (by decide +kernel) ⟨k_aR I1.2.2.2.2.2.1, trivial⟩ trivial) (Nat.le_of_ble_eq_true rfl) k_L266 hc0 hs0 hl.1 (fun rv2 rs2 w2 H2 lo2 hv2 hp2 I2 => ?_)
  obtain ⟨r2, rfl, rfl⟩ := hv2
  have hR := k_RK hp2.1 (by decide +kernel) (by decide +kernel) hR
  refine lv_pop C.1 C.2.1 k_L269 rfl ?_
  refine lv_goto C.1 C.2.1 k_L270 (tgt := 1990) (by decide) ?_
  exact W.widen (Nat.le_add_right _ _) (Nat.le_add_right _ _) (kk _ _ _ ⟨I2, hR⟩)
theorem k_case1 {p : Program} {l : Launch} {e : Env} {s : State} {m : MethodId} {below : List Frame} {meth : Method} {c : Code} {Q : State → Prop} {b L : Nat} {xs : Nat → Int32} {D : va_G} {dA : Nat → ClassId} {a1 a2 i cells slots : Nat} {ls : Array Slot} {w : cWld} {H : Heap} {locs : List Loc} (C : k_Cx p s m c b L xs D dA) (I : k_In s D dA a1 a2 w H locs ∧ k_R a1 a2 w) (hl : lv_has ls 4 (k_lv b a1 a2 i)) (hi : i + 7 ≤ L) (hcb : cells + 26 ≤ 600000) (hsb : slots + 1584 ≤ 7302250)
    (kk : ∀ (w : cWld) (H : Heap) (locs : List Loc), k_In s D dA a1 a2 w H locs ∧ k_R a1 a2 w → W p l e room_1 s m #[Value.ref b] below meth c H locs (cells + 26) (slots + 1584) Q (F0 m 1990 ls [])) : W p l e room_1 s m #[Value.ref b] below meth c H locs cells slots Q (F0 m 273 ls []) := by
  have hc0 : cells ≤ 600000 := by omega
  have hs0 : slots ≤ 7302250 := by omega
  have hc1 := hcb
  have hs1 := hsb
  obtain ⟨I, hR⟩ := I
  refine lv_aload_n C.1 C.2.1 k_L273 rfl (lv_at hl 1 rfl) ?_
  refine k_pub C I (a := 113) (idx := 18) (M := k_M113) (ct := k_c113_0) rfl k_pm113_0 rfl (k_in 3 161 rfl rfl) (by decide +kernel) (x := a1) (As := []) (rest := []) [(a1 : Int)] (k_preC 0 rfl (by decide +kernel) ⟨k_aR I.2.2.2.2.1, trivial⟩ trivial) (Nat.le_of_ble_eq_true rfl) k_L274 hc0 hs0 hl.1 (fun rv1 rs1 w1 H1 lo1 hv1 hp1 I1 => ?_)
  obtain ⟨r1, rfl, rfl⟩ := hv1
  have hR := k_RK hp1.1 (by decide +kernel) (by decide +kernel) hR
  refine lv_pop2_2 C.1 C.2.1 k_L277 rfl ?_
  refine lv_aload_n C.1 C.2.1 k_L278 rfl (lv_at hl 2 rfl) ?_
  refine k_pub C I1 (a := 202) (idx := 22) (M := k_M202) (ct := k_c202_0) rfl k_pm202_0 rfl (k_in 8 11 rfl rfl) (by decide +kernel) (x := a2) (As := []) (rest := []) [(a2 : Int)] (k_preC 0 rfl (by decide +kernel) ⟨k_aR I1.2.2.2.2.2.1, trivial⟩ trivial) (Nat.le_of_ble_eq_true rfl) k_L279 hc0 hs0 hl.1 (fun rv2 rs2 w2 H2 lo2 hv2 hp2 I2 => ?_)
  obtain ⟨r2, rfl, rfl⟩ := hv2
  have hR := k_RK hp2.1 (by decide +kernel) (by decide +kernel) hR
  refine lv_pop2_2 C.1 C.2.1 k_L282 rfl ?_
  refine lv_goto C.1 C.2.1 k_L283 (tgt := 1990) (by decide) ?_
  exact W.widen (Nat.le_add_right _ _) (Nat.le_add_right _ _) (kk _ _ _ ⟨I2, hR⟩)
theorem k_case2 {p : Program} {l : Launch} {e : Env} {s : State} {m : MethodId} {below : List Frame} {meth : Method} {c : Code} {Q : State → Prop} {b L : Nat} {xs : Nat → Int32} {D : va_G} {dA : Nat → ClassId} {a1 a2 i cells slots : Nat} {ls : Array Slot} {w : cWld} {H : Heap} {locs : List Loc} (C : k_Cx p s m c b L xs D dA) (I : k_In s D dA a1 a2 w H locs ∧ k_R a1 a2 w) (hl : lv_has ls 4 (k_lv b a1 a2 i)) (hi : i + 7 ≤ L) (hcb : cells + 26 ≤ 600000) (hsb : slots + 1584 ≤ 7302250)
    (kk : ∀ (w : cWld) (H : Heap) (locs : List Loc), k_In s D dA a1 a2 w H locs ∧ k_R a1 a2 w → W p l e room_1 s m #[Value.ref b] below meth c H locs (cells + 26) (slots + 1584) Q (F0 m 1990 ls [])) : W p l e room_1 s m #[Value.ref b] below meth c H locs cells slots Q (F0 m 286 ls []) := by
  have hc0 : cells ≤ 600000 := by omega
  have hs0 : slots ≤ 7302250 := by omega
  have hc1 := hcb
  have hs1 := hsb
  obtain ⟨I, hR⟩ := I
  refine lv_aload_n C.1 C.2.1 k_L286 rfl (lv_at hl 1 rfl) ?_
  refine k_pub C I (a := 114) (idx := 23) (M := k_M114) (ct := k_c114_0) rfl k_pm114_0 rfl (k_in 3 165 rfl rfl) (by decide +kernel) (x := a1) (As := []) (rest := []) [(a1 : Int)] (k_preC 0 rfl (by decide +kernel) ⟨k_aR I.2.2.2.2.1, trivial⟩ trivial) (Nat.le_of_ble_eq_true rfl) k_L287 hc0 hs0 hl.1 (fun rv1 rs1 w1 H1 lo1 hv1 hp1 I1 => ?_)
  obtain ⟨r1, rfl, rfl⟩ := hv1
  have hR := k_RK hp1.1 (by decide +kernel) (by decide +kernel) hR
  refine lv_pop2_2 C.1 C.2.1 k_L290 rfl ?_
  refine lv_aload_n C.1 C.2.1 k_L291 rfl (lv_at hl 2 rfl) ?_
  refine k_pub C I1 (a := 203) (idx := 26) (M := k_M203) (ct := k_c203_0) rfl k_pm203_0 rfl (k_in 8 15 rfl rfl) (by decide +kernel) (x := a2) (As := []) (rest := []) [(a2 : Int)] (k_preC 0 rfl (by decide +kernel) ⟨k_aR I1.2.2.2.2.2.1, trivial⟩ trivial) (Nat.le_of_ble_eq_true rfl) k_L292 hc0 hs0 hl.1 (fun rv2 rs2 w2 H2 lo2 hv2 hp2 I2 => ?_)
  obtain ⟨r2, rfl, rfl⟩ := hv2
  have hR := k_RK hp2.1 (by decide +kernel) (by decide +kernel) hR
  refine lv_pop2_2 C.1 C.2.1 k_L295 rfl ?_
  refine lv_goto C.1 C.2.1 k_L296 (tgt := 1990) (by decide) ?_
  exact W.widen (Nat.le_add_right _ _) (Nat.le_add_right _ _) (kk _ _ _ ⟨I2, hR⟩)
theorem k_case3 {p : Program} {l : Launch} {e : Env} {s : State} {m : MethodId} {below : List Frame} {meth : Method} {c : Code} {Q : State → Prop} {b L : Nat} {xs : Nat → Int32} {D : va_G} {dA : Nat → ClassId} {a1 a2 i cells slots : Nat} {ls : Array Slot} {w : cWld} {H : Heap} {locs : List Loc} (C : k_Cx p s m c b L xs D dA) (I : k_In s D dA a1 a2 w H locs ∧ k_R a1 a2 w) (hl : lv_has ls 4 (k_lv b a1 a2 i)) (hi : i + 7 ≤ L) (hcb : cells + 26 ≤ 600000) (hsb : slots + 1584 ≤ 7302250)
    (kk : ∀ (w : cWld) (H : Heap) (locs : List Loc), k_In s D dA a1 a2 w H locs ∧ k_R a1 a2 w → W p l e room_1 s m #[Value.ref b] below meth c H locs (cells + 26) (slots + 1584) Q (F0 m 1990 ls [])) : W p l e room_1 s m #[Value.ref b] below meth c H locs cells slots Q (F0 m 299 ls []) := by
  have hc0 : cells ≤ 600000 := by omega
  have hs0 : slots ≤ 7302250 := by omega
  have hc1 := hcb
  have hs1 := hsb
  obtain ⟨I, hR⟩ := I
  obtain ⟨so, si, tm, ts, rw, nm, r, hT, hS, htr⟩ := id hR
  rcases (show (xs (i + 1)).toInt < 0 ∨ 4 ≤ (xs (i + 1)).toInt ∨ (xs (i + 1)).toInt = 0 ∨ (xs (i + 1)).toInt = 1 ∨ (xs (i + 1)).toInt = 2 ∨ (xs (i + 1)).toInt = 3 by omega) with hx | hx | hx | hx | hx | hx
  · refine lv_aload_n C.1 C.2.1 k_L299 rfl (lv_at hl 1 rfl) ?_
    refine k_arg C I hl (k := 1) (by omega) k_L300 k_L301 k_L302 (by decide) k_L303 k_L304 ?_
    refine k_arg C I hl (k := 2) (by omega) k_L305 k_L306 k_L307 (by decide) k_L308 k_L309 ?_
    refine k_arg C I hl (k := 3) (by omega) k_L310 k_L311 k_L312 (by decide) k_L313 k_L314 ?_
    refine k_pub2 C I (a := 123) (idx := 27) (M := k_M123) (ct := k_c123_1) rfl k_pm123_1 rfl (k_in 3 169 rfl rfl) (by decide +kernel) (x := a1) (As := [.int (xs (i + 1)), .int (xs (i + 2)), .int (xs (i + 3))]) (rest := []) [(a1 : Int), ((xs (i + 1))).toInt, ((xs (i + 2))).toInt, ((xs (i + 3))).toInt] (k_preC 0 rfl (by decide +kernel) ⟨k_aR I.2.2.2.2.1, ⟨_, rfl, rfl, (by have h8 := ((xs (i + 1))).le_toInt; show (-2147483648 : Int) ≤ ((xs (i + 1))).toInt; omega), (by have h8 := ((xs (i + 1))).toInt_lt; show ((xs (i + 1))).toInt ≤ (-1 : Int); omega)⟩, k_aI _, k_aI _, trivial⟩ trivial) (Nat.le_of_ble_eq_true rfl) k_L315 hc0 hs0 hl.1 (fun rv1 rs1 w1 H1 lo1 hv1 hp1 I1 hj1 => ?_)
    obtain ⟨r1, rfl, rfl, -, -⟩ := hv1
    have hR1 := k_RK hp1.1 (by decide +kernel) (by decide +kernel) hR
    refine lv_pop C.1 C.2.1 k_L318 rfl ?_
    refine lv_aload_n C.1 C.2.1 k_L319 rfl (lv_at hl 2 rfl) ?_
    refine k_arg C I1 hl (k := 1) (by omega) k_L320 k_L321 k_L322 (by decide) k_L323 k_L324 ?_
    refine k_arg C I1 hl (k := 2) (by omega) k_L325 k_L326 k_L327 (by decide) k_L328 k_L329 ?_
    refine k_arg C I1 hl (k := 3) (by omega) k_L330 k_L331 k_L332 (by decide) k_L333 k_L334 ?_
    refine k_pub2 C I1 (a := 210) (idx := 31) (M := k_M210) (ct := k_c210_1) rfl k_pm210_1 rfl (k_in 8 19 rfl rfl) (by decide +kernel) (x := a2) (As := [.int (xs (i + 1)), .int (xs (i + 2)), .int (xs (i + 3))]) (rest := []) [(a2 : Int), ((xs (i + 1))).toInt, ((xs (i + 2))).toInt, ((xs (i + 3))).toInt] (k_preC 0 rfl (by decide +kernel) ⟨k_aR I1.2.2.2.2.2.1, ⟨_, rfl, rfl, (by have h8 := ((xs (i + 1))).le_toInt; show (-2147483648 : Int) ≤ ((xs (i + 1))).toInt; omega), (by have h8 := ((xs (i + 1))).toInt_lt; show ((xs (i + 1))).toInt ≤ (-1 : Int); omega)⟩, k_aI _, k_aI _, trivial⟩ trivial) (Nat.le_of_ble_eq_true rfl) k_L335 hc0 hs0 hl.1 (fun rv2 rs2 w2 H2 lo2 hv2 hp2 I2 hj2 => ?_)
    obtain ⟨r2, rfl, rfl, -, -⟩ := hv2
    have hRn := k_RK hp2.1 (by decide +kernel) (by decide +kernel) hR1
    refine lv_pop C.1 C.2.1 k_L338 rfl ?_
    refine lv_goto C.1 C.2.1 k_L339 (tgt := 1990) (by decide) ?_
    exact W.widen (Nat.le_add_right _ _) (Nat.le_add_right _ _) (kk _ _ _ ⟨I2, hRn⟩)
  · refine lv_aload_n C.1 C.2.1 k_L299 rfl (lv_at hl 1 rfl) ?_
    refine k_arg C I hl (k := 1) (by omega) k_L300 k_L301 k_L302 (by decide) k_L303 k_L304 ?_
    refine k_arg C I hl (k := 2) (by omega) k_L305 k_L306 k_L307 (by decide) k_L308 k_L309 ?_
    refine k_arg C I hl (k := 3) (by omega) k_L310 k_L311 k_L312 (by decide) k_L313 k_L314 ?_
    refine k_pub2 C I (a := 123) (idx := 27) (M := k_M123) (ct := k_c123_2) rfl k_pm123_2 rfl (k_in 3 169 rfl rfl) (by decide +kernel) (x := a1) (As := [.int (xs (i + 1)), .int (xs (i + 2)), .int (xs (i + 3))]) (rest := []) [(a1 : Int), ((xs (i + 1))).toInt, ((xs (i + 2))).toInt, ((xs (i + 3))).toInt] (k_preC 0 rfl (by decide +kernel) ⟨k_aR I.2.2.2.2.1, ⟨_, rfl, rfl, (by have h8 := ((xs (i + 1))).le_toInt; show (4 : Int) ≤ ((xs (i + 1))).toInt; omega), (by have h8 := ((xs (i + 1))).toInt_lt; show ((xs (i + 1))).toInt ≤ (2147483647 : Int); omega)⟩, k_aI _, k_aI _, trivial⟩ trivial) (Nat.le_of_ble_eq_true rfl) k_L315 hc0 hs0 hl.1 (fun rv1 rs1 w1 H1 lo1 hv1 hp1 I1 hj1 => ?_)
    obtain ⟨r1, rfl, rfl, -, -⟩ := hv1
    have hR1 := k_RK hp1.1 (by decide +kernel) (by decide +kernel) hR
    refine lv_pop C.1 C.2.1 k_L318 rfl ?_
    refine lv_aload_n C.1 C.2.1 k_L319 rfl (lv_at hl 2 rfl) ?_
    refine k_arg C I1 hl (k := 1) (by omega) k_L320 k_L321 k_L322 (by decide) k_L323 k_L324 ?_
    refine k_arg C I1 hl (k := 2) (by omega) k_L325 k_L326 k_L327 (by decide) k_L328 k_L329 ?_
    refine k_arg C I1 hl (k := 3) (by omega) k_L330 k_L331 k_L332 (by decide) k_L333 k_L334 ?_
    refine k_pub2 C I1 (a := 210) (idx := 31) (M := k_M210) (ct := k_c210_2) rfl k_pm210_2 rfl (k_in 8 19 rfl rfl) (by decide +kernel) (x := a2) (As := [.int (xs (i + 1)), .int (xs (i + 2)), .int (xs (i + 3))]) (rest := []) [(a2 : Int), ((xs (i + 1))).toInt, ((xs (i + 2))).toInt, ((xs (i + 3))).toInt] (k_preC 0 rfl (by decide +kernel) ⟨k_aR I1.2.2.2.2.2.1, ⟨_, rfl, rfl, (by have h8 := ((xs (i + 1))).le_toInt; show (4 : Int) ≤ ((xs (i + 1))).toInt; omega), (by have h8 := ((xs (i + 1))).toInt_lt; show ((xs (i + 1))).toInt ≤ (2147483647 : Int); omega)⟩, k_aI _, k_aI _, trivial⟩ trivial) (Nat.le_of_ble_eq_true rfl) k_L335 hc0 hs0 hl.1 (fun rv2 rs2 w2 H2 lo2 hv2 hp2 I2 hj2 => ?_)
    obtain ⟨r2, rfl, rfl, -, -⟩ := hv2
    have hRn := k_RK hp2.1 (by decide +kernel) (by decide +kernel) hR1
    refine lv_pop C.1 C.2.1 k_L338 rfl ?_
    refine lv_goto C.1 C.2.1 k_L339 (tgt := 1990) (by decide) ?_
    exact W.widen (Nat.le_add_right _ _) (Nat.le_add_right _ _) (kk _ _ _ ⟨I2, hRn⟩)
  · obtain ⟨s0, z0, m0, u0, hs, hz, hm, hu, hq, -⟩ := htr 0 (by decide)
    refine lv_aload_n C.1 C.2.1 k_L299 rfl (lv_at hl 1 rfl) ?_
    refine k_arg C I hl (k := 1) (by omega) k_L300 k_L301 k_L302 (by decide) k_L303 k_L304 ?_
    refine k_arg C I hl (k := 2) (by omega) k_L305 k_L306 k_L307 (by decide) k_L308 k_L309 ?_
    refine k_arg C I hl (k := 3) (by omega) k_L310 k_L311 k_L312 (by decide) k_L313 k_L314 ?_
    refine k_pub2 C I (a := 123) (idx := 27) (M := k_M123) (ct := k_c123_3) rfl k_pm123_3 rfl (k_in 3 169 rfl rfl) (by decide +kernel) (x := a1) (As := [.int (xs (i + 1)), .int (xs (i + 2)), .int (xs (i + 3))]) (rest := []) [(a1 : Int), (0 : Int), ((xs (i + 2))).toInt, ((xs (i + 3))).toInt, (so : Int), (si : Int), s0, z0] (k_preC 0 rfl (by decide +kernel) ⟨k_aR I.2.2.2.2.1, ⟨_, rfl, hx, Int.le_refl _, Int.le_refl _⟩, k_aI _, k_aI _, trivial⟩ ⟨k_fnC (b := 0) hT.1 rfl rfl, k_fnC (b := 0) hT.2.2.1 rfl rfl, k_fnC (b := 4) hs rfl (by show (0 : Int) + (1 * (0 : Int) + 0) = _; rfl), k_fnC (b := 5) hz rfl (by show (0 : Int) + (1 * (0 : Int) + 0) = _; rfl), trivial⟩) (Nat.le_of_ble_eq_true rfl) k_L315 hc0 hs0 hl.1 (fun rv1 rs1 w1 H1 lo1 hv1 hp1 I1 hj1 => ?_)
    obtain ⟨r1, rfl, rfl, -, -⟩ := hv1
    have hTb := k_TK hp1.1 (by decide +kernel) (by decide +kernel) hT
    have hS1 := k_S7K hp1.1 (by decide +kernel) (by decide +kernel) hS
    obtain ⟨s1, z1, hs1, hz1, hq1⟩ := k_trayC0 hp1 hTb.2.1 hTb.2.2.2.1
    have hmb := k_fnK hp1.1 (by decide +kernel) (by decide) (by decide +kernel) hm
    have hub := k_fnK hp1.1 (by decide +kernel) (by decide) (by decide +kernel) hu
    refine lv_pop C.1 C.2.1 k_L318 rfl ?_
    refine lv_aload_n C.1 C.2.1 k_L319 rfl (lv_at hl 2 rfl) ?_
    refine k_arg C I1 hl (k := 1) (by omega) k_L320 k_L321 k_L322 (by decide) k_L323 k_L324 ?_
    refine k_arg C I1 hl (k := 2) (by omega) k_L325 k_L326 k_L327 (by decide) k_L328 k_L329 ?_
    refine k_arg C I1 hl (k := 3) (by omega) k_L330 k_L331 k_L332 (by decide) k_L333 k_L334 ?_
    refine k_pub2 C I1 (a := 210) (idx := 31) (M := k_M210) (ct := k_c210_3) rfl k_pm210_3 rfl (k_in 8 19 rfl rfl) (by decide +kernel) (x := a2) (As := [.int (xs (i + 1)), .int (xs (i + 2)), .int (xs (i + 3))]) (rest := []) [(a2 : Int), (0 : Int), ((xs (i + 2))).toInt, ((xs (i + 3))).toInt, (tm : Int), (ts : Int), m0, u0] (k_preC 0 rfl (by decide +kernel) ⟨k_aR I1.2.2.2.2.2.1, ⟨_, rfl, hx, Int.le_refl _, Int.le_refl _⟩, k_aI _, k_aI _, trivial⟩ ⟨k_fnC (b := 0) hTb.2.2.2.2.1 rfl rfl, k_fnC (b := 0) hTb.2.2.2.2.2.2.1 rfl rfl, k_fnC (b := 4) hmb rfl (by show (0 : Int) + (1 * (0 : Int) + 0) = _; rfl), k_fnC (b := 5) hub rfl (by show (0 : Int) + (1 * (0 : Int) + 0) = _; rfl), trivial⟩) (Nat.le_of_ble_eq_true rfl) k_L335 hc0 hs0 hl.1 (fun rv2 rs2 w2 H2 lo2 hv2 hp2 I2 hj2 => ?_)
    obtain ⟨r2, rfl, rfl, -, -⟩ := hv2
    have hTc := k_TK hp2.1 (by decide +kernel) (by decide +kernel) hTb
    have hS2 := k_S7K hp2.1 (by decide +kernel) (by decide +kernel) hS1
    obtain ⟨m1, u1, hm1, hu1, hq2⟩ := k_trayM0 hp2 hTc.2.2.2.2.2.1 hTc.2.2.2.2.2.2.2
    have hs2 := k_fnK hp2.1 (by decide +kernel) (by decide) (by decide +kernel) hs1
    have hz2 := k_fnK hp2.1 (by decide +kernel) (by decide) (by decide +kernel) hz1
    have hqn : k_tq s1 z1 m1 u1 := by unfold k_tq at hq ⊢; omega
    have hRn := k_trayZ0 I hS I1 hS1 I2 hS2 hp1.1 (by decide +kernel) (by decide +kernel) hp2.1 (by decide +kernel) (by decide +kernel) (j_exOf (by rfl) (by rfl) hj1) (j_exOf (by rfl) (by rfl) hj2) hx hTc htr (by decide +kernel) (by decide +kernel) hs2 hz2 hm1 hu1 hqn hm (by omega)
    refine lv_pop C.1 C.2.1 k_L338 rfl ?_
    refine lv_goto C.1 C.2.1 k_L339 (tgt := 1990) (by decide) ?_
    exact W.widen (Nat.le_add_right _ _) (Nat.le_add_right _ _) (kk _ _ _ ⟨I2, hRn⟩)
  · obtain ⟨s0, z0, m0, u0, hs, hz, hm, hu, hq, -⟩ := htr 1 (by decide)
    refine lv_aload_n C.1 C.2.1 k_L299 rfl (lv_at hl 1 rfl) ?_
    refine k_arg C I hl (k := 1) (by omega) k_L300 k_L301 k_L302 (by decide) k_L303 k_L304 ?_
    refine k_arg C I hl (k := 2) (by omega) k_L305 k_L306 k_L307 (by decide) k_L308 k_L309 ?_
    refine k_arg C I hl (k := 3) (by omega) k_L310 k_L311 k_L312 (by decide) k_L313 k_L314 ?_
    refine k_pub2 C I (a := 123) (idx := 27) (M := k_M123) (ct := k_c123_4) rfl k_pm123_4 rfl (k_in 3 169 rfl rfl) (by decide +kernel) (x := a1) (As := [.int (xs (i + 1)), .int (xs (i + 2)), .int (xs (i + 3))]) (rest := []) [(a1 : Int), (1 : Int), ((xs (i + 2))).toInt, ((xs (i + 3))).toInt, (so : Int), (si : Int), s0, z0] (k_preC 0 rfl (by decide +kernel) ⟨k_aR I.2.2.2.2.1, ⟨_, rfl, hx, Int.le_refl _, Int.le_refl _⟩, k_aI _, k_aI _, trivial⟩ ⟨k_fnC (b := 0) hT.1 rfl rfl, k_fnC (b := 0) hT.2.2.1 rfl rfl, k_fnC (b := 4) hs rfl (by show (0 : Int) + (1 * (1 : Int) + 0) = _; rfl), k_fnC (b := 5) hz rfl (by show (0 : Int) + (1 * (1 : Int) + 0) = _; rfl), trivial⟩) (Nat.le_of_ble_eq_true rfl) k_L315 hc0 hs0 hl.1 (fun rv1 rs1 w1 H1 lo1 hv1 hp1 I1 hj1 => ?_)
    obtain ⟨r1, rfl, rfl, -, -⟩ := hv1
    have hTb := k_TK hp1.1 (by decide +kernel) (by decide +kernel) hT
    have hS1 := k_S7K hp1.1 (by decide +kernel) (by decide +kernel) hS
    obtain ⟨s1, z1, hs1, hz1, hq1⟩ := k_trayC1 hp1 hTb.2.1 hTb.2.2.2.1
    have hmb := k_fnK hp1.1 (by decide +kernel) (by decide) (by decide +kernel) hm
    have hub := k_fnK hp1.1 (by decide +kernel) (by decide) (by decide +kernel) hu
    refine lv_pop C.1 C.2.1 k_L318 rfl ?_
    refine lv_aload_n C.1 C.2.1 k_L319 rfl (lv_at hl 2 rfl) ?_
    refine k_arg C I1 hl (k := 1) (by omega) k_L320 k_L321 k_L322 (by decide) k_L323 k_L324 ?_
    refine k_arg C I1 hl (k := 2) (by omega) k_L325 k_L326 k_L327 (by decide) k_L328 k_L329 ?_
    refine k_arg C I1 hl (k := 3) (by omega) k_L330 k_L331 k_L332 (by decide) k_L333 k_L334 ?_
    refine k_pub2 C I1 (a := 210) (idx := 31) (M := k_M210) (ct := k_c210_4) rfl k_pm210_4 rfl (k_in 8 19 rfl rfl) (by decide +kernel) (x := a2) (As := [.int (xs (i + 1)), .int (xs (i + 2)), .int (xs (i + 3))]) (rest := []) [(a2 : Int), (1 : Int), ((xs (i + 2))).toInt, ((xs (i + 3))).toInt, (tm : Int), (ts : Int), m0, u0] (k_preC 0 rfl (by decide +kernel) ⟨k_aR I1.2.2.2.2.2.1, ⟨_, rfl, hx, Int.le_refl _, Int.le_refl _⟩, k_aI _, k_aI _, trivial⟩ ⟨k_fnC (b := 0) hTb.2.2.2.2.1 rfl rfl, k_fnC (b := 0) hTb.2.2.2.2.2.2.1 rfl rfl, k_fnC (b := 4) hmb rfl (by show (0 : Int) + (1 * (1 : Int) + 0) = _; rfl), k_fnC (b := 5) hub rfl (by show (0 : Int) + (1 * (1 : Int) + 0) = _; rfl), trivial⟩) (Nat.le_of_ble_eq_true rfl) k_L335 hc0 hs0 hl.1 (fun rv2 rs2 w2 H2 lo2 hv2 hp2 I2 hj2 => ?_)
    obtain ⟨r2, rfl, rfl, -, -⟩ := hv2
    have hTc := k_TK hp2.1 (by decide +kernel) (by decide +kernel) hTb
    have hS2 := k_S7K hp2.1 (by decide +kernel) (by decide +kernel) hS1
    obtain ⟨m1, u1, hm1, hu1, hq2⟩ := k_trayM1 hp2 hTc.2.2.2.2.2.1 hTc.2.2.2.2.2.2.2
    have hs2 := k_fnK hp2.1 (by decide +kernel) (by decide) (by decide +kernel) hs1
    have hz2 := k_fnK hp2.1 (by decide +kernel) (by decide) (by decide +kernel) hz1
    have hqn : k_tq s1 z1 m1 u1 := by unfold k_tq at hq ⊢; omega
    have hRn := k_trayZ1 I hS I1 hS1 I2 hS2 hp1.1 (by decide +kernel) (by decide +kernel) hp2.1 (by decide +kernel) (by decide +kernel) (j_exOf (by rfl) (by rfl) hj1) (j_exOf (by rfl) (by rfl) hj2) hx hTc htr (by decide +kernel) (by decide +kernel) hs2 hz2 hm1 hu1 hqn hm (by omega)
    refine lv_pop C.1 C.2.1 k_L338 rfl ?_
    refine lv_goto C.1 C.2.1 k_L339 (tgt := 1990) (by decide) ?_
    exact W.widen (Nat.le_add_right _ _) (Nat.le_add_right _ _) (kk _ _ _ ⟨I2, hRn⟩)
  · obtain ⟨s0, z0, m0, u0, hs, hz, hm, hu, hq, -⟩ := htr 2 (by decide)
    refine lv_aload_n C.1 C.2.1 k_L299 rfl (lv_at hl 1 rfl) ?_
    refine k_arg C I hl (k := 1) (by omega) k_L300 k_L301 k_L302 (by decide) k_L303 k_L304 ?_
    refine k_arg C I hl (k := 2) (by omega) k_L305 k_L306 k_L307 (by decide) k_L308 k_L309 ?_
    refine k_arg C I hl (k := 3) (by omega) k_L310 k_L311 k_L312 (by decide) k_L313 k_L314 ?_
    refine k_pub2 C I (a := 123) (idx := 27) (M := k_M123) (ct := k_c123_5) rfl k_pm123_5 rfl (k_in 3 169 rfl rfl) (by decide +kernel) (x := a1) (As := [.int (xs (i + 1)), .int (xs (i + 2)), .int (xs (i + 3))]) (rest := []) [(a1 : Int), (2 : Int), ((xs (i + 2))).toInt, ((xs (i + 3))).toInt, (so : Int), (si : Int), s0, z0] (k_preC 0 rfl (by decide +kernel) ⟨k_aR I.2.2.2.2.1, ⟨_, rfl, hx, Int.le_refl _, Int.le_refl _⟩, k_aI _, k_aI _, trivial⟩ ⟨k_fnC (b := 0) hT.1 rfl rfl, k_fnC (b := 0) hT.2.2.1 rfl rfl, k_fnC (b := 4) hs rfl (by show (0 : Int) + (1 * (2 : Int) + 0) = _; rfl), k_fnC (b := 5) hz rfl (by show (0 : Int) + (1 * (2 : Int) + 0) = _; rfl), trivial⟩) (Nat.le_of_ble_eq_true rfl) k_L315 hc0 hs0 hl.1 (fun rv1 rs1 w1 H1 lo1 hv1 hp1 I1 hj1 => ?_)
    obtain ⟨r1, rfl, rfl, -, -⟩ := hv1
    have hTb := k_TK hp1.1 (by decide +kernel) (by decide +kernel) hT
    have hS1 := k_S7K hp1.1 (by decide +kernel) (by decide +kernel) hS
    obtain ⟨s1, z1, hs1, hz1, hq1⟩ := k_trayC2 hp1 hTb.2.1 hTb.2.2.2.1
    have hmb := k_fnK hp1.1 (by decide +kernel) (by decide) (by decide +kernel) hm
    have hub := k_fnK hp1.1 (by decide +kernel) (by decide) (by decide +kernel) hu
    refine lv_pop C.1 C.2.1 k_L318 rfl ?_
    refine lv_aload_n C.1 C.2.1 k_L319 rfl (lv_at hl 2 rfl) ?_
    refine k_arg C I1 hl (k := 1) (by omega) k_L320 k_L321 k_L322 (by decide) k_L323 k_L324 ?_
    refine k_arg C I1 hl (k := 2) (by omega) k_L325 k_L326 k_L327 (by decide) k_L328 k_L329 ?_
    refine k_arg C I1 hl (k := 3) (by omega) k_L330 k_L331 k_L332 (by decide) k_L333 k_L334 ?_
    refine k_pub2 C I1 (a := 210) (idx := 31) (M := k_M210) (ct := k_c210_5) rfl k_pm210_5 rfl (k_in 8 19 rfl rfl) (by decide +kernel) (x := a2) (As := [.int (xs (i + 1)), .int (xs (i + 2)), .int (xs (i + 3))]) (rest := []) [(a2 : Int), (2 : Int), ((xs (i + 2))).toInt, ((xs (i + 3))).toInt, (tm : Int), (ts : Int), m0, u0] (k_preC 0 rfl (by decide +kernel) ⟨k_aR I1.2.2.2.2.2.1, ⟨_, rfl, hx, Int.le_refl _, Int.le_refl _⟩, k_aI _, k_aI _, trivial⟩ ⟨k_fnC (b := 0) hTb.2.2.2.2.1 rfl rfl, k_fnC (b := 0) hTb.2.2.2.2.2.2.1 rfl rfl, k_fnC (b := 4) hmb rfl (by show (0 : Int) + (1 * (2 : Int) + 0) = _; rfl), k_fnC (b := 5) hub rfl (by show (0 : Int) + (1 * (2 : Int) + 0) = _; rfl), trivial⟩) (Nat.le_of_ble_eq_true rfl) k_L335 hc0 hs0 hl.1 (fun rv2 rs2 w2 H2 lo2 hv2 hp2 I2 hj2 => ?_)
    obtain ⟨r2, rfl, rfl, -, -⟩ := hv2
    have hTc := k_TK hp2.1 (by decide +kernel) (by decide +kernel) hTb
    have hS2 := k_S7K hp2.1 (by decide +kernel) (by decide +kernel) hS1
    obtain ⟨m1, u1, hm1, hu1, hq2⟩ := k_trayM2 hp2 hTc.2.2.2.2.2.1 hTc.2.2.2.2.2.2.2
    have hs2 := k_fnK hp2.1 (by decide +kernel) (by decide) (by decide +kernel) hs1
    have hz2 := k_fnK hp2.1 (by decide +kernel) (by decide) (by decide +kernel) hz1
    have hqn : k_tq s1 z1 m1 u1 := by unfold k_tq at hq ⊢; omega
    have hRn := k_trayZ2 I hS I1 hS1 I2 hS2 hp1.1 (by decide +kernel) (by decide +kernel) hp2.1 (by decide +kernel) (by decide +kernel) (j_exOf (by rfl) (by rfl) hj1) (j_exOf (by rfl) (by rfl) hj2) hx hTc htr (by decide +kernel) (by decide +kernel) hs2 hz2 hm1 hu1 hqn hm (by omega)
    refine lv_pop C.1 C.2.1 k_L338 rfl ?_
    refine lv_goto C.1 C.2.1 k_L339 (tgt := 1990) (by decide) ?_
    exact W.widen (Nat.le_add_right _ _) (Nat.le_add_right _ _) (kk _ _ _ ⟨I2, hRn⟩)
  · obtain ⟨s0, z0, m0, u0, hs, hz, hm, hu, hq, -⟩ := htr 3 (by decide)
    refine lv_aload_n C.1 C.2.1 k_L299 rfl (lv_at hl 1 rfl) ?_
    refine k_arg C I hl (k := 1) (by omega) k_L300 k_L301 k_L302 (by decide) k_L303 k_L304 ?_
    refine k_arg C I hl (k := 2) (by omega) k_L305 k_L306 k_L307 (by decide) k_L308 k_L309 ?_
    refine k_arg C I hl (k := 3) (by omega) k_L310 k_L311 k_L312 (by decide) k_L313 k_L314 ?_
    refine k_pub2 C I (a := 123) (idx := 27) (M := k_M123) (ct := k_c123_6) rfl k_pm123_6 rfl (k_in 3 169 rfl rfl) (by decide +kernel) (x := a1) (As := [.int (xs (i + 1)), .int (xs (i + 2)), .int (xs (i + 3))]) (rest := []) [(a1 : Int), (3 : Int), ((xs (i + 2))).toInt, ((xs (i + 3))).toInt, (so : Int), (si : Int), s0, z0] (k_preC 0 rfl (by decide +kernel) ⟨k_aR I.2.2.2.2.1, ⟨_, rfl, hx, Int.le_refl _, Int.le_refl _⟩, k_aI _, k_aI _, trivial⟩ ⟨k_fnC (b := 0) hT.1 rfl rfl, k_fnC (b := 0) hT.2.2.1 rfl rfl, k_fnC (b := 4) hs rfl (by show (0 : Int) + (1 * (3 : Int) + 0) = _; rfl), k_fnC (b := 5) hz rfl (by show (0 : Int) + (1 * (3 : Int) + 0) = _; rfl), trivial⟩) (Nat.le_of_ble_eq_true rfl) k_L315 hc0 hs0 hl.1 (fun rv1 rs1 w1 H1 lo1 hv1 hp1 I1 hj1 => ?_)
    obtain ⟨r1, rfl, rfl, -, -⟩ := hv1
    have hTb := k_TK hp1.1 (by decide +kernel) (by decide +kernel) hT
    have hS1 := k_S7K hp1.1 (by decide +kernel) (by decide +kernel) hS
    obtain ⟨s1, z1, hs1, hz1, hq1⟩ := k_trayC3 hp1 hTb.2.1 hTb.2.2.2.1
    have hmb := k_fnK hp1.1 (by decide +kernel) (by decide) (by decide +kernel) hm
    have hub := k_fnK hp1.1 (by decide +kernel) (by decide) (by decide +kernel) hu
    refine lv_pop C.1 C.2.1 k_L318 rfl ?_
    refine lv_aload_n C.1 C.2.1 k_L319 rfl (lv_at hl 2 rfl) ?_
    refine k_arg C I1 hl (k := 1) (by omega) k_L320 k_L321 k_L322 (by decide) k_L323 k_L324 ?_
    refine k_arg C I1 hl (k := 2) (by omega) k_L325 k_L326 k_L327 (by decide) k_L328 k_L329 ?_
    refine k_arg C I1 hl (k := 3) (by omega) k_L330 k_L331 k_L332 (by decide) k_L333 k_L334 ?_
    refine k_pub2 C I1 (a := 210) (idx := 31) (M := k_M210) (ct := k_c210_6) rfl k_pm210_6 rfl (k_in 8 19 rfl rfl) (by decide +kernel) (x := a2) (As := [.int (xs (i + 1)), .int (xs (i + 2)), .int (xs (i + 3))]) (rest := []) [(a2 : Int), (3 : Int), ((xs (i + 2))).toInt, ((xs (i + 3))).toInt, (tm : Int), (ts : Int), m0, u0] (k_preC 0 rfl (by decide +kernel) ⟨k_aR I1.2.2.2.2.2.1, ⟨_, rfl, hx, Int.le_refl _, Int.le_refl _⟩, k_aI _, k_aI _, trivial⟩ ⟨k_fnC (b := 0) hTb.2.2.2.2.1 rfl rfl, k_fnC (b := 0) hTb.2.2.2.2.2.2.1 rfl rfl, k_fnC (b := 4) hmb rfl (by show (0 : Int) + (1 * (3 : Int) + 0) = _; rfl), k_fnC (b := 5) hub rfl (by show (0 : Int) + (1 * (3 : Int) + 0) = _; rfl), trivial⟩) (Nat.le_of_ble_eq_true rfl) k_L335 hc0 hs0 hl.1 (fun rv2 rs2 w2 H2 lo2 hv2 hp2 I2 hj2 => ?_)
    obtain ⟨r2, rfl, rfl, -, -⟩ := hv2
    have hTc := k_TK hp2.1 (by decide +kernel) (by decide +kernel) hTb
    have hS2 := k_S7K hp2.1 (by decide +kernel) (by decide +kernel) hS1
    obtain ⟨m1, u1, hm1, hu1, hq2⟩ := k_trayM3 hp2 hTc.2.2.2.2.2.1 hTc.2.2.2.2.2.2.2
    have hs2 := k_fnK hp2.1 (by decide +kernel) (by decide) (by decide +kernel) hs1
    have hz2 := k_fnK hp2.1 (by decide +kernel) (by decide) (by decide +kernel) hz1
    have hqn : k_tq s1 z1 m1 u1 := by unfold k_tq at hq ⊢; omega
    have hRn := k_trayZ3 I hS I1 hS1 I2 hS2 hp1.1 (by decide +kernel) (by decide +kernel) hp2.1 (by decide +kernel) (by decide +kernel) (j_exOf (by rfl) (by rfl) hj1) (j_exOf (by rfl) (by rfl) hj2) hx hTc htr (by decide +kernel) (by decide +kernel) hs2 hz2 hm1 hu1 hqn hm (by omega)
    refine lv_pop C.1 C.2.1 k_L338 rfl ?_
    refine lv_goto C.1 C.2.1 k_L339 (tgt := 1990) (by decide) ?_
    exact W.widen (Nat.le_add_right _ _) (Nat.le_add_right _ _) (kk _ _ _ ⟨I2, hRn⟩)
theorem k_case4 {p : Program} {l : Launch} {e : Env} {s : State} {m : MethodId} {below : List Frame} {meth : Method} {c : Code} {Q : State → Prop} {b L : Nat} {xs : Nat → Int32} {D : va_G} {dA : Nat → ClassId} {a1 a2 i cells slots : Nat} {ls : Array Slot} {w : cWld} {H : Heap} {locs : List Loc} (C : k_Cx p s m c b L xs D dA) (I : k_In s D dA a1 a2 w H locs ∧ k_R a1 a2 w) (hl : lv_has ls 4 (k_lv b a1 a2 i)) (hi : i + 7 ≤ L) (hcb : cells + 26 ≤ 600000) (hsb : slots + 1584 ≤ 7302250)
    (kk : ∀ (w : cWld) (H : Heap) (locs : List Loc), k_In s D dA a1 a2 w H locs ∧ k_R a1 a2 w → W p l e room_1 s m #[Value.ref b] below meth c H locs (cells + 26) (slots + 1584) Q (F0 m 1990 ls [])) : W p l e room_1 s m #[Value.ref b] below meth c H locs cells slots Q (F0 m 342 ls []) := by
  have hc0 : cells ≤ 600000 := by omega
  have hs0 : slots ≤ 7302250 := by omega
  have hc1 := hcb
  have hs1 := hsb
  obtain ⟨I, hR⟩ := I
  obtain ⟨so, si, tm, ts, rw, nm, r, hT, hS, htr⟩ := id hR
  rcases (show (xs (i + 1)).toInt < 0 ∨ 4 ≤ (xs (i + 1)).toInt ∨ (0 ≤ (xs (i + 1)).toInt ∧ (xs (i + 1)).toInt ≤ 3) by omega) with hx | hx | hx
  · refine lv_aload_n C.1 C.2.1 k_L342 rfl (lv_at hl 1 rfl) ?_
    refine k_arg C I hl (k := 1) (by omega) k_L343 k_L344 k_L345 (by decide) k_L346 k_L347 ?_
    refine k_arg C I hl (k := 2) (by omega) k_L348 k_L349 k_L350 (by decide) k_L351 k_L352 ?_
    refine k_arg C I hl (k := 3) (by omega) k_L353 k_L354 k_L355 (by decide) k_L356 k_L357 ?_
    refine lv_i2l C.1 C.2.1 k_L358 rfl ?_
    refine lv_bipush (v := 32) C.1 C.2.1 k_L359 (by decide) ?_
    refine lv_lshl C.1 C.2.1 k_L361 rfl ?_
    refine k_arg C I hl (k := 4) (by omega) k_L362 k_L363 k_L364 (by decide) k_L365 k_L366 ?_
    refine lv_i2l C.1 C.2.1 k_L367 rfl ?_
    refine lv_ldc2 C.1 C.2.1 C.2.2.2.1 (C.2.2.2.2.1 _ (k_in 10 162 rfl rfl)) k_L368 ?_
    refine lv_land C.1 C.2.1 k_L371 ?_
    refine lv_lor C.1 C.2.1 k_L372 ?_
    refine lv_topl (fun y1 ye1 => ?_)
    refine k_pub2 C I (a := 125) (idx := 34) (M := k_M125) (ct := k_c125_1) rfl k_pm125_1 rfl (k_in 3 188 rfl rfl) (by decide +kernel) (x := a1) (As := [.int (xs (i + 1)), .int (xs (i + 2)), .long y1]) (rest := []) [(a1 : Int), ((xs (i + 1))).toInt, ((xs (i + 2))).toInt, (y1).toInt] (k_preC 0 rfl (by decide +kernel) ⟨k_aR I.2.2.2.2.1, ⟨_, rfl, rfl, (by have h8 := ((xs (i + 1))).le_toInt; show (-2147483648 : Int) ≤ ((xs (i + 1))).toInt; omega), (by have h8 := ((xs (i + 1))).toInt_lt; show ((xs (i + 1))).toInt ≤ (-1 : Int); omega)⟩, k_aI _, k_aJ _, trivial⟩ trivial) (Nat.le_of_ble_eq_true rfl) k_L373 hc0 hs0 hl.1 (fun rv1 rs1 w1 H1 lo1 hv1 hp1 I1 hj1 => ?_)
    obtain ⟨r1, rfl, rfl, -, -⟩ := hv1
    have hR1 := k_RK hp1.1 (by decide +kernel) (by decide +kernel) hR
    refine lv_pop C.1 C.2.1 k_L376 rfl ?_
    refine lv_aload_n C.1 C.2.1 k_L377 rfl (lv_at hl 2 rfl) ?_
    refine k_arg C I1 hl (k := 1) (by omega) k_L378 k_L379 k_L380 (by decide) k_L381 k_L382 ?_
    refine k_arg C I1 hl (k := 2) (by omega) k_L383 k_L384 k_L385 (by decide) k_L386 k_L387 ?_
    refine k_arg C I1 hl (k := 3) (by omega) k_L388 k_L389 k_L390 (by decide) k_L391 k_L392 ?_
    refine lv_i2l C.1 C.2.1 k_L393 rfl ?_
    refine lv_bipush (v := 32) C.1 C.2.1 k_L394 (by decide) ?_
    refine lv_lshl C.1 C.2.1 k_L396 rfl ?_
    refine k_arg C I1 hl (k := 4) (by omega) k_L397 k_L398 k_L399 (by decide) k_L400 k_L401 ?_
    refine lv_i2l C.1 C.2.1 k_L402 rfl ?_
    refine lv_ldc2 C.1 C.2.1 C.2.2.2.1 (C.2.2.2.2.1 _ (k_in 10 162 rfl rfl)) k_L403 ?_
    refine lv_land C.1 C.2.1 k_L406 ?_
    refine lv_lor C.1 C.2.1 k_L407 ?_
    refine lv_topl (fun y2 ye2 => ?_)
    rw [show y2 = y1 from ye2.trans ye1.symm]
    refine k_pub2 C I1 (a := 213) (idx := 38) (M := k_M213) (ct := k_c213_1) rfl k_pm213_1 rfl (k_in 8 27 rfl rfl) (by decide +kernel) (x := a2) (As := [.int (xs (i + 1)), .int (xs (i + 2)), .long y1]) (rest := []) [(a2 : Int), ((xs (i + 1))).toInt, ((xs (i + 2))).toInt, (y1).toInt] (k_preC 0 rfl (by decide +kernel) ⟨k_aR I1.2.2.2.2.2.1, ⟨_, rfl, rfl, (by have h8 := ((xs (i + 1))).le_toInt; show (-2147483648 : Int) ≤ ((xs (i + 1))).toInt; omega), (by have h8 := ((xs (i + 1))).toInt_lt; show ((xs (i + 1))).toInt ≤ (-1 : Int); omega)⟩, k_aI _, k_aJ _, trivial⟩ trivial) (Nat.le_of_ble_eq_true rfl) k_L408 hc0 hs0 hl.1 (fun rv2 rs2 w2 H2 lo2 hv2 hp2 I2 hj2 => ?_)
    obtain ⟨r2, rfl, rfl, -, -⟩ := hv2
    have hRn := k_RK hp2.1 (by decide +kernel) (by decide +kernel) hR1
    refine lv_pop C.1 C.2.1 k_L411 rfl ?_
    refine lv_goto C.1 C.2.1 k_L412 (tgt := 1990) (by decide) ?_
    exact W.widen (Nat.le_add_right _ _) (Nat.le_add_right _ _) (kk _ _ _ ⟨I2, hRn⟩)
  · refine lv_aload_n C.1 C.2.1 k_L342 rfl (lv_at hl 1 rfl) ?_
    refine k_arg C I hl (k := 1) (by omega) k_L343 k_L344 k_L345 (by decide) k_L346 k_L347 ?_
    refine k_arg C I hl (k := 2) (by omega) k_L348 k_L349 k_L350 (by decide) k_L351 k_L352 ?_
    refine k_arg C I hl (k := 3) (by omega) k_L353 k_L354 k_L355 (by decide) k_L356 k_L357 ?_
    refine lv_i2l C.1 C.2.1 k_L358 rfl ?_
    refine lv_bipush (v := 32) C.1 C.2.1 k_L359 (by decide) ?_
    refine lv_lshl C.1 C.2.1 k_L361 rfl ?_
    refine k_arg C I hl (k := 4) (by omega) k_L362 k_L363 k_L364 (by decide) k_L365 k_L366 ?_
    refine lv_i2l C.1 C.2.1 k_L367 rfl ?_
    refine lv_ldc2 C.1 C.2.1 C.2.2.2.1 (C.2.2.2.2.1 _ (k_in 10 162 rfl rfl)) k_L368 ?_
    refine lv_land C.1 C.2.1 k_L371 ?_
    refine lv_lor C.1 C.2.1 k_L372 ?_
    refine lv_topl (fun y1 ye1 => ?_)
    refine k_pub2 C I (a := 125) (idx := 34) (M := k_M125) (ct := k_c125_2) rfl k_pm125_2 rfl (k_in 3 188 rfl rfl) (by decide +kernel) (x := a1) (As := [.int (xs (i + 1)), .int (xs (i + 2)), .long y1]) (rest := []) [(a1 : Int), ((xs (i + 1))).toInt, ((xs (i + 2))).toInt, (y1).toInt] (k_preC 0 rfl (by decide +kernel) ⟨k_aR I.2.2.2.2.1, ⟨_, rfl, rfl, (by have h8 := ((xs (i + 1))).le_toInt; show (4 : Int) ≤ ((xs (i + 1))).toInt; omega), (by have h8 := ((xs (i + 1))).toInt_lt; show ((xs (i + 1))).toInt ≤ (2147483647 : Int); omega)⟩, k_aI _, k_aJ _, trivial⟩ trivial) (Nat.le_of_ble_eq_true rfl) k_L373 hc0 hs0 hl.1 (fun rv1 rs1 w1 H1 lo1 hv1 hp1 I1 hj1 => ?_)
    obtain ⟨r1, rfl, rfl, -, -⟩ := hv1
    have hR1 := k_RK hp1.1 (by decide +kernel) (by decide +kernel) hR
    refine lv_pop C.1 C.2.1 k_L376 rfl ?_
    refine lv_aload_n C.1 C.2.1 k_L377 rfl (lv_at hl 2 rfl) ?_
    refine k_arg C I1 hl (k := 1) (by omega) k_L378 k_L379 k_L380 (by decide) k_L381 k_L382 ?_
    refine k_arg C I1 hl (k := 2) (by omega) k_L383 k_L384 k_L385 (by decide) k_L386 k_L387 ?_
    refine k_arg C I1 hl (k := 3) (by omega) k_L388 k_L389 k_L390 (by decide) k_L391 k_L392 ?_
    refine lv_i2l C.1 C.2.1 k_L393 rfl ?_
    refine lv_bipush (v := 32) C.1 C.2.1 k_L394 (by decide) ?_
    refine lv_lshl C.1 C.2.1 k_L396 rfl ?_
    refine k_arg C I1 hl (k := 4) (by omega) k_L397 k_L398 k_L399 (by decide) k_L400 k_L401 ?_
    refine lv_i2l C.1 C.2.1 k_L402 rfl ?_
    refine lv_ldc2 C.1 C.2.1 C.2.2.2.1 (C.2.2.2.2.1 _ (k_in 10 162 rfl rfl)) k_L403 ?_
    refine lv_land C.1 C.2.1 k_L406 ?_
    refine lv_lor C.1 C.2.1 k_L407 ?_
    refine lv_topl (fun y2 ye2 => ?_)
    rw [show y2 = y1 from ye2.trans ye1.symm]
    refine k_pub2 C I1 (a := 213) (idx := 38) (M := k_M213) (ct := k_c213_2) rfl k_pm213_2 rfl (k_in 8 27 rfl rfl) (by decide +kernel) (x := a2) (As := [.int (xs (i + 1)), .int (xs (i + 2)), .long y1]) (rest := []) [(a2 : Int), ((xs (i + 1))).toInt, ((xs (i + 2))).toInt, (y1).toInt] (k_preC 0 rfl (by decide +kernel) ⟨k_aR I1.2.2.2.2.2.1, ⟨_, rfl, rfl, (by have h8 := ((xs (i + 1))).le_toInt; show (4 : Int) ≤ ((xs (i + 1))).toInt; omega), (by have h8 := ((xs (i + 1))).toInt_lt; show ((xs (i + 1))).toInt ≤ (2147483647 : Int); omega)⟩, k_aI _, k_aJ _, trivial⟩ trivial) (Nat.le_of_ble_eq_true rfl) k_L408 hc0 hs0 hl.1 (fun rv2 rs2 w2 H2 lo2 hv2 hp2 I2 hj2 => ?_)
    obtain ⟨r2, rfl, rfl, -, -⟩ := hv2
    have hRn := k_RK hp2.1 (by decide +kernel) (by decide +kernel) hR1
    refine lv_pop C.1 C.2.1 k_L411 rfl ?_
    refine lv_goto C.1 C.2.1 k_L412 (tgt := 1990) (by decide) ?_
    exact W.widen (Nat.le_add_right _ _) (Nat.le_add_right _ _) (kk _ _ _ ⟨I2, hRn⟩)
  · obtain ⟨t, ht, hx⟩ : ∃ t : Nat, t < 4 ∧ (xs (i + 1)).toInt = (t : Int) := ⟨(xs (i + 1)).toInt.toNat, by omega, by omega⟩
    obtain ⟨s0, z0, m0, u0, hs, hz, hm, hu, hq, -⟩ := htr t ht
    refine lv_aload_n C.1 C.2.1 k_L342 rfl (lv_at hl 1 rfl) ?_
    refine k_arg C I hl (k := 1) (by omega) k_L343 k_L344 k_L345 (by decide) k_L346 k_L347 ?_
    refine k_arg C I hl (k := 2) (by omega) k_L348 k_L349 k_L350 (by decide) k_L351 k_L352 ?_
    refine k_arg C I hl (k := 3) (by omega) k_L353 k_L354 k_L355 (by decide) k_L356 k_L357 ?_
    refine lv_i2l C.1 C.2.1 k_L358 rfl ?_
    refine lv_bipush (v := 32) C.1 C.2.1 k_L359 (by decide) ?_
    refine lv_lshl C.1 C.2.1 k_L361 rfl ?_
    refine k_arg C I hl (k := 4) (by omega) k_L362 k_L363 k_L364 (by decide) k_L365 k_L366 ?_
    refine lv_i2l C.1 C.2.1 k_L367 rfl ?_
    refine lv_ldc2 C.1 C.2.1 C.2.2.2.1 (C.2.2.2.2.1 _ (k_in 10 162 rfl rfl)) k_L368 ?_
    refine lv_land C.1 C.2.1 k_L371 ?_
    refine lv_lor C.1 C.2.1 k_L372 ?_
    refine lv_topl (fun y1 ye1 => ?_)
    refine k_pub2 C I (a := 125) (idx := 34) (M := k_M125) (ct := k_c125_3) rfl k_pm125_3 rfl (k_in 3 188 rfl rfl) (by decide +kernel) (x := a1) (As := [.int (xs (i + 1)), .int (xs (i + 2)), .long y1]) (rest := []) [(a1 : Int), (t : Int), ((xs (i + 2))).toInt, (y1).toInt, (so : Int), (si : Int), s0, z0] (k_preC 0 rfl (by decide +kernel) ⟨k_aR I.2.2.2.2.1, ⟨_, rfl, hx, (by show (0 : Int) ≤ (t : Int); omega), (by show (t : Int) ≤ 3; omega)⟩, k_aI _, k_aJ _, trivial⟩ ⟨k_fnC (b := 0) hT.1 rfl rfl, k_fnC (b := 0) hT.2.2.1 rfl rfl, k_fnC (b := 4) hs rfl (by show (0 : Int) + (1 * (t : Int) + 0) = _; omega), k_fnC (b := 5) hz rfl (by show (0 : Int) + (1 * (t : Int) + 0) = _; omega), trivial⟩) (Nat.le_of_ble_eq_true rfl) k_L373 hc0 hs0 hl.1 (fun rv1 rs1 w1 H1 lo1 hv1 hp1 I1 hj1 => ?_)
    obtain ⟨r1, rfl, rfl, -, -⟩ := hv1
    have hTb := k_TK hp1.1 (by decide +kernel) (by decide +kernel) hT
    have hS1 := k_S7K hp1.1 (by decide +kernel) (by decide +kernel) hS
    have hmb := k_fnK hp1.1 (by decide +kernel) (by decide) (k_none_ok (by decide +kernel) _ _) hm
    have hub := k_fnK hp1.1 (by decide +kernel) (by decide) (k_none_ok (by decide +kernel) _ _) hu
    refine lv_pop C.1 C.2.1 k_L376 rfl ?_
    refine lv_aload_n C.1 C.2.1 k_L377 rfl (lv_at hl 2 rfl) ?_
    refine k_arg C I1 hl (k := 1) (by omega) k_L378 k_L379 k_L380 (by decide) k_L381 k_L382 ?_
    refine k_arg C I1 hl (k := 2) (by omega) k_L383 k_L384 k_L385 (by decide) k_L386 k_L387 ?_
    refine k_arg C I1 hl (k := 3) (by omega) k_L388 k_L389 k_L390 (by decide) k_L391 k_L392 ?_
    refine lv_i2l C.1 C.2.1 k_L393 rfl ?_
    refine lv_bipush (v := 32) C.1 C.2.1 k_L394 (by decide) ?_
    refine lv_lshl C.1 C.2.1 k_L396 rfl ?_
    refine k_arg C I1 hl (k := 4) (by omega) k_L397 k_L398 k_L399 (by decide) k_L400 k_L401 ?_
    refine lv_i2l C.1 C.2.1 k_L402 rfl ?_
    refine lv_ldc2 C.1 C.2.1 C.2.2.2.1 (C.2.2.2.2.1 _ (k_in 10 162 rfl rfl)) k_L403 ?_
    refine lv_land C.1 C.2.1 k_L406 ?_
    refine lv_lor C.1 C.2.1 k_L407 ?_
    refine lv_topl (fun y2 ye2 => ?_)
    rw [show y2 = y1 from ye2.trans ye1.symm]
    refine k_pub2 C I1 (a := 213) (idx := 38) (M := k_M213) (ct := k_c213_3) rfl k_pm213_3 rfl (k_in 8 27 rfl rfl) (by decide +kernel) (x := a2) (As := [.int (xs (i + 1)), .int (xs (i + 2)), .long y1]) (rest := []) [(a2 : Int), (t : Int), ((xs (i + 2))).toInt, (y1).toInt, (tm : Int), m0] (k_preC 0 rfl (by decide +kernel) ⟨k_aR I1.2.2.2.2.2.1, ⟨_, rfl, hx, (by show (0 : Int) ≤ (t : Int); omega), (by show (t : Int) ≤ 3; omega)⟩, k_aI _, k_aJ _, trivial⟩ ⟨k_fnC (b := 0) hTb.2.2.2.2.1 rfl rfl, k_fnC (b := 4) hmb rfl (by show (0 : Int) + (1 * (t : Int) + 0) = _; omega), trivial⟩) (Nat.le_of_ble_eq_true rfl) k_L408 hc0 hs0 hl.1 (fun rv2 rs2 w2 H2 lo2 hv2 hp2 I2 hj2 => ?_)
    obtain ⟨r2, rfl, rfl, -, -⟩ := hv2
    have hTc := k_TK hp2.1 (by decide +kernel) (by decide +kernel) hTb
    have hS2 := k_S7K hp2.1 (by decide +kernel) (by decide +kernel) hS1
    have hq1 := k_writeC hp1
    have hq2 := k_writeM hp2
    have hRn := k_writeZ I hS I1 hS1 I2 hS2 hp1.1 (by decide +kernel) (by decide +kernel) hp2.1 (by decide +kernel) (by decide +kernel) (j_exOf (by rfl) (by rfl) hj1) (j_exOf (by rfl) (by rfl) hj2) hx ht hT hTb hTc htr (by decide +kernel) (by decide +kernel) hs hm hub hq hq1 hq2
    refine lv_pop C.1 C.2.1 k_L411 rfl ?_
    refine lv_goto C.1 C.2.1 k_L412 (tgt := 1990) (by decide) ?_
    exact W.widen (Nat.le_add_right _ _) (Nat.le_add_right _ _) (kk _ _ _ ⟨I2, hRn⟩)
theorem k_case5 {p : Program} {l : Launch} {e : Env} {s : State} {m : MethodId} {below : List Frame} {meth : Method} {c : Code} {Q : State → Prop} {b L : Nat} {xs : Nat → Int32} {D : va_G} {dA : Nat → ClassId} {a1 a2 i cells slots : Nat} {ls : Array Slot} {w : cWld} {H : Heap} {locs : List Loc} (C : k_Cx p s m c b L xs D dA) (I : k_In s D dA a1 a2 w H locs ∧ k_R a1 a2 w) (hl : lv_has ls 4 (k_lv b a1 a2 i)) (hi : i + 7 ≤ L) (hcb : cells + 26 ≤ 600000) (hsb : slots + 1584 ≤ 7302250)
    (kk : ∀ (w : cWld) (H : Heap) (locs : List Loc), k_In s D dA a1 a2 w H locs ∧ k_R a1 a2 w → W p l e room_1 s m #[Value.ref b] below meth c H locs (cells + 26) (slots + 1584) Q (F0 m 1990 ls [])) : W p l e room_1 s m #[Value.ref b] below meth c H locs cells slots Q (F0 m 415 ls []) := by
  have hc0 : cells ≤ 600000 := by omega
  have hs0 : slots ≤ 7302250 := by omega
  have hc1 := hcb
  have hs1 := hsb
  obtain ⟨I, hR⟩ := I
  obtain ⟨so, si, tm, ts, rw, nm, r, hT, hS, htr⟩ := id hR
  refine lv_aload_n C.1 C.2.1 k_L415 rfl (lv_at hl 1 rfl) ?_
  refine k_arg C I hl (k := 1) (by omega) k_L416 k_L417 k_L418 (by decide) k_L419 k_L420 ?_
  refine k_arg C I hl (k := 2) (by omega) k_L421 k_L422 k_L423 (by decide) k_L424 k_L425 ?_
  refine k_pub2 C I (a := 127) (idx := 39) (M := k_M127) (ct := k_c127_0) rfl k_pm127_0 rfl (k_in 3 199 rfl rfl) (by decide +kernel) (x := a1) (As := [.int (xs (i + 1)), .int (xs (i + 2))]) (rest := []) [(a1 : Int), ((xs (i + 1))).toInt, ((xs (i + 2))).toInt] (k_preC 0 rfl (by decide +kernel) ⟨k_aR I.2.2.2.2.1, k_aI _, k_aI _, trivial⟩ trivial) (Nat.le_of_ble_eq_true rfl) k_L426 hc0 hs0 hl.1 (fun rv1 rs1 w1 H1 lo1 hv1 hp1 I1 hj1 => ?_)
  obtain ⟨r1, rfl, rfl⟩ := hv1
  have hR1 := k_RK hp1.1 (by decide +kernel) (by decide +kernel) hR
  have hTb := k_TK hp1.1 (by decide +kernel) (by decide +kernel) hT
  have hS1 := k_S7K hp1.1 (by decide +kernel) (by decide +kernel) hS
  refine lv_aload_n C.1 C.2.1 k_L429 rfl (lv_at hl 2 rfl) ?_
  refine k_arg C I1 hl (k := 1) (by omega) k_L430 k_L431 k_L432 (by decide) k_L433 k_L434 ?_
  refine k_arg C I1 hl (k := 2) (by omega) k_L435 k_L436 k_L437 (by decide) k_L438 k_L439 ?_
  refine k_pub2 C I1 (a := 214) (idx := 43) (M := k_M214) (ct := k_c214_0) rfl k_pm214_0 rfl (k_in 8 42 rfl rfl) (by decide +kernel) (x := a2) (As := [.int (xs (i + 1)), .int (xs (i + 2))]) (rest := [.long r1]) [(a2 : Int), ((xs (i + 1))).toInt, ((xs (i + 2))).toInt] (k_preC 0 rfl (by decide +kernel) ⟨k_aR I1.2.2.2.2.2.1, k_aI _, k_aI _, trivial⟩ trivial) (Nat.le_of_ble_eq_true rfl) k_L440 hc0 hs0 hl.1 (fun rv2 rs2 w2 H2 lo2 hv2 hp2 I2 hj2 => ?_)
  obtain ⟨r2, rfl, rfl⟩ := hv2
  have hR2 := k_RK hp2.1 (by decide +kernel) (by decide +kernel) hR1
  have hS2 := k_S7K hp2.1 (by decide +kernel) (by decide +kernel) hS1
  have hr : r1 = r2 := k_readZ I hS I1 hS1 I2 hS2 hp1.1 (by decide +kernel) (by decide +kernel) (by decide +kernel) (j_exOf (by rfl) (by rfl) hj1) (j_exOf (by rfl) (by rfl) hj2) hT hTb htr
  have hRn := hR2
  refine W.lcmp C.1 C.2.1 k_L443 ?_
  refine lv_if_eq C.1 C.2.1 k_L444 (tgt := 1990) (by decide) (fun _ => ?_) (fun h => absurd (k_lcz hr) h)
  exact W.widen (Nat.le_add_right _ _) (Nat.le_add_right _ _) (kk _ _ _ ⟨I2, hRn⟩)
theorem k_case6 {p : Program} {l : Launch} {e : Env} {s : State} {m : MethodId} {below : List Frame} {meth : Method} {c : Code} {Q : State → Prop} {b L : Nat} {xs : Nat → Int32} {D : va_G} {dA : Nat → ClassId} {a1 a2 i cells slots : Nat} {ls : Array Slot} {w : cWld} {H : Heap} {locs : List Loc} (C : k_Cx p s m c b L xs D dA) (I : k_In s D dA a1 a2 w H locs ∧ k_R a1 a2 w) (hl : lv_has ls 4 (k_lv b a1 a2 i)) (hi : i + 7 ≤ L) (hcb : cells + 26 ≤ 600000) (hsb : slots + 1584 ≤ 7302250)
    (kk : ∀ (w : cWld) (H : Heap) (locs : List Loc), k_In s D dA a1 a2 w H locs ∧ k_R a1 a2 w → W p l e room_1 s m #[Value.ref b] below meth c H locs (cells + 26) (slots + 1584) Q (F0 m 1990 ls [])) : W p l e room_1 s m #[Value.ref b] below meth c H locs cells slots Q (F0 m 449 ls []) := by
  have hc0 : cells ≤ 600000 := by omega
  have hs0 : slots ≤ 7302250 := by omega
  have hc1 := hcb
  have hs1 := hsb
  obtain ⟨I, hR⟩ := I
  obtain ⟨so, si, tm, ts, rw, nm, r, hT, hS, htr⟩ := id hR
  rcases (show (xs (i + 1)).toInt < 0 ∨ 4 ≤ (xs (i + 1)).toInt ∨ (0 ≤ (xs (i + 1)).toInt ∧ (xs (i + 1)).toInt ≤ 3) by omega) with hx | hx | hx
  · refine lv_aload_n C.1 C.2.1 k_L449 rfl (lv_at hl 1 rfl) ?_
    refine k_arg C I hl (k := 1) (by omega) k_L450 k_L451 k_L452 (by decide) k_L453 k_L454 ?_
    refine k_arg C I hl (k := 2) (by omega) k_L455 k_L456 k_L457 (by decide) k_L458 k_L459 ?_
    refine k_arg C I hl (k := 3) (by omega) k_L460 k_L461 k_L462 (by decide) k_L463 k_L464 ?_
    refine k_arg C I hl (k := 4) (by omega) k_L465 k_L466 k_L467 (by decide) k_L468 k_L469 ?_
    refine k_arg C I hl (k := 5) (by omega) k_L470 k_L471 k_L472 (by decide) k_L473 k_L474 ?_
    refine k_pub2 C I (a := 128) (idx := 44) (M := k_M128) (ct := k_c128_1) rfl k_pm128_1 rfl (k_in 3 204 rfl rfl) (by decide +kernel) (x := a1) (As := [.int (xs (i + 1)), .int (xs (i + 2)), .int (xs (i + 3)), .int (xs (i + 4)), .int (xs (i + 5))]) (rest := []) [(a1 : Int), ((xs (i + 1))).toInt, ((xs (i + 2))).toInt, ((xs (i + 3))).toInt, ((xs (i + 4))).toInt, ((xs (i + 5))).toInt] (k_preC 0 rfl (by decide +kernel) ⟨k_aR I.2.2.2.2.1, ⟨_, rfl, rfl, (by have h8 := ((xs (i + 1))).le_toInt; show (-2147483648 : Int) ≤ ((xs (i + 1))).toInt; omega), (by have h8 := ((xs (i + 1))).toInt_lt; show ((xs (i + 1))).toInt ≤ (-1 : Int); omega)⟩, k_aI _, k_aI _, k_aI _, k_aI _, trivial⟩ trivial) (Nat.le_of_ble_eq_true rfl) k_L475 hc0 hs0 hl.1 (fun rv1 rs1 w1 H1 lo1 hv1 hp1 I1 hj1 => ?_)
    obtain ⟨r1, rfl, rfl, -, -⟩ := hv1
    have hR1 := k_RK hp1.1 (by decide +kernel) (by decide +kernel) hR
    refine lv_pop C.1 C.2.1 k_L478 rfl ?_
    refine lv_aload_n C.1 C.2.1 k_L479 rfl (lv_at hl 2 rfl) ?_
    refine k_arg C I1 hl (k := 1) (by omega) k_L480 k_L481 k_L482 (by decide) k_L483 k_L484 ?_
    refine k_arg C I1 hl (k := 2) (by omega) k_L485 k_L486 k_L487 (by decide) k_L488 k_L489 ?_
    refine k_arg C I1 hl (k := 3) (by omega) k_L490 k_L491 k_L492 (by decide) k_L493 k_L494 ?_
    refine k_arg C I1 hl (k := 4) (by omega) k_L495 k_L496 k_L497 (by decide) k_L498 k_L499 ?_
    refine k_arg C I1 hl (k := 5) (by omega) k_L500 k_L501 k_L502 (by decide) k_L503 k_L504 ?_
    refine k_pub2 C I1 (a := 215) (idx := 48) (M := k_M215) (ct := k_c215_1) rfl k_pm215_1 rfl (k_in 8 47 rfl rfl) (by decide +kernel) (x := a2) (As := [.int (xs (i + 1)), .int (xs (i + 2)), .int (xs (i + 3)), .int (xs (i + 4)), .int (xs (i + 5))]) (rest := []) [(a2 : Int), ((xs (i + 1))).toInt, ((xs (i + 2))).toInt, ((xs (i + 3))).toInt, ((xs (i + 4))).toInt, ((xs (i + 5))).toInt] (k_preC 0 rfl (by decide +kernel) ⟨k_aR I1.2.2.2.2.2.1, ⟨_, rfl, rfl, (by have h8 := ((xs (i + 1))).le_toInt; show (-2147483648 : Int) ≤ ((xs (i + 1))).toInt; omega), (by have h8 := ((xs (i + 1))).toInt_lt; show ((xs (i + 1))).toInt ≤ (-1 : Int); omega)⟩, k_aI _, k_aI _, k_aI _, k_aI _, trivial⟩ trivial) (Nat.le_of_ble_eq_true rfl) k_L505 hc0 hs0 hl.1 (fun rv2 rs2 w2 H2 lo2 hv2 hp2 I2 hj2 => ?_)
    obtain ⟨r2, rfl, rfl, -, -⟩ := hv2
    have hRn := k_RK hp2.1 (by decide +kernel) (by decide +kernel) hR1
    refine lv_pop C.1 C.2.1 k_L508 rfl ?_
    refine lv_goto C.1 C.2.1 k_L509 (tgt := 1990) (by decide) ?_
    exact W.widen (Nat.le_add_right _ _) (Nat.le_add_right _ _) (kk _ _ _ ⟨I2, hRn⟩)
  · refine lv_aload_n C.1 C.2.1 k_L449 rfl (lv_at hl 1 rfl) ?_
    refine k_arg C I hl (k := 1) (by omega) k_L450 k_L451 k_L452 (by decide) k_L453 k_L454 ?_
    refine k_arg C I hl (k := 2) (by omega) k_L455 k_L456 k_L457 (by decide) k_L458 k_L459 ?_
    refine k_arg C I hl (k := 3) (by omega) k_L460 k_L461 k_L462 (by decide) k_L463 k_L464 ?_
    refine k_arg C I hl (k := 4) (by omega) k_L465 k_L466 k_L467 (by decide) k_L468 k_L469 ?_
    refine k_arg C I hl (k := 5) (by omega) k_L470 k_L471 k_L472 (by decide) k_L473 k_L474 ?_
    refine k_pub2 C I (a := 128) (idx := 44) (M := k_M128) (ct := k_c128_2) rfl k_pm128_2 rfl (k_in 3 204 rfl rfl) (by decide +kernel) (x := a1) (As := [.int (xs (i + 1)), .int (xs (i + 2)), .int (xs (i + 3)), .int (xs (i + 4)), .int (xs (i + 5))]) (rest := []) [(a1 : Int), ((xs (i + 1))).toInt, ((xs (i + 2))).toInt, ((xs (i + 3))).toInt, ((xs (i + 4))).toInt, ((xs (i + 5))).toInt] (k_preC 0 rfl (by decide +kernel) ⟨k_aR I.2.2.2.2.1, ⟨_, rfl, rfl, (by have h8 := ((xs (i + 1))).le_toInt; show (4 : Int) ≤ ((xs (i + 1))).toInt; omega), (by have h8 := ((xs (i + 1))).toInt_lt; show ((xs (i + 1))).toInt ≤ (2147483647 : Int); omega)⟩, k_aI _, k_aI _, k_aI _, k_aI _, trivial⟩ trivial) (Nat.le_of_ble_eq_true rfl) k_L475 hc0 hs0 hl.1 (fun rv1 rs1 w1 H1 lo1 hv1 hp1 I1 hj1 => ?_)
    obtain ⟨r1, rfl, rfl, -, -⟩ := hv1
    have hR1 := k_RK hp1.1 (by decide +kernel) (by decide +kernel) hR
    refine lv_pop C.1 C.2.1 k_L478 rfl ?_
    refine lv_aload_n C.1 C.2.1 k_L479 rfl (lv_at hl 2 rfl) ?_
    refine k_arg C I1 hl (k := 1) (by omega) k_L480 k_L481 k_L482 (by decide) k_L483 k_L484 ?_
    refine k_arg C I1 hl (k := 2) (by omega) k_L485 k_L486 k_L487 (by decide) k_L488 k_L489 ?_
    refine k_arg C I1 hl (k := 3) (by omega) k_L490 k_L491 k_L492 (by decide) k_L493 k_L494 ?_
    refine k_arg C I1 hl (k := 4) (by omega) k_L495 k_L496 k_L497 (by decide) k_L498 k_L499 ?_
    refine k_arg C I1 hl (k := 5) (by omega) k_L500 k_L501 k_L502 (by decide) k_L503 k_L504 ?_
    refine k_pub2 C I1 (a := 215) (idx := 48) (M := k_M215) (ct := k_c215_2) rfl k_pm215_2 rfl (k_in 8 47 rfl rfl) (by decide +kernel) (x := a2) (As := [.int (xs (i + 1)), .int (xs (i + 2)), .int (xs (i + 3)), .int (xs (i + 4)), .int (xs (i + 5))]) (rest := []) [(a2 : Int), ((xs (i + 1))).toInt, ((xs (i + 2))).toInt, ((xs (i + 3))).toInt, ((xs (i + 4))).toInt, ((xs (i + 5))).toInt] (k_preC 0 rfl (by decide +kernel) ⟨k_aR I1.2.2.2.2.2.1, ⟨_, rfl, rfl, (by have h8 := ((xs (i + 1))).le_toInt; show (4 : Int) ≤ ((xs (i + 1))).toInt; omega), (by have h8 := ((xs (i + 1))).toInt_lt; show ((xs (i + 1))).toInt ≤ (2147483647 : Int); omega)⟩, k_aI _, k_aI _, k_aI _, k_aI _, trivial⟩ trivial) (Nat.le_of_ble_eq_true rfl) k_L505 hc0 hs0 hl.1 (fun rv2 rs2 w2 H2 lo2 hv2 hp2 I2 hj2 => ?_)
    obtain ⟨r2, rfl, rfl, -, -⟩ := hv2
    have hRn := k_RK hp2.1 (by decide +kernel) (by decide +kernel) hR1
    refine lv_pop C.1 C.2.1 k_L508 rfl ?_
    refine lv_goto C.1 C.2.1 k_L509 (tgt := 1990) (by decide) ?_
    exact W.widen (Nat.le_add_right _ _) (Nat.le_add_right _ _) (kk _ _ _ ⟨I2, hRn⟩)
  · rcases (show (xs (i + 3)).toInt < 0 ∨ 4 ≤ (xs (i + 3)).toInt ∨ (0 ≤ (xs (i + 3)).toInt ∧ (xs (i + 3)).toInt ≤ 3) by omega) with hx2 | hx2 | hx2
    · refine lv_aload_n C.1 C.2.1 k_L449 rfl (lv_at hl 1 rfl) ?_
      refine k_arg C I hl (k := 1) (by omega) k_L450 k_L451 k_L452 (by decide) k_L453 k_L454 ?_
      refine k_arg C I hl (k := 2) (by omega) k_L455 k_L456 k_L457 (by decide) k_L458 k_L459 ?_
      refine k_arg C I hl (k := 3) (by omega) k_L460 k_L461 k_L462 (by decide) k_L463 k_L464 ?_
      refine k_arg C I hl (k := 4) (by omega) k_L465 k_L466 k_L467 (by decide) k_L468 k_L469 ?_
      refine k_arg C I hl (k := 5) (by omega) k_L470 k_L471 k_L472 (by decide) k_L473 k_L474 ?_
      refine k_pub2 C I (a := 128) (idx := 44) (M := k_M128) (ct := k_c128_3) rfl k_pm128_3 rfl (k_in 3 204 rfl rfl) (by decide +kernel) (x := a1) (As := [.int (xs (i + 1)), .int (xs (i + 2)), .int (xs (i + 3)), .int (xs (i + 4)), .int (xs (i + 5))]) (rest := []) [(a1 : Int), ((xs (i + 1))).toInt, ((xs (i + 2))).toInt, ((xs (i + 3))).toInt, ((xs (i + 4))).toInt, ((xs (i + 5))).toInt] (k_preC 0 rfl (by decide +kernel) ⟨k_aR I.2.2.2.2.1, ⟨_, rfl, rfl, (by have h8 := ((xs (i + 1))).le_toInt; show (0 : Int) ≤ ((xs (i + 1))).toInt; omega), (by have h8 := ((xs (i + 1))).toInt_lt; show ((xs (i + 1))).toInt ≤ (3 : Int); omega)⟩, k_aI _, ⟨_, rfl, rfl, (by have h8 := ((xs (i + 3))).le_toInt; show (-2147483648 : Int) ≤ ((xs (i + 3))).toInt; omega), (by have h8 := ((xs (i + 3))).toInt_lt; show ((xs (i + 3))).toInt ≤ (-1 : Int); omega)⟩, k_aI _, k_aI _, trivial⟩ trivial) (Nat.le_of_ble_eq_true rfl) k_L475 hc0 hs0 hl.1 (fun rv1 rs1 w1 H1 lo1 hv1 hp1 I1 hj1 => ?_)
      obtain ⟨r1, rfl, rfl, -, -⟩ := hv1
      have hR1 := k_RK hp1.1 (by decide +kernel) (by decide +kernel) hR
      refine lv_pop C.1 C.2.1 k_L478 rfl ?_
      refine lv_aload_n C.1 C.2.1 k_L479 rfl (lv_at hl 2 rfl) ?_
      refine k_arg C I1 hl (k := 1) (by omega) k_L480 k_L481 k_L482 (by decide) k_L483 k_L484 ?_
      refine k_arg C I1 hl (k := 2) (by omega) k_L485 k_L486 k_L487 (by decide) k_L488 k_L489 ?_
      refine k_arg C I1 hl (k := 3) (by omega) k_L490 k_L491 k_L492 (by decide) k_L493 k_L494 ?_
      refine k_arg C I1 hl (k := 4) (by omega) k_L495 k_L496 k_L497 (by decide) k_L498 k_L499 ?_
      refine k_arg C I1 hl (k := 5) (by omega) k_L500 k_L501 k_L502 (by decide) k_L503 k_L504 ?_
      refine k_pub2 C I1 (a := 215) (idx := 48) (M := k_M215) (ct := k_c215_3) rfl k_pm215_3 rfl (k_in 8 47 rfl rfl) (by decide +kernel) (x := a2) (As := [.int (xs (i + 1)), .int (xs (i + 2)), .int (xs (i + 3)), .int (xs (i + 4)), .int (xs (i + 5))]) (rest := []) [(a2 : Int), ((xs (i + 1))).toInt, ((xs (i + 2))).toInt, ((xs (i + 3))).toInt, ((xs (i + 4))).toInt, ((xs (i + 5))).toInt] (k_preC 0 rfl (by decide +kernel) ⟨k_aR I1.2.2.2.2.2.1, ⟨_, rfl, rfl, (by have h8 := ((xs (i + 1))).le_toInt; show (0 : Int) ≤ ((xs (i + 1))).toInt; omega), (by have h8 := ((xs (i + 1))).toInt_lt; show ((xs (i + 1))).toInt ≤ (3 : Int); omega)⟩, k_aI _, ⟨_, rfl, rfl, (by have h8 := ((xs (i + 3))).le_toInt; show (-2147483648 : Int) ≤ ((xs (i + 3))).toInt; omega), (by have h8 := ((xs (i + 3))).toInt_lt; show ((xs (i + 3))).toInt ≤ (-1 : Int); omega)⟩, k_aI _, k_aI _, trivial⟩ trivial) (Nat.le_of_ble_eq_true rfl) k_L505 hc0 hs0 hl.1 (fun rv2 rs2 w2 H2 lo2 hv2 hp2 I2 hj2 => ?_)
      obtain ⟨r2, rfl, rfl, -, -⟩ := hv2
      have hRn := k_RK hp2.1 (by decide +kernel) (by decide +kernel) hR1
      refine lv_pop C.1 C.2.1 k_L508 rfl ?_
      refine lv_goto C.1 C.2.1 k_L509 (tgt := 1990) (by decide) ?_
      exact W.widen (Nat.le_add_right _ _) (Nat.le_add_right _ _) (kk _ _ _ ⟨I2, hRn⟩)
    · refine lv_aload_n C.1 C.2.1 k_L449 rfl (lv_at hl 1 rfl) ?_
      refine k_arg C I hl (k := 1) (by omega) k_L450 k_L451 k_L452 (by decide) k_L453 k_L454 ?_
      refine k_arg C I hl (k := 2) (by omega) k_L455 k_L456 k_L457 (by decide) k_L458 k_L459 ?_
      refine k_arg C I hl (k := 3) (by omega) k_L460 k_L461 k_L462 (by decide) k_L463 k_L464 ?_
      refine k_arg C I hl (k := 4) (by omega) k_L465 k_L466 k_L467 (by decide) k_L468 k_L469 ?_
      refine k_arg C I hl (k := 5) (by omega) k_L470 k_L471 k_L472 (by decide) k_L473 k_L474 ?_
      refine k_pub2 C I (a := 128) (idx := 44) (M := k_M128) (ct := k_c128_4) rfl k_pm128_4 rfl (k_in 3 204 rfl rfl) (by decide +kernel) (x := a1) (As := [.int (xs (i + 1)), .int (xs (i + 2)), .int (xs (i + 3)), .int (xs (i + 4)), .int (xs (i + 5))]) (rest := []) [(a1 : Int), ((xs (i + 1))).toInt, ((xs (i + 2))).toInt, ((xs (i + 3))).toInt, ((xs (i + 4))).toInt, ((xs (i + 5))).toInt] (k_preC 0 rfl (by decide +kernel) ⟨k_aR I.2.2.2.2.1, ⟨_, rfl, rfl, (by have h8 := ((xs (i + 1))).le_toInt; show (0 : Int) ≤ ((xs (i + 1))).toInt; omega), (by have h8 := ((xs (i + 1))).toInt_lt; show ((xs (i + 1))).toInt ≤ (3 : Int); omega)⟩, k_aI _, ⟨_, rfl, rfl, (by have h8 := ((xs (i + 3))).le_toInt; show (4 : Int) ≤ ((xs (i + 3))).toInt; omega), (by have h8 := ((xs (i + 3))).toInt_lt; show ((xs (i + 3))).toInt ≤ (2147483647 : Int); omega)⟩, k_aI _, k_aI _, trivial⟩ trivial) (Nat.le_of_ble_eq_true rfl) k_L475 hc0 hs0 hl.1 (fun rv1 rs1 w1 H1 lo1 hv1 hp1 I1 hj1 => ?_)
      obtain ⟨r1, rfl, rfl, -, -⟩ := hv1
      have hR1 := k_RK hp1.1 (by decide +kernel) (by decide +kernel) hR
      refine lv_pop C.1 C.2.1 k_L478 rfl ?_
      refine lv_aload_n C.1 C.2.1 k_L479 rfl (lv_at hl 2 rfl) ?_
      refine k_arg C I1 hl (k := 1) (by omega) k_L480 k_L481 k_L482 (by decide) k_L483 k_L484 ?_
      refine k_arg C I1 hl (k := 2) (by omega) k_L485 k_L486 k_L487 (by decide) k_L488 k_L489 ?_
      refine k_arg C I1 hl (k := 3) (by omega) k_L490 k_L491 k_L492 (by decide) k_L493 k_L494 ?_
      refine k_arg C I1 hl (k := 4) (by omega) k_L495 k_L496 k_L497 (by decide) k_L498 k_L499 ?_
      refine k_arg C I1 hl (k := 5) (by omega) k_L500 k_L501 k_L502 (by decide) k_L503 k_L504 ?_
      refine k_pub2 C I1 (a := 215) (idx := 48) (M := k_M215) (ct := k_c215_4) rfl k_pm215_4 rfl (k_in 8 47 rfl rfl) (by decide +kernel) (x := a2) (As := [.int (xs (i + 1)), .int (xs (i + 2)), .int (xs (i + 3)), .int (xs (i + 4)), .int (xs (i + 5))]) (rest := []) [(a2 : Int), ((xs (i + 1))).toInt, ((xs (i + 2))).toInt, ((xs (i + 3))).toInt, ((xs (i + 4))).toInt, ((xs (i + 5))).toInt] (k_preC 0 rfl (by decide +kernel) ⟨k_aR I1.2.2.2.2.2.1, ⟨_, rfl, rfl, (by have h8 := ((xs (i + 1))).le_toInt; show (0 : Int) ≤ ((xs (i + 1))).toInt; omega), (by have h8 := ((xs (i + 1))).toInt_lt; show ((xs (i + 1))).toInt ≤ (3 : Int); omega)⟩, k_aI _, ⟨_, rfl, rfl, (by have h8 := ((xs (i + 3))).le_toInt; show (4 : Int) ≤ ((xs (i + 3))).toInt; omega), (by have h8 := ((xs (i + 3))).toInt_lt; show ((xs (i + 3))).toInt ≤ (2147483647 : Int); omega)⟩, k_aI _, k_aI _, trivial⟩ trivial) (Nat.le_of_ble_eq_true rfl) k_L505 hc0 hs0 hl.1 (fun rv2 rs2 w2 H2 lo2 hv2 hp2 I2 hj2 => ?_)
      obtain ⟨r2, rfl, rfl, -, -⟩ := hv2
      have hRn := k_RK hp2.1 (by decide +kernel) (by decide +kernel) hR1
      refine lv_pop C.1 C.2.1 k_L508 rfl ?_
      refine lv_goto C.1 C.2.1 k_L509 (tgt := 1990) (by decide) ?_
      exact W.widen (Nat.le_add_right _ _) (Nat.le_add_right _ _) (kk _ _ _ ⟨I2, hRn⟩)
    · obtain ⟨t, ht, hx⟩ : ∃ t : Nat, t < 4 ∧ (xs (i + 1)).toInt = (t : Int) := ⟨(xs (i + 1)).toInt.toNat, by omega, by omega⟩
      obtain ⟨s0, z0, m0, u0, hs, hz, hm, hu, hq, -⟩ := htr t ht
      obtain ⟨t2, ht2, hx2⟩ : ∃ t : Nat, t < 4 ∧ (xs (i + 3)).toInt = (t : Int) := ⟨(xs (i + 3)).toInt.toNat, by omega, by omega⟩
      obtain ⟨s2, z2, m2, u2, hs2, hz2, hm2, hu2, hq9, -⟩ := htr t2 ht2
      rcases (show s0 < s2 ∨ s0 = s2 ∨ s2 < s0 by omega) with hsx | hsx | hsx
      · rcases (show u0 < u2 ∨ u0 = u2 ∨ u2 < u0 by omega) with hux | hux | hux
        · refine lv_aload_n C.1 C.2.1 k_L449 rfl (lv_at hl 1 rfl) ?_
          refine k_arg C I hl (k := 1) (by omega) k_L450 k_L451 k_L452 (by decide) k_L453 k_L454 ?_
          refine k_arg C I hl (k := 2) (by omega) k_L455 k_L456 k_L457 (by decide) k_L458 k_L459 ?_
          refine k_arg C I hl (k := 3) (by omega) k_L460 k_L461 k_L462 (by decide) k_L463 k_L464 ?_
          refine k_arg C I hl (k := 4) (by omega) k_L465 k_L466 k_L467 (by decide) k_L468 k_L469 ?_
          refine k_arg C I hl (k := 5) (by omega) k_L470 k_L471 k_L472 (by decide) k_L473 k_L474 ?_
          refine k_pub2 C I (a := 128) (idx := 44) (M := k_M128) (ct := k_c128_6) rfl k_pm128_6 rfl (k_in 3 204 rfl rfl) (by decide +kernel) (x := a1) (As := [.int (xs (i + 1)), .int (xs (i + 2)), .int (xs (i + 3)), .int (xs (i + 4)), .int (xs (i + 5))]) (rest := []) [(a1 : Int), (t : Int), ((xs (i + 2))).toInt, (t2 : Int), ((xs (i + 4))).toInt, ((xs (i + 5))).toInt, (so : Int), (si : Int), s0, z0, s2, z2] (k_preD (by decide +kernel) ⟨(by show (0 : Int) ≤ (-1) + ((-1) * s0 + ((1) * s2 + (0))); omega), (by show (0 : Int) ≤ (3) + (0); omega), trivial⟩ ⟨k_aR I.2.2.2.2.1, ⟨_, rfl, hx, (by show (0 : Int) ≤ (t : Int); omega), (by show (t : Int) ≤ 3; omega)⟩, k_aI _, ⟨_, rfl, hx2, (by show (0 : Int) ≤ (t2 : Int); omega), (by show (t2 : Int) ≤ 3; omega)⟩, k_aI _, k_aI _, trivial⟩ ⟨k_fnC (b := 0) hT.1 rfl rfl, k_fnC (b := 0) hT.2.2.1 rfl rfl, k_fnC (b := 6) hs rfl (by show (0 : Int) + (1 * (t : Int) + 0) = _; omega), k_fnC (b := 7) hz rfl (by show (0 : Int) + (1 * (t : Int) + 0) = _; omega), k_fnC (b := 6) hs2 rfl (by show (0 : Int) + (1 * (t2 : Int) + 0) = _; omega), k_fnC (b := 7) hz2 rfl (by show (0 : Int) + (1 * (t2 : Int) + 0) = _; omega), trivial⟩) (Nat.le_of_ble_eq_true rfl) k_L475 hc0 hs0 hl.1 (fun rv1 rs1 w1 H1 lo1 hv1 hp1 I1 hj1 => ?_)
          obtain ⟨r1, rfl, rfl, -, -⟩ := hv1
          have hTb := k_TK hp1.1 (by decide +kernel) (by decide +kernel) hT
          have hS1 := k_S7K hp1.1 (by decide +kernel) (by decide +kernel) hS
          have hmb := k_fnK hp1.1 (by decide +kernel) (by decide) (k_none_ok (by decide +kernel) _ _) hm
          have hub := k_fnK hp1.1 (by decide +kernel) (by decide) (k_none_ok (by decide +kernel) _ _) hu
          have hm2b := k_fnK hp1.1 (by decide +kernel) (by decide) (k_none_ok (by decide +kernel) _ _) hm2
          have hu2b := k_fnK hp1.1 (by decide +kernel) (by decide) (k_none_ok (by decide +kernel) _ _) hu2
          refine lv_pop C.1 C.2.1 k_L478 rfl ?_
          refine lv_aload_n C.1 C.2.1 k_L479 rfl (lv_at hl 2 rfl) ?_
          refine k_arg C I1 hl (k := 1) (by omega) k_L480 k_L481 k_L482 (by decide) k_L483 k_L484 ?_
          refine k_arg C I1 hl (k := 2) (by omega) k_L485 k_L486 k_L487 (by decide) k_L488 k_L489 ?_
          refine k_arg C I1 hl (k := 3) (by omega) k_L490 k_L491 k_L492 (by decide) k_L493 k_L494 ?_
          refine k_arg C I1 hl (k := 4) (by omega) k_L495 k_L496 k_L497 (by decide) k_L498 k_L499 ?_
          refine k_arg C I1 hl (k := 5) (by omega) k_L500 k_L501 k_L502 (by decide) k_L503 k_L504 ?_
          refine k_pub2 C I1 (a := 215) (idx := 48) (M := k_M215) (ct := k_c215_6) rfl k_pm215_6 rfl (k_in 8 47 rfl rfl) (by decide +kernel) (x := a2) (As := [.int (xs (i + 1)), .int (xs (i + 2)), .int (xs (i + 3)), .int (xs (i + 4)), .int (xs (i + 5))]) (rest := []) [(a2 : Int), (t : Int), ((xs (i + 2))).toInt, (t2 : Int), ((xs (i + 4))).toInt, ((xs (i + 5))).toInt, (tm : Int), (ts : Int), m0, u0, m2, u2] (k_preD (by decide +kernel) ⟨(by show (0 : Int) ≤ (-1) + ((-1) * u0 + ((1) * u2 + (0))); omega), (by show (0 : Int) ≤ (3) + (0); omega), trivial⟩ ⟨k_aR I1.2.2.2.2.2.1, ⟨_, rfl, hx, (by show (0 : Int) ≤ (t : Int); omega), (by show (t : Int) ≤ 3; omega)⟩, k_aI _, ⟨_, rfl, hx2, (by show (0 : Int) ≤ (t2 : Int); omega), (by show (t2 : Int) ≤ 3; omega)⟩, k_aI _, k_aI _, trivial⟩ ⟨k_fnC (b := 0) hTb.2.2.2.2.1 rfl rfl, k_fnC (b := 0) hTb.2.2.2.2.2.2.1 rfl rfl, k_fnC (b := 6) hmb rfl (by show (0 : Int) + (1 * (t : Int) + 0) = _; omega), k_fnC (b := 7) hub rfl (by show (0 : Int) + (1 * (t : Int) + 0) = _; omega), k_fnC (b := 6) hm2b rfl (by show (0 : Int) + (1 * (t2 : Int) + 0) = _; omega), k_fnC (b := 7) hu2b rfl (by show (0 : Int) + (1 * (t2 : Int) + 0) = _; omega), trivial⟩) (Nat.le_of_ble_eq_true rfl) k_L505 hc0 hs0 hl.1 (fun rv2 rs2 w2 H2 lo2 hv2 hp2 I2 hj2 => ?_)
          obtain ⟨r2, rfl, rfl, -, -⟩ := hv2
          have hTc := k_TK hp2.1 (by decide +kernel) (by decide +kernel) hTb
          have hS2 := k_S7K hp2.1 (by decide +kernel) (by decide +kernel) hS1
          have hq1 := k_pourCMa hp1
          have hq2 := k_pourMMa hp2
          have hb1 := k_fnT (lo := 0) (hi := 60) I.2.2.1 hz (by rfl)
          have hb2 := k_fnT (lo := 0) (hi := 60) I.2.2.1 hz2 (by rfl)
          have hRn := k_pourZ I hS I1 hS1 I2 hS2 hp1.1 (by decide +kernel) (by decide +kernel) hp2.1 (by decide +kernel) (by decide +kernel) (j_exOf (by rfl) (by rfl) hj1) (j_exOf (by rfl) (by rfl) hj2) hx ht hx2 ht2 hTc htr (by decide +kernel) (by decide +kernel) hm hm2 (by unfold k_tq at hq hq9; omega)
          refine lv_pop C.1 C.2.1 k_L508 rfl ?_
          refine lv_goto C.1 C.2.1 k_L509 (tgt := 1990) (by decide) ?_
          exact W.widen (Nat.le_add_right _ _) (Nat.le_add_right _ _) (kk _ _ _ ⟨I2, hRn⟩)
        · refine lv_aload_n C.1 C.2.1 k_L449 rfl (lv_at hl 1 rfl) ?_
          refine k_arg C I hl (k := 1) (by omega) k_L450 k_L451 k_L452 (by decide) k_L453 k_L454 ?_
          refine k_arg C I hl (k := 2) (by omega) k_L455 k_L456 k_L457 (by decide) k_L458 k_L459 ?_
          refine k_arg C I hl (k := 3) (by omega) k_L460 k_L461 k_L462 (by decide) k_L463 k_L464 ?_
          refine k_arg C I hl (k := 4) (by omega) k_L465 k_L466 k_L467 (by decide) k_L468 k_L469 ?_
          refine k_arg C I hl (k := 5) (by omega) k_L470 k_L471 k_L472 (by decide) k_L473 k_L474 ?_
          refine k_pub2 C I (a := 128) (idx := 44) (M := k_M128) (ct := k_c128_6) rfl k_pm128_6 rfl (k_in 3 204 rfl rfl) (by decide +kernel) (x := a1) (As := [.int (xs (i + 1)), .int (xs (i + 2)), .int (xs (i + 3)), .int (xs (i + 4)), .int (xs (i + 5))]) (rest := []) [(a1 : Int), (t : Int), ((xs (i + 2))).toInt, (t2 : Int), ((xs (i + 4))).toInt, ((xs (i + 5))).toInt, (so : Int), (si : Int), s0, z0, s2, z2] (k_preD (by decide +kernel) ⟨(by show (0 : Int) ≤ (-1) + ((-1) * s0 + ((1) * s2 + (0))); omega), (by show (0 : Int) ≤ (3) + (0); omega), trivial⟩ ⟨k_aR I.2.2.2.2.1, ⟨_, rfl, hx, (by show (0 : Int) ≤ (t : Int); omega), (by show (t : Int) ≤ 3; omega)⟩, k_aI _, ⟨_, rfl, hx2, (by show (0 : Int) ≤ (t2 : Int); omega), (by show (t2 : Int) ≤ 3; omega)⟩, k_aI _, k_aI _, trivial⟩ ⟨k_fnC (b := 0) hT.1 rfl rfl, k_fnC (b := 0) hT.2.2.1 rfl rfl, k_fnC (b := 6) hs rfl (by show (0 : Int) + (1 * (t : Int) + 0) = _; omega), k_fnC (b := 7) hz rfl (by show (0 : Int) + (1 * (t : Int) + 0) = _; omega), k_fnC (b := 6) hs2 rfl (by show (0 : Int) + (1 * (t2 : Int) + 0) = _; omega), k_fnC (b := 7) hz2 rfl (by show (0 : Int) + (1 * (t2 : Int) + 0) = _; omega), trivial⟩) (Nat.le_of_ble_eq_true rfl) k_L475 hc0 hs0 hl.1 (fun rv1 rs1 w1 H1 lo1 hv1 hp1 I1 hj1 => ?_)
          obtain ⟨r1, rfl, rfl, -, -⟩ := hv1
          have hTb := k_TK hp1.1 (by decide +kernel) (by decide +kernel) hT
          have hS1 := k_S7K hp1.1 (by decide +kernel) (by decide +kernel) hS
          have hmb := k_fnK hp1.1 (by decide +kernel) (by decide) (k_none_ok (by decide +kernel) _ _) hm
          have hub := k_fnK hp1.1 (by decide +kernel) (by decide) (k_none_ok (by decide +kernel) _ _) hu
          have hm2b := k_fnK hp1.1 (by decide +kernel) (by decide) (k_none_ok (by decide +kernel) _ _) hm2
          have hu2b := k_fnK hp1.1 (by decide +kernel) (by decide) (k_none_ok (by decide +kernel) _ _) hu2
          refine lv_pop C.1 C.2.1 k_L478 rfl ?_
          refine lv_aload_n C.1 C.2.1 k_L479 rfl (lv_at hl 2 rfl) ?_
          refine k_arg C I1 hl (k := 1) (by omega) k_L480 k_L481 k_L482 (by decide) k_L483 k_L484 ?_
          refine k_arg C I1 hl (k := 2) (by omega) k_L485 k_L486 k_L487 (by decide) k_L488 k_L489 ?_
          refine k_arg C I1 hl (k := 3) (by omega) k_L490 k_L491 k_L492 (by decide) k_L493 k_L494 ?_
          refine k_arg C I1 hl (k := 4) (by omega) k_L495 k_L496 k_L497 (by decide) k_L498 k_L499 ?_
          refine k_arg C I1 hl (k := 5) (by omega) k_L500 k_L501 k_L502 (by decide) k_L503 k_L504 ?_
          refine k_pub2 C I1 (a := 215) (idx := 48) (M := k_M215) (ct := k_c215_5) rfl k_pm215_5 rfl (k_in 8 47 rfl rfl) (by decide +kernel) (x := a2) (As := [.int (xs (i + 1)), .int (xs (i + 2)), .int (xs (i + 3)), .int (xs (i + 4)), .int (xs (i + 5))]) (rest := []) [(a2 : Int), (t : Int), ((xs (i + 2))).toInt, (t2 : Int), ((xs (i + 4))).toInt, ((xs (i + 5))).toInt, (tm : Int), (ts : Int), m0, u0, m2, u2] (k_preD (by decide +kernel) ⟨(by show (0 : Int) ≤ (0) + ((1) * u0 + ((-1) * u2 + (0))); omega), (by show (0 : Int) ≤ (0) + ((-1) * u0 + ((1) * u2 + (0))); omega), (by show (0 : Int) ≤ (3) + (0); omega), trivial⟩ ⟨k_aR I1.2.2.2.2.2.1, ⟨_, rfl, hx, (by show (0 : Int) ≤ (t : Int); omega), (by show (t : Int) ≤ 3; omega)⟩, k_aI _, ⟨_, rfl, hx2, (by show (0 : Int) ≤ (t2 : Int); omega), (by show (t2 : Int) ≤ 3; omega)⟩, k_aI _, k_aI _, trivial⟩ ⟨k_fnC (b := 0) hTb.2.2.2.2.1 rfl rfl, k_fnC (b := 0) hTb.2.2.2.2.2.2.1 rfl rfl, k_fnC (b := 6) hmb rfl (by show (0 : Int) + (1 * (t : Int) + 0) = _; omega), k_fnC (b := 7) hub rfl (by show (0 : Int) + (1 * (t : Int) + 0) = _; omega), k_fnC (b := 6) hm2b rfl (by show (0 : Int) + (1 * (t2 : Int) + 0) = _; omega), k_fnC (b := 7) hu2b rfl (by show (0 : Int) + (1 * (t2 : Int) + 0) = _; omega), trivial⟩) (Nat.le_of_ble_eq_true rfl) k_L505 hc0 hs0 hl.1 (fun rv2 rs2 w2 H2 lo2 hv2 hp2 I2 hj2 => ?_)
          obtain ⟨r2, rfl, rfl, -, -⟩ := hv2
          have hTc := k_TK hp2.1 (by decide +kernel) (by decide +kernel) hTb
          have hS2 := k_S7K hp2.1 (by decide +kernel) (by decide +kernel) hS1
          have hq1 := k_pourCMa hp1
          have hq2 := k_pourM hp2
          have hb1 := k_fnT (lo := 0) (hi := 60) I.2.2.1 hz (by rfl)
          have hb2 := k_fnT (lo := 0) (hi := 60) I.2.2.1 hz2 (by rfl)
          have hRn := k_pourZ I hS I1 hS1 I2 hS2 hp1.1 (by decide +kernel) (by decide +kernel) hp2.1 (by decide +kernel) (by decide +kernel) (j_exOf (by rfl) (by rfl) hj1) (j_exOf (by rfl) (by rfl) hj2) hx ht hx2 ht2 hTc htr (by decide +kernel) (by decide +kernel) hm hm2 (by unfold k_tq at hq hq9; omega)
          refine lv_pop C.1 C.2.1 k_L508 rfl ?_
          refine lv_goto C.1 C.2.1 k_L509 (tgt := 1990) (by decide) ?_
          exact W.widen (Nat.le_add_right _ _) (Nat.le_add_right _ _) (kk _ _ _ ⟨I2, hRn⟩)
        · refine lv_aload_n C.1 C.2.1 k_L449 rfl (lv_at hl 1 rfl) ?_
          refine k_arg C I hl (k := 1) (by omega) k_L450 k_L451 k_L452 (by decide) k_L453 k_L454 ?_
          refine k_arg C I hl (k := 2) (by omega) k_L455 k_L456 k_L457 (by decide) k_L458 k_L459 ?_
          refine k_arg C I hl (k := 3) (by omega) k_L460 k_L461 k_L462 (by decide) k_L463 k_L464 ?_
          refine k_arg C I hl (k := 4) (by omega) k_L465 k_L466 k_L467 (by decide) k_L468 k_L469 ?_
          refine k_arg C I hl (k := 5) (by omega) k_L470 k_L471 k_L472 (by decide) k_L473 k_L474 ?_
          refine k_pub2 C I (a := 128) (idx := 44) (M := k_M128) (ct := k_c128_6) rfl k_pm128_6 rfl (k_in 3 204 rfl rfl) (by decide +kernel) (x := a1) (As := [.int (xs (i + 1)), .int (xs (i + 2)), .int (xs (i + 3)), .int (xs (i + 4)), .int (xs (i + 5))]) (rest := []) [(a1 : Int), (t : Int), ((xs (i + 2))).toInt, (t2 : Int), ((xs (i + 4))).toInt, ((xs (i + 5))).toInt, (so : Int), (si : Int), s0, z0, s2, z2] (k_preD (by decide +kernel) ⟨(by show (0 : Int) ≤ (-1) + ((-1) * s0 + ((1) * s2 + (0))); omega), (by show (0 : Int) ≤ (3) + (0); omega), trivial⟩ ⟨k_aR I.2.2.2.2.1, ⟨_, rfl, hx, (by show (0 : Int) ≤ (t : Int); omega), (by show (t : Int) ≤ 3; omega)⟩, k_aI _, ⟨_, rfl, hx2, (by show (0 : Int) ≤ (t2 : Int); omega), (by show (t2 : Int) ≤ 3; omega)⟩, k_aI _, k_aI _, trivial⟩ ⟨k_fnC (b := 0) hT.1 rfl rfl, k_fnC (b := 0) hT.2.2.1 rfl rfl, k_fnC (b := 6) hs rfl (by show (0 : Int) + (1 * (t : Int) + 0) = _; omega), k_fnC (b := 7) hz rfl (by show (0 : Int) + (1 * (t : Int) + 0) = _; omega), k_fnC (b := 6) hs2 rfl (by show (0 : Int) + (1 * (t2 : Int) + 0) = _; omega), k_fnC (b := 7) hz2 rfl (by show (0 : Int) + (1 * (t2 : Int) + 0) = _; omega), trivial⟩) (Nat.le_of_ble_eq_true rfl) k_L475 hc0 hs0 hl.1 (fun rv1 rs1 w1 H1 lo1 hv1 hp1 I1 hj1 => ?_)
          obtain ⟨r1, rfl, rfl, -, -⟩ := hv1
          have hTb := k_TK hp1.1 (by decide +kernel) (by decide +kernel) hT
          have hS1 := k_S7K hp1.1 (by decide +kernel) (by decide +kernel) hS
          have hmb := k_fnK hp1.1 (by decide +kernel) (by decide) (k_none_ok (by decide +kernel) _ _) hm
          have hub := k_fnK hp1.1 (by decide +kernel) (by decide) (k_none_ok (by decide +kernel) _ _) hu
          have hm2b := k_fnK hp1.1 (by decide +kernel) (by decide) (k_none_ok (by decide +kernel) _ _) hm2
          have hu2b := k_fnK hp1.1 (by decide +kernel) (by decide) (k_none_ok (by decide +kernel) _ _) hu2
          refine lv_pop C.1 C.2.1 k_L478 rfl ?_
          refine lv_aload_n C.1 C.2.1 k_L479 rfl (lv_at hl 2 rfl) ?_
          refine k_arg C I1 hl (k := 1) (by omega) k_L480 k_L481 k_L482 (by decide) k_L483 k_L484 ?_
          refine k_arg C I1 hl (k := 2) (by omega) k_L485 k_L486 k_L487 (by decide) k_L488 k_L489 ?_
          refine k_arg C I1 hl (k := 3) (by omega) k_L490 k_L491 k_L492 (by decide) k_L493 k_L494 ?_
          refine k_arg C I1 hl (k := 4) (by omega) k_L495 k_L496 k_L497 (by decide) k_L498 k_L499 ?_
          refine k_arg C I1 hl (k := 5) (by omega) k_L500 k_L501 k_L502 (by decide) k_L503 k_L504 ?_
          refine k_pub2 C I1 (a := 215) (idx := 48) (M := k_M215) (ct := k_c215_7) rfl k_pm215_7 rfl (k_in 8 47 rfl rfl) (by decide +kernel) (x := a2) (As := [.int (xs (i + 1)), .int (xs (i + 2)), .int (xs (i + 3)), .int (xs (i + 4)), .int (xs (i + 5))]) (rest := []) [(a2 : Int), (t : Int), ((xs (i + 2))).toInt, (t2 : Int), ((xs (i + 4))).toInt, ((xs (i + 5))).toInt, (tm : Int), (ts : Int), m0, u0, m2, u2] (k_preD (by decide +kernel) ⟨(by show (0 : Int) ≤ (-1) + ((1) * u0 + ((-1) * u2 + (0))); omega), (by show (0 : Int) ≤ (3) + (0); omega), trivial⟩ ⟨k_aR I1.2.2.2.2.2.1, ⟨_, rfl, hx, (by show (0 : Int) ≤ (t : Int); omega), (by show (t : Int) ≤ 3; omega)⟩, k_aI _, ⟨_, rfl, hx2, (by show (0 : Int) ≤ (t2 : Int); omega), (by show (t2 : Int) ≤ 3; omega)⟩, k_aI _, k_aI _, trivial⟩ ⟨k_fnC (b := 0) hTb.2.2.2.2.1 rfl rfl, k_fnC (b := 0) hTb.2.2.2.2.2.2.1 rfl rfl, k_fnC (b := 6) hmb rfl (by show (0 : Int) + (1 * (t : Int) + 0) = _; omega), k_fnC (b := 7) hub rfl (by show (0 : Int) + (1 * (t : Int) + 0) = _; omega), k_fnC (b := 6) hm2b rfl (by show (0 : Int) + (1 * (t2 : Int) + 0) = _; omega), k_fnC (b := 7) hu2b rfl (by show (0 : Int) + (1 * (t2 : Int) + 0) = _; omega), trivial⟩) (Nat.le_of_ble_eq_true rfl) k_L505 hc0 hs0 hl.1 (fun rv2 rs2 w2 H2 lo2 hv2 hp2 I2 hj2 => ?_)
          obtain ⟨r2, rfl, rfl, -, -⟩ := hv2
          have hTc := k_TK hp2.1 (by decide +kernel) (by decide +kernel) hTb
          have hS2 := k_S7K hp2.1 (by decide +kernel) (by decide +kernel) hS1
          have hq1 := k_pourCMa hp1
          have hq2 := k_pourMMc hp2
          have hb1 := k_fnT (lo := 0) (hi := 60) I.2.2.1 hz (by rfl)
          have hb2 := k_fnT (lo := 0) (hi := 60) I.2.2.1 hz2 (by rfl)
          have hRn := k_pourZ I hS I1 hS1 I2 hS2 hp1.1 (by decide +kernel) (by decide +kernel) hp2.1 (by decide +kernel) (by decide +kernel) (j_exOf (by rfl) (by rfl) hj1) (j_exOf (by rfl) (by rfl) hj2) hx ht hx2 ht2 hTc htr (by decide +kernel) (by decide +kernel) hm hm2 (by unfold k_tq at hq hq9; omega)
          refine lv_pop C.1 C.2.1 k_L508 rfl ?_
          refine lv_goto C.1 C.2.1 k_L509 (tgt := 1990) (by decide) ?_
          exact W.widen (Nat.le_add_right _ _) (Nat.le_add_right _ _) (kk _ _ _ ⟨I2, hRn⟩)
      · rcases (show u0 < u2 ∨ u0 = u2 ∨ u2 < u0 by omega) with hux | hux | hux
        · refine lv_aload_n C.1 C.2.1 k_L449 rfl (lv_at hl 1 rfl) ?_
          refine k_arg C I hl (k := 1) (by omega) k_L450 k_L451 k_L452 (by decide) k_L453 k_L454 ?_
          refine k_arg C I hl (k := 2) (by omega) k_L455 k_L456 k_L457 (by decide) k_L458 k_L459 ?_
          refine k_arg C I hl (k := 3) (by omega) k_L460 k_L461 k_L462 (by decide) k_L463 k_L464 ?_
          refine k_arg C I hl (k := 4) (by omega) k_L465 k_L466 k_L467 (by decide) k_L468 k_L469 ?_
          refine k_arg C I hl (k := 5) (by omega) k_L470 k_L471 k_L472 (by decide) k_L473 k_L474 ?_
          refine k_pub2 C I (a := 128) (idx := 44) (M := k_M128) (ct := k_c128_5) rfl k_pm128_5 rfl (k_in 3 204 rfl rfl) (by decide +kernel) (x := a1) (As := [.int (xs (i + 1)), .int (xs (i + 2)), .int (xs (i + 3)), .int (xs (i + 4)), .int (xs (i + 5))]) (rest := []) [(a1 : Int), (t : Int), ((xs (i + 2))).toInt, (t2 : Int), ((xs (i + 4))).toInt, ((xs (i + 5))).toInt, (so : Int), (si : Int), s0, z0, s2, z2] (k_preD (by decide +kernel) ⟨(by show (0 : Int) ≤ (0) + ((1) * s0 + ((-1) * s2 + (0))); omega), (by show (0 : Int) ≤ (0) + ((-1) * s0 + ((1) * s2 + (0))); omega), (by show (0 : Int) ≤ (3) + (0); omega), trivial⟩ ⟨k_aR I.2.2.2.2.1, ⟨_, rfl, hx, (by show (0 : Int) ≤ (t : Int); omega), (by show (t : Int) ≤ 3; omega)⟩, k_aI _, ⟨_, rfl, hx2, (by show (0 : Int) ≤ (t2 : Int); omega), (by show (t2 : Int) ≤ 3; omega)⟩, k_aI _, k_aI _, trivial⟩ ⟨k_fnC (b := 0) hT.1 rfl rfl, k_fnC (b := 0) hT.2.2.1 rfl rfl, k_fnC (b := 6) hs rfl (by show (0 : Int) + (1 * (t : Int) + 0) = _; omega), k_fnC (b := 7) hz rfl (by show (0 : Int) + (1 * (t : Int) + 0) = _; omega), k_fnC (b := 6) hs2 rfl (by show (0 : Int) + (1 * (t2 : Int) + 0) = _; omega), k_fnC (b := 7) hz2 rfl (by show (0 : Int) + (1 * (t2 : Int) + 0) = _; omega), trivial⟩) (Nat.le_of_ble_eq_true rfl) k_L475 hc0 hs0 hl.1 (fun rv1 rs1 w1 H1 lo1 hv1 hp1 I1 hj1 => ?_)
          obtain ⟨r1, rfl, rfl, -, -⟩ := hv1
          have hTb := k_TK hp1.1 (by decide +kernel) (by decide +kernel) hT
          have hS1 := k_S7K hp1.1 (by decide +kernel) (by decide +kernel) hS
          have hmb := k_fnK hp1.1 (by decide +kernel) (by decide) (k_none_ok (by decide +kernel) _ _) hm
          have hub := k_fnK hp1.1 (by decide +kernel) (by decide) (k_none_ok (by decide +kernel) _ _) hu
          have hm2b := k_fnK hp1.1 (by decide +kernel) (by decide) (k_none_ok (by decide +kernel) _ _) hm2
          have hu2b := k_fnK hp1.1 (by decide +kernel) (by decide) (k_none_ok (by decide +kernel) _ _) hu2
          refine lv_pop C.1 C.2.1 k_L478 rfl ?_
          refine lv_aload_n C.1 C.2.1 k_L479 rfl (lv_at hl 2 rfl) ?_
          refine k_arg C I1 hl (k := 1) (by omega) k_L480 k_L481 k_L482 (by decide) k_L483 k_L484 ?_
          refine k_arg C I1 hl (k := 2) (by omega) k_L485 k_L486 k_L487 (by decide) k_L488 k_L489 ?_
          refine k_arg C I1 hl (k := 3) (by omega) k_L490 k_L491 k_L492 (by decide) k_L493 k_L494 ?_
          refine k_arg C I1 hl (k := 4) (by omega) k_L495 k_L496 k_L497 (by decide) k_L498 k_L499 ?_
          refine k_arg C I1 hl (k := 5) (by omega) k_L500 k_L501 k_L502 (by decide) k_L503 k_L504 ?_
          refine k_pub2 C I1 (a := 215) (idx := 48) (M := k_M215) (ct := k_c215_6) rfl k_pm215_6 rfl (k_in 8 47 rfl rfl) (by decide +kernel) (x := a2) (As := [.int (xs (i + 1)), .int (xs (i + 2)), .int (xs (i + 3)), .int (xs (i + 4)), .int (xs (i + 5))]) (rest := []) [(a2 : Int), (t : Int), ((xs (i + 2))).toInt, (t2 : Int), ((xs (i + 4))).toInt, ((xs (i + 5))).toInt, (tm : Int), (ts : Int), m0, u0, m2, u2] (k_preD (by decide +kernel) ⟨(by show (0 : Int) ≤ (-1) + ((-1) * u0 + ((1) * u2 + (0))); omega), (by show (0 : Int) ≤ (3) + (0); omega), trivial⟩ ⟨k_aR I1.2.2.2.2.2.1, ⟨_, rfl, hx, (by show (0 : Int) ≤ (t : Int); omega), (by show (t : Int) ≤ 3; omega)⟩, k_aI _, ⟨_, rfl, hx2, (by show (0 : Int) ≤ (t2 : Int); omega), (by show (t2 : Int) ≤ 3; omega)⟩, k_aI _, k_aI _, trivial⟩ ⟨k_fnC (b := 0) hTb.2.2.2.2.1 rfl rfl, k_fnC (b := 0) hTb.2.2.2.2.2.2.1 rfl rfl, k_fnC (b := 6) hmb rfl (by show (0 : Int) + (1 * (t : Int) + 0) = _; omega), k_fnC (b := 7) hub rfl (by show (0 : Int) + (1 * (t : Int) + 0) = _; omega), k_fnC (b := 6) hm2b rfl (by show (0 : Int) + (1 * (t2 : Int) + 0) = _; omega), k_fnC (b := 7) hu2b rfl (by show (0 : Int) + (1 * (t2 : Int) + 0) = _; omega), trivial⟩) (Nat.le_of_ble_eq_true rfl) k_L505 hc0 hs0 hl.1 (fun rv2 rs2 w2 H2 lo2 hv2 hp2 I2 hj2 => ?_)
          obtain ⟨r2, rfl, rfl, -, -⟩ := hv2
          have hTc := k_TK hp2.1 (by decide +kernel) (by decide +kernel) hTb
          have hS2 := k_S7K hp2.1 (by decide +kernel) (by decide +kernel) hS1
          have hq1 := k_pourC hp1
          have hq2 := k_pourMMa hp2
          have hb1 := k_fnT (lo := 0) (hi := 60) I.2.2.1 hz (by rfl)
          have hb2 := k_fnT (lo := 0) (hi := 60) I.2.2.1 hz2 (by rfl)
          have hRn := k_pourZ I hS I1 hS1 I2 hS2 hp1.1 (by decide +kernel) (by decide +kernel) hp2.1 (by decide +kernel) (by decide +kernel) (j_exOf (by rfl) (by rfl) hj1) (j_exOf (by rfl) (by rfl) hj2) hx ht hx2 ht2 hTc htr (by decide +kernel) (by decide +kernel) hm hm2 (by unfold k_tq at hq hq9; omega)
          refine lv_pop C.1 C.2.1 k_L508 rfl ?_
          refine lv_goto C.1 C.2.1 k_L509 (tgt := 1990) (by decide) ?_
          exact W.widen (Nat.le_add_right _ _) (Nat.le_add_right _ _) (kk _ _ _ ⟨I2, hRn⟩)
        · refine lv_aload_n C.1 C.2.1 k_L449 rfl (lv_at hl 1 rfl) ?_
          refine k_arg C I hl (k := 1) (by omega) k_L450 k_L451 k_L452 (by decide) k_L453 k_L454 ?_
          refine k_arg C I hl (k := 2) (by omega) k_L455 k_L456 k_L457 (by decide) k_L458 k_L459 ?_
          refine k_arg C I hl (k := 3) (by omega) k_L460 k_L461 k_L462 (by decide) k_L463 k_L464 ?_
          refine k_arg C I hl (k := 4) (by omega) k_L465 k_L466 k_L467 (by decide) k_L468 k_L469 ?_
          refine k_arg C I hl (k := 5) (by omega) k_L470 k_L471 k_L472 (by decide) k_L473 k_L474 ?_
          refine k_pub2 C I (a := 128) (idx := 44) (M := k_M128) (ct := k_c128_5) rfl k_pm128_5 rfl (k_in 3 204 rfl rfl) (by decide +kernel) (x := a1) (As := [.int (xs (i + 1)), .int (xs (i + 2)), .int (xs (i + 3)), .int (xs (i + 4)), .int (xs (i + 5))]) (rest := []) [(a1 : Int), (t : Int), ((xs (i + 2))).toInt, (t2 : Int), ((xs (i + 4))).toInt, ((xs (i + 5))).toInt, (so : Int), (si : Int), s0, z0, s2, z2] (k_preD (by decide +kernel) ⟨(by show (0 : Int) ≤ (0) + ((1) * s0 + ((-1) * s2 + (0))); omega), (by show (0 : Int) ≤ (0) + ((-1) * s0 + ((1) * s2 + (0))); omega), (by show (0 : Int) ≤ (3) + (0); omega), trivial⟩ ⟨k_aR I.2.2.2.2.1, ⟨_, rfl, hx, (by show (0 : Int) ≤ (t : Int); omega), (by show (t : Int) ≤ 3; omega)⟩, k_aI _, ⟨_, rfl, hx2, (by show (0 : Int) ≤ (t2 : Int); omega), (by show (t2 : Int) ≤ 3; omega)⟩, k_aI _, k_aI _, trivial⟩ ⟨k_fnC (b := 0) hT.1 rfl rfl, k_fnC (b := 0) hT.2.2.1 rfl rfl, k_fnC (b := 6) hs rfl (by show (0 : Int) + (1 * (t : Int) + 0) = _; omega), k_fnC (b := 7) hz rfl (by show (0 : Int) + (1 * (t : Int) + 0) = _; omega), k_fnC (b := 6) hs2 rfl (by show (0 : Int) + (1 * (t2 : Int) + 0) = _; omega), k_fnC (b := 7) hz2 rfl (by show (0 : Int) + (1 * (t2 : Int) + 0) = _; omega), trivial⟩) (Nat.le_of_ble_eq_true rfl) k_L475 hc0 hs0 hl.1 (fun rv1 rs1 w1 H1 lo1 hv1 hp1 I1 hj1 => ?_)
          obtain ⟨r1, rfl, rfl, -, -⟩ := hv1
          have hTb := k_TK hp1.1 (by decide +kernel) (by decide +kernel) hT
          have hS1 := k_S7K hp1.1 (by decide +kernel) (by decide +kernel) hS
          have hmb := k_fnK hp1.1 (by decide +kernel) (by decide) (k_none_ok (by decide +kernel) _ _) hm
          have hub := k_fnK hp1.1 (by decide +kernel) (by decide) (k_none_ok (by decide +kernel) _ _) hu
          have hm2b := k_fnK hp1.1 (by decide +kernel) (by decide) (k_none_ok (by decide +kernel) _ _) hm2
          have hu2b := k_fnK hp1.1 (by decide +kernel) (by decide) (k_none_ok (by decide +kernel) _ _) hu2
          refine lv_pop C.1 C.2.1 k_L478 rfl ?_
          refine lv_aload_n C.1 C.2.1 k_L479 rfl (lv_at hl 2 rfl) ?_
          refine k_arg C I1 hl (k := 1) (by omega) k_L480 k_L481 k_L482 (by decide) k_L483 k_L484 ?_
          refine k_arg C I1 hl (k := 2) (by omega) k_L485 k_L486 k_L487 (by decide) k_L488 k_L489 ?_
          refine k_arg C I1 hl (k := 3) (by omega) k_L490 k_L491 k_L492 (by decide) k_L493 k_L494 ?_
          refine k_arg C I1 hl (k := 4) (by omega) k_L495 k_L496 k_L497 (by decide) k_L498 k_L499 ?_
          refine k_arg C I1 hl (k := 5) (by omega) k_L500 k_L501 k_L502 (by decide) k_L503 k_L504 ?_
          refine k_pub2 C I1 (a := 215) (idx := 48) (M := k_M215) (ct := k_c215_5) rfl k_pm215_5 rfl (k_in 8 47 rfl rfl) (by decide +kernel) (x := a2) (As := [.int (xs (i + 1)), .int (xs (i + 2)), .int (xs (i + 3)), .int (xs (i + 4)), .int (xs (i + 5))]) (rest := []) [(a2 : Int), (t : Int), ((xs (i + 2))).toInt, (t2 : Int), ((xs (i + 4))).toInt, ((xs (i + 5))).toInt, (tm : Int), (ts : Int), m0, u0, m2, u2] (k_preD (by decide +kernel) ⟨(by show (0 : Int) ≤ (0) + ((1) * u0 + ((-1) * u2 + (0))); omega), (by show (0 : Int) ≤ (0) + ((-1) * u0 + ((1) * u2 + (0))); omega), (by show (0 : Int) ≤ (3) + (0); omega), trivial⟩ ⟨k_aR I1.2.2.2.2.2.1, ⟨_, rfl, hx, (by show (0 : Int) ≤ (t : Int); omega), (by show (t : Int) ≤ 3; omega)⟩, k_aI _, ⟨_, rfl, hx2, (by show (0 : Int) ≤ (t2 : Int); omega), (by show (t2 : Int) ≤ 3; omega)⟩, k_aI _, k_aI _, trivial⟩ ⟨k_fnC (b := 0) hTb.2.2.2.2.1 rfl rfl, k_fnC (b := 0) hTb.2.2.2.2.2.2.1 rfl rfl, k_fnC (b := 6) hmb rfl (by show (0 : Int) + (1 * (t : Int) + 0) = _; omega), k_fnC (b := 7) hub rfl (by show (0 : Int) + (1 * (t : Int) + 0) = _; omega), k_fnC (b := 6) hm2b rfl (by show (0 : Int) + (1 * (t2 : Int) + 0) = _; omega), k_fnC (b := 7) hu2b rfl (by show (0 : Int) + (1 * (t2 : Int) + 0) = _; omega), trivial⟩) (Nat.le_of_ble_eq_true rfl) k_L505 hc0 hs0 hl.1 (fun rv2 rs2 w2 H2 lo2 hv2 hp2 I2 hj2 => ?_)
          obtain ⟨r2, rfl, rfl, -, -⟩ := hv2
          have hTc := k_TK hp2.1 (by decide +kernel) (by decide +kernel) hTb
          have hS2 := k_S7K hp2.1 (by decide +kernel) (by decide +kernel) hS1
          have hq1 := k_pourC hp1
          have hq2 := k_pourM hp2
          have hb1 := k_fnT (lo := 0) (hi := 60) I.2.2.1 hz (by rfl)
          have hb2 := k_fnT (lo := 0) (hi := 60) I.2.2.1 hz2 (by rfl)
          have hRn := k_pourZ I hS I1 hS1 I2 hS2 hp1.1 (by decide +kernel) (by decide +kernel) hp2.1 (by decide +kernel) (by decide +kernel) (j_exOf (by rfl) (by rfl) hj1) (j_exOf (by rfl) (by rfl) hj2) hx ht hx2 ht2 hTc htr (by decide +kernel) (by decide +kernel) hm hm2 (by unfold k_tq at hq hq9; omega)
          refine lv_pop C.1 C.2.1 k_L508 rfl ?_
          refine lv_goto C.1 C.2.1 k_L509 (tgt := 1990) (by decide) ?_
          exact W.widen (Nat.le_add_right _ _) (Nat.le_add_right _ _) (kk _ _ _ ⟨I2, hRn⟩)
        · refine lv_aload_n C.1 C.2.1 k_L449 rfl (lv_at hl 1 rfl) ?_
          refine k_arg C I hl (k := 1) (by omega) k_L450 k_L451 k_L452 (by decide) k_L453 k_L454 ?_
          refine k_arg C I hl (k := 2) (by omega) k_L455 k_L456 k_L457 (by decide) k_L458 k_L459 ?_
          refine k_arg C I hl (k := 3) (by omega) k_L460 k_L461 k_L462 (by decide) k_L463 k_L464 ?_
          refine k_arg C I hl (k := 4) (by omega) k_L465 k_L466 k_L467 (by decide) k_L468 k_L469 ?_
          refine k_arg C I hl (k := 5) (by omega) k_L470 k_L471 k_L472 (by decide) k_L473 k_L474 ?_
          refine k_pub2 C I (a := 128) (idx := 44) (M := k_M128) (ct := k_c128_5) rfl k_pm128_5 rfl (k_in 3 204 rfl rfl) (by decide +kernel) (x := a1) (As := [.int (xs (i + 1)), .int (xs (i + 2)), .int (xs (i + 3)), .int (xs (i + 4)), .int (xs (i + 5))]) (rest := []) [(a1 : Int), (t : Int), ((xs (i + 2))).toInt, (t2 : Int), ((xs (i + 4))).toInt, ((xs (i + 5))).toInt, (so : Int), (si : Int), s0, z0, s2, z2] (k_preD (by decide +kernel) ⟨(by show (0 : Int) ≤ (0) + ((1) * s0 + ((-1) * s2 + (0))); omega), (by show (0 : Int) ≤ (0) + ((-1) * s0 + ((1) * s2 + (0))); omega), (by show (0 : Int) ≤ (3) + (0); omega), trivial⟩ ⟨k_aR I.2.2.2.2.1, ⟨_, rfl, hx, (by show (0 : Int) ≤ (t : Int); omega), (by show (t : Int) ≤ 3; omega)⟩, k_aI _, ⟨_, rfl, hx2, (by show (0 : Int) ≤ (t2 : Int); omega), (by show (t2 : Int) ≤ 3; omega)⟩, k_aI _, k_aI _, trivial⟩ ⟨k_fnC (b := 0) hT.1 rfl rfl, k_fnC (b := 0) hT.2.2.1 rfl rfl, k_fnC (b := 6) hs rfl (by show (0 : Int) + (1 * (t : Int) + 0) = _; omega), k_fnC (b := 7) hz rfl (by show (0 : Int) + (1 * (t : Int) + 0) = _; omega), k_fnC (b := 6) hs2 rfl (by show (0 : Int) + (1 * (t2 : Int) + 0) = _; omega), k_fnC (b := 7) hz2 rfl (by show (0 : Int) + (1 * (t2 : Int) + 0) = _; omega), trivial⟩) (Nat.le_of_ble_eq_true rfl) k_L475 hc0 hs0 hl.1 (fun rv1 rs1 w1 H1 lo1 hv1 hp1 I1 hj1 => ?_)
          obtain ⟨r1, rfl, rfl, -, -⟩ := hv1
          have hTb := k_TK hp1.1 (by decide +kernel) (by decide +kernel) hT
          have hS1 := k_S7K hp1.1 (by decide +kernel) (by decide +kernel) hS
          have hmb := k_fnK hp1.1 (by decide +kernel) (by decide) (k_none_ok (by decide +kernel) _ _) hm
          have hub := k_fnK hp1.1 (by decide +kernel) (by decide) (k_none_ok (by decide +kernel) _ _) hu
          have hm2b := k_fnK hp1.1 (by decide +kernel) (by decide) (k_none_ok (by decide +kernel) _ _) hm2
          have hu2b := k_fnK hp1.1 (by decide +kernel) (by decide) (k_none_ok (by decide +kernel) _ _) hu2
          refine lv_pop C.1 C.2.1 k_L478 rfl ?_
          refine lv_aload_n C.1 C.2.1 k_L479 rfl (lv_at hl 2 rfl) ?_
          refine k_arg C I1 hl (k := 1) (by omega) k_L480 k_L481 k_L482 (by decide) k_L483 k_L484 ?_
          refine k_arg C I1 hl (k := 2) (by omega) k_L485 k_L486 k_L487 (by decide) k_L488 k_L489 ?_
          refine k_arg C I1 hl (k := 3) (by omega) k_L490 k_L491 k_L492 (by decide) k_L493 k_L494 ?_
          refine k_arg C I1 hl (k := 4) (by omega) k_L495 k_L496 k_L497 (by decide) k_L498 k_L499 ?_
          refine k_arg C I1 hl (k := 5) (by omega) k_L500 k_L501 k_L502 (by decide) k_L503 k_L504 ?_
          refine k_pub2 C I1 (a := 215) (idx := 48) (M := k_M215) (ct := k_c215_7) rfl k_pm215_7 rfl (k_in 8 47 rfl rfl) (by decide +kernel) (x := a2) (As := [.int (xs (i + 1)), .int (xs (i + 2)), .int (xs (i + 3)), .int (xs (i + 4)), .int (xs (i + 5))]) (rest := []) [(a2 : Int), (t : Int), ((xs (i + 2))).toInt, (t2 : Int), ((xs (i + 4))).toInt, ((xs (i + 5))).toInt, (tm : Int), (ts : Int), m0, u0, m2, u2] (k_preD (by decide +kernel) ⟨(by show (0 : Int) ≤ (-1) + ((1) * u0 + ((-1) * u2 + (0))); omega), (by show (0 : Int) ≤ (3) + (0); omega), trivial⟩ ⟨k_aR I1.2.2.2.2.2.1, ⟨_, rfl, hx, (by show (0 : Int) ≤ (t : Int); omega), (by show (t : Int) ≤ 3; omega)⟩, k_aI _, ⟨_, rfl, hx2, (by show (0 : Int) ≤ (t2 : Int); omega), (by show (t2 : Int) ≤ 3; omega)⟩, k_aI _, k_aI _, trivial⟩ ⟨k_fnC (b := 0) hTb.2.2.2.2.1 rfl rfl, k_fnC (b := 0) hTb.2.2.2.2.2.2.1 rfl rfl, k_fnC (b := 6) hmb rfl (by show (0 : Int) + (1 * (t : Int) + 0) = _; omega), k_fnC (b := 7) hub rfl (by show (0 : Int) + (1 * (t : Int) + 0) = _; omega), k_fnC (b := 6) hm2b rfl (by show (0 : Int) + (1 * (t2 : Int) + 0) = _; omega), k_fnC (b := 7) hu2b rfl (by show (0 : Int) + (1 * (t2 : Int) + 0) = _; omega), trivial⟩) (Nat.le_of_ble_eq_true rfl) k_L505 hc0 hs0 hl.1 (fun rv2 rs2 w2 H2 lo2 hv2 hp2 I2 hj2 => ?_)
          obtain ⟨r2, rfl, rfl, -, -⟩ := hv2
          have hTc := k_TK hp2.1 (by decide +kernel) (by decide +kernel) hTb
          have hS2 := k_S7K hp2.1 (by decide +kernel) (by decide +kernel) hS1
          have hq1 := k_pourC hp1
          have hq2 := k_pourMMc hp2
          have hb1 := k_fnT (lo := 0) (hi := 60) I.2.2.1 hz (by rfl)
          have hb2 := k_fnT (lo := 0) (hi := 60) I.2.2.1 hz2 (by rfl)
          have hRn := k_pourZ I hS I1 hS1 I2 hS2 hp1.1 (by decide +kernel) (by decide +kernel) hp2.1 (by decide +kernel) (by decide +kernel) (j_exOf (by rfl) (by rfl) hj1) (j_exOf (by rfl) (by rfl) hj2) hx ht hx2 ht2 hTc htr (by decide +kernel) (by decide +kernel) hm hm2 (by unfold k_tq at hq hq9; omega)
          refine lv_pop C.1 C.2.1 k_L508 rfl ?_
          refine lv_goto C.1 C.2.1 k_L509 (tgt := 1990) (by decide) ?_
          exact W.widen (Nat.le_add_right _ _) (Nat.le_add_right _ _) (kk _ _ _ ⟨I2, hRn⟩)
      · rcases (show u0 < u2 ∨ u0 = u2 ∨ u2 < u0 by omega) with hux | hux | hux
        · refine lv_aload_n C.1 C.2.1 k_L449 rfl (lv_at hl 1 rfl) ?_
          refine k_arg C I hl (k := 1) (by omega) k_L450 k_L451 k_L452 (by decide) k_L453 k_L454 ?_
          refine k_arg C I hl (k := 2) (by omega) k_L455 k_L456 k_L457 (by decide) k_L458 k_L459 ?_
          refine k_arg C I hl (k := 3) (by omega) k_L460 k_L461 k_L462 (by decide) k_L463 k_L464 ?_
          refine k_arg C I hl (k := 4) (by omega) k_L465 k_L466 k_L467 (by decide) k_L468 k_L469 ?_
          refine k_arg C I hl (k := 5) (by omega) k_L470 k_L471 k_L472 (by decide) k_L473 k_L474 ?_
          refine k_pub2 C I (a := 128) (idx := 44) (M := k_M128) (ct := k_c128_7) rfl k_pm128_7 rfl (k_in 3 204 rfl rfl) (by decide +kernel) (x := a1) (As := [.int (xs (i + 1)), .int (xs (i + 2)), .int (xs (i + 3)), .int (xs (i + 4)), .int (xs (i + 5))]) (rest := []) [(a1 : Int), (t : Int), ((xs (i + 2))).toInt, (t2 : Int), ((xs (i + 4))).toInt, ((xs (i + 5))).toInt, (so : Int), (si : Int), s0, z0, s2, z2] (k_preD (by decide +kernel) ⟨(by show (0 : Int) ≤ (-1) + ((1) * s0 + ((-1) * s2 + (0))); omega), (by show (0 : Int) ≤ (3) + (0); omega), trivial⟩ ⟨k_aR I.2.2.2.2.1, ⟨_, rfl, hx, (by show (0 : Int) ≤ (t : Int); omega), (by show (t : Int) ≤ 3; omega)⟩, k_aI _, ⟨_, rfl, hx2, (by show (0 : Int) ≤ (t2 : Int); omega), (by show (t2 : Int) ≤ 3; omega)⟩, k_aI _, k_aI _, trivial⟩ ⟨k_fnC (b := 0) hT.1 rfl rfl, k_fnC (b := 0) hT.2.2.1 rfl rfl, k_fnC (b := 6) hs rfl (by show (0 : Int) + (1 * (t : Int) + 0) = _; omega), k_fnC (b := 7) hz rfl (by show (0 : Int) + (1 * (t : Int) + 0) = _; omega), k_fnC (b := 6) hs2 rfl (by show (0 : Int) + (1 * (t2 : Int) + 0) = _; omega), k_fnC (b := 7) hz2 rfl (by show (0 : Int) + (1 * (t2 : Int) + 0) = _; omega), trivial⟩) (Nat.le_of_ble_eq_true rfl) k_L475 hc0 hs0 hl.1 (fun rv1 rs1 w1 H1 lo1 hv1 hp1 I1 hj1 => ?_)
          obtain ⟨r1, rfl, rfl, -, -⟩ := hv1
          have hTb := k_TK hp1.1 (by decide +kernel) (by decide +kernel) hT
          have hS1 := k_S7K hp1.1 (by decide +kernel) (by decide +kernel) hS
          have hmb := k_fnK hp1.1 (by decide +kernel) (by decide) (k_none_ok (by decide +kernel) _ _) hm
          have hub := k_fnK hp1.1 (by decide +kernel) (by decide) (k_none_ok (by decide +kernel) _ _) hu
          have hm2b := k_fnK hp1.1 (by decide +kernel) (by decide) (k_none_ok (by decide +kernel) _ _) hm2
          have hu2b := k_fnK hp1.1 (by decide +kernel) (by decide) (k_none_ok (by decide +kernel) _ _) hu2
          refine lv_pop C.1 C.2.1 k_L478 rfl ?_
          refine lv_aload_n C.1 C.2.1 k_L479 rfl (lv_at hl 2 rfl) ?_
          refine k_arg C I1 hl (k := 1) (by omega) k_L480 k_L481 k_L482 (by decide) k_L483 k_L484 ?_
          refine k_arg C I1 hl (k := 2) (by omega) k_L485 k_L486 k_L487 (by decide) k_L488 k_L489 ?_
          refine k_arg C I1 hl (k := 3) (by omega) k_L490 k_L491 k_L492 (by decide) k_L493 k_L494 ?_
          refine k_arg C I1 hl (k := 4) (by omega) k_L495 k_L496 k_L497 (by decide) k_L498 k_L499 ?_
          refine k_arg C I1 hl (k := 5) (by omega) k_L500 k_L501 k_L502 (by decide) k_L503 k_L504 ?_
          refine k_pub2 C I1 (a := 215) (idx := 48) (M := k_M215) (ct := k_c215_6) rfl k_pm215_6 rfl (k_in 8 47 rfl rfl) (by decide +kernel) (x := a2) (As := [.int (xs (i + 1)), .int (xs (i + 2)), .int (xs (i + 3)), .int (xs (i + 4)), .int (xs (i + 5))]) (rest := []) [(a2 : Int), (t : Int), ((xs (i + 2))).toInt, (t2 : Int), ((xs (i + 4))).toInt, ((xs (i + 5))).toInt, (tm : Int), (ts : Int), m0, u0, m2, u2] (k_preD (by decide +kernel) ⟨(by show (0 : Int) ≤ (-1) + ((-1) * u0 + ((1) * u2 + (0))); omega), (by show (0 : Int) ≤ (3) + (0); omega), trivial⟩ ⟨k_aR I1.2.2.2.2.2.1, ⟨_, rfl, hx, (by show (0 : Int) ≤ (t : Int); omega), (by show (t : Int) ≤ 3; omega)⟩, k_aI _, ⟨_, rfl, hx2, (by show (0 : Int) ≤ (t2 : Int); omega), (by show (t2 : Int) ≤ 3; omega)⟩, k_aI _, k_aI _, trivial⟩ ⟨k_fnC (b := 0) hTb.2.2.2.2.1 rfl rfl, k_fnC (b := 0) hTb.2.2.2.2.2.2.1 rfl rfl, k_fnC (b := 6) hmb rfl (by show (0 : Int) + (1 * (t : Int) + 0) = _; omega), k_fnC (b := 7) hub rfl (by show (0 : Int) + (1 * (t : Int) + 0) = _; omega), k_fnC (b := 6) hm2b rfl (by show (0 : Int) + (1 * (t2 : Int) + 0) = _; omega), k_fnC (b := 7) hu2b rfl (by show (0 : Int) + (1 * (t2 : Int) + 0) = _; omega), trivial⟩) (Nat.le_of_ble_eq_true rfl) k_L505 hc0 hs0 hl.1 (fun rv2 rs2 w2 H2 lo2 hv2 hp2 I2 hj2 => ?_)
          obtain ⟨r2, rfl, rfl, -, -⟩ := hv2
          have hTc := k_TK hp2.1 (by decide +kernel) (by decide +kernel) hTb
          have hS2 := k_S7K hp2.1 (by decide +kernel) (by decide +kernel) hS1
          have hq1 := k_pourCMc hp1
          have hq2 := k_pourMMa hp2
          have hb1 := k_fnT (lo := 0) (hi := 60) I.2.2.1 hz (by rfl)
          have hb2 := k_fnT (lo := 0) (hi := 60) I.2.2.1 hz2 (by rfl)
          have hRn := k_pourZ I hS I1 hS1 I2 hS2 hp1.1 (by decide +kernel) (by decide +kernel) hp2.1 (by decide +kernel) (by decide +kernel) (j_exOf (by rfl) (by rfl) hj1) (j_exOf (by rfl) (by rfl) hj2) hx ht hx2 ht2 hTc htr (by decide +kernel) (by decide +kernel) hm hm2 (by unfold k_tq at hq hq9; omega)
          refine lv_pop C.1 C.2.1 k_L508 rfl ?_
          refine lv_goto C.1 C.2.1 k_L509 (tgt := 1990) (by decide) ?_
          exact W.widen (Nat.le_add_right _ _) (Nat.le_add_right _ _) (kk _ _ _ ⟨I2, hRn⟩)
        · refine lv_aload_n C.1 C.2.1 k_L449 rfl (lv_at hl 1 rfl) ?_
          refine k_arg C I hl (k := 1) (by omega) k_L450 k_L451 k_L452 (by decide) k_L453 k_L454 ?_
          refine k_arg C I hl (k := 2) (by omega) k_L455 k_L456 k_L457 (by decide) k_L458 k_L459 ?_
          refine k_arg C I hl (k := 3) (by omega) k_L460 k_L461 k_L462 (by decide) k_L463 k_L464 ?_
          refine k_arg C I hl (k := 4) (by omega) k_L465 k_L466 k_L467 (by decide) k_L468 k_L469 ?_
          refine k_arg C I hl (k := 5) (by omega) k_L470 k_L471 k_L472 (by decide) k_L473 k_L474 ?_
          refine k_pub2 C I (a := 128) (idx := 44) (M := k_M128) (ct := k_c128_7) rfl k_pm128_7 rfl (k_in 3 204 rfl rfl) (by decide +kernel) (x := a1) (As := [.int (xs (i + 1)), .int (xs (i + 2)), .int (xs (i + 3)), .int (xs (i + 4)), .int (xs (i + 5))]) (rest := []) [(a1 : Int), (t : Int), ((xs (i + 2))).toInt, (t2 : Int), ((xs (i + 4))).toInt, ((xs (i + 5))).toInt, (so : Int), (si : Int), s0, z0, s2, z2] (k_preD (by decide +kernel) ⟨(by show (0 : Int) ≤ (-1) + ((1) * s0 + ((-1) * s2 + (0))); omega), (by show (0 : Int) ≤ (3) + (0); omega), trivial⟩ ⟨k_aR I.2.2.2.2.1, ⟨_, rfl, hx, (by show (0 : Int) ≤ (t : Int); omega), (by show (t : Int) ≤ 3; omega)⟩, k_aI _, ⟨_, rfl, hx2, (by show (0 : Int) ≤ (t2 : Int); omega), (by show (t2 : Int) ≤ 3; omega)⟩, k_aI _, k_aI _, trivial⟩ ⟨k_fnC (b := 0) hT.1 rfl rfl, k_fnC (b := 0) hT.2.2.1 rfl rfl, k_fnC (b := 6) hs rfl (by show (0 : Int) + (1 * (t : Int) + 0) = _; omega), k_fnC (b := 7) hz rfl (by show (0 : Int) + (1 * (t : Int) + 0) = _; omega), k_fnC (b := 6) hs2 rfl (by show (0 : Int) + (1 * (t2 : Int) + 0) = _; omega), k_fnC (b := 7) hz2 rfl (by show (0 : Int) + (1 * (t2 : Int) + 0) = _; omega), trivial⟩) (Nat.le_of_ble_eq_true rfl) k_L475 hc0 hs0 hl.1 (fun rv1 rs1 w1 H1 lo1 hv1 hp1 I1 hj1 => ?_)
          obtain ⟨r1, rfl, rfl, -, -⟩ := hv1
          have hTb := k_TK hp1.1 (by decide +kernel) (by decide +kernel) hT
          have hS1 := k_S7K hp1.1 (by decide +kernel) (by decide +kernel) hS
          have hmb := k_fnK hp1.1 (by decide +kernel) (by decide) (k_none_ok (by decide +kernel) _ _) hm
          have hub := k_fnK hp1.1 (by decide +kernel) (by decide) (k_none_ok (by decide +kernel) _ _) hu
          have hm2b := k_fnK hp1.1 (by decide +kernel) (by decide) (k_none_ok (by decide +kernel) _ _) hm2
          have hu2b := k_fnK hp1.1 (by decide +kernel) (by decide) (k_none_ok (by decide +kernel) _ _) hu2
          refine lv_pop C.1 C.2.1 k_L478 rfl ?_
          refine lv_aload_n C.1 C.2.1 k_L479 rfl (lv_at hl 2 rfl) ?_
          refine k_arg C I1 hl (k := 1) (by omega) k_L480 k_L481 k_L482 (by decide) k_L483 k_L484 ?_
          refine k_arg C I1 hl (k := 2) (by omega) k_L485 k_L486 k_L487 (by decide) k_L488 k_L489 ?_
          refine k_arg C I1 hl (k := 3) (by omega) k_L490 k_L491 k_L492 (by decide) k_L493 k_L494 ?_
          refine k_arg C I1 hl (k := 4) (by omega) k_L495 k_L496 k_L497 (by decide) k_L498 k_L499 ?_
          refine k_arg C I1 hl (k := 5) (by omega) k_L500 k_L501 k_L502 (by decide) k_L503 k_L504 ?_
          refine k_pub2 C I1 (a := 215) (idx := 48) (M := k_M215) (ct := k_c215_5) rfl k_pm215_5 rfl (k_in 8 47 rfl rfl) (by decide +kernel) (x := a2) (As := [.int (xs (i + 1)), .int (xs (i + 2)), .int (xs (i + 3)), .int (xs (i + 4)), .int (xs (i + 5))]) (rest := []) [(a2 : Int), (t : Int), ((xs (i + 2))).toInt, (t2 : Int), ((xs (i + 4))).toInt, ((xs (i + 5))).toInt, (tm : Int), (ts : Int), m0, u0, m2, u2] (k_preD (by decide +kernel) ⟨(by show (0 : Int) ≤ (0) + ((1) * u0 + ((-1) * u2 + (0))); omega), (by show (0 : Int) ≤ (0) + ((-1) * u0 + ((1) * u2 + (0))); omega), (by show (0 : Int) ≤ (3) + (0); omega), trivial⟩ ⟨k_aR I1.2.2.2.2.2.1, ⟨_, rfl, hx, (by show (0 : Int) ≤ (t : Int); omega), (by show (t : Int) ≤ 3; omega)⟩, k_aI _, ⟨_, rfl, hx2, (by show (0 : Int) ≤ (t2 : Int); omega), (by show (t2 : Int) ≤ 3; omega)⟩, k_aI _, k_aI _, trivial⟩ ⟨k_fnC (b := 0) hTb.2.2.2.2.1 rfl rfl, k_fnC (b := 0) hTb.2.2.2.2.2.2.1 rfl rfl, k_fnC (b := 6) hmb rfl (by show (0 : Int) + (1 * (t : Int) + 0) = _; omega), k_fnC (b := 7) hub rfl (by show (0 : Int) + (1 * (t : Int) + 0) = _; omega), k_fnC (b := 6) hm2b rfl (by show (0 : Int) + (1 * (t2 : Int) + 0) = _; omega), k_fnC (b := 7) hu2b rfl (by show (0 : Int) + (1 * (t2 : Int) + 0) = _; omega), trivial⟩) (Nat.le_of_ble_eq_true rfl) k_L505 hc0 hs0 hl.1 (fun rv2 rs2 w2 H2 lo2 hv2 hp2 I2 hj2 => ?_)
          obtain ⟨r2, rfl, rfl, -, -⟩ := hv2
          have hTc := k_TK hp2.1 (by decide +kernel) (by decide +kernel) hTb
          have hS2 := k_S7K hp2.1 (by decide +kernel) (by decide +kernel) hS1
          have hq1 := k_pourCMc hp1
          have hq2 := k_pourM hp2
          have hb1 := k_fnT (lo := 0) (hi := 60) I.2.2.1 hz (by rfl)
          have hb2 := k_fnT (lo := 0) (hi := 60) I.2.2.1 hz2 (by rfl)
          have hRn := k_pourZ I hS I1 hS1 I2 hS2 hp1.1 (by decide +kernel) (by decide +kernel) hp2.1 (by decide +kernel) (by decide +kernel) (j_exOf (by rfl) (by rfl) hj1) (j_exOf (by rfl) (by rfl) hj2) hx ht hx2 ht2 hTc htr (by decide +kernel) (by decide +kernel) hm hm2 (by unfold k_tq at hq hq9; omega)
          refine lv_pop C.1 C.2.1 k_L508 rfl ?_
          refine lv_goto C.1 C.2.1 k_L509 (tgt := 1990) (by decide) ?_
          exact W.widen (Nat.le_add_right _ _) (Nat.le_add_right _ _) (kk _ _ _ ⟨I2, hRn⟩)
        · refine lv_aload_n C.1 C.2.1 k_L449 rfl (lv_at hl 1 rfl) ?_
          refine k_arg C I hl (k := 1) (by omega) k_L450 k_L451 k_L452 (by decide) k_L453 k_L454 ?_
          refine k_arg C I hl (k := 2) (by omega) k_L455 k_L456 k_L457 (by decide) k_L458 k_L459 ?_
          refine k_arg C I hl (k := 3) (by omega) k_L460 k_L461 k_L462 (by decide) k_L463 k_L464 ?_
          refine k_arg C I hl (k := 4) (by omega) k_L465 k_L466 k_L467 (by decide) k_L468 k_L469 ?_
          refine k_arg C I hl (k := 5) (by omega) k_L470 k_L471 k_L472 (by decide) k_L473 k_L474 ?_
          refine k_pub2 C I (a := 128) (idx := 44) (M := k_M128) (ct := k_c128_7) rfl k_pm128_7 rfl (k_in 3 204 rfl rfl) (by decide +kernel) (x := a1) (As := [.int (xs (i + 1)), .int (xs (i + 2)), .int (xs (i + 3)), .int (xs (i + 4)), .int (xs (i + 5))]) (rest := []) [(a1 : Int), (t : Int), ((xs (i + 2))).toInt, (t2 : Int), ((xs (i + 4))).toInt, ((xs (i + 5))).toInt, (so : Int), (si : Int), s0, z0, s2, z2] (k_preD (by decide +kernel) ⟨(by show (0 : Int) ≤ (-1) + ((1) * s0 + ((-1) * s2 + (0))); omega), (by show (0 : Int) ≤ (3) + (0); omega), trivial⟩ ⟨k_aR I.2.2.2.2.1, ⟨_, rfl, hx, (by show (0 : Int) ≤ (t : Int); omega), (by show (t : Int) ≤ 3; omega)⟩, k_aI _, ⟨_, rfl, hx2, (by show (0 : Int) ≤ (t2 : Int); omega), (by show (t2 : Int) ≤ 3; omega)⟩, k_aI _, k_aI _, trivial⟩ ⟨k_fnC (b := 0) hT.1 rfl rfl, k_fnC (b := 0) hT.2.2.1 rfl rfl, k_fnC (b := 6) hs rfl (by show (0 : Int) + (1 * (t : Int) + 0) = _; omega), k_fnC (b := 7) hz rfl (by show (0 : Int) + (1 * (t : Int) + 0) = _; omega), k_fnC (b := 6) hs2 rfl (by show (0 : Int) + (1 * (t2 : Int) + 0) = _; omega), k_fnC (b := 7) hz2 rfl (by show (0 : Int) + (1 * (t2 : Int) + 0) = _; omega), trivial⟩) (Nat.le_of_ble_eq_true rfl) k_L475 hc0 hs0 hl.1 (fun rv1 rs1 w1 H1 lo1 hv1 hp1 I1 hj1 => ?_)
          obtain ⟨r1, rfl, rfl, -, -⟩ := hv1
          have hTb := k_TK hp1.1 (by decide +kernel) (by decide +kernel) hT
          have hS1 := k_S7K hp1.1 (by decide +kernel) (by decide +kernel) hS
          have hmb := k_fnK hp1.1 (by decide +kernel) (by decide) (k_none_ok (by decide +kernel) _ _) hm
          have hub := k_fnK hp1.1 (by decide +kernel) (by decide) (k_none_ok (by decide +kernel) _ _) hu
          have hm2b := k_fnK hp1.1 (by decide +kernel) (by decide) (k_none_ok (by decide +kernel) _ _) hm2
          have hu2b := k_fnK hp1.1 (by decide +kernel) (by decide) (k_none_ok (by decide +kernel) _ _) hu2
          refine lv_pop C.1 C.2.1 k_L478 rfl ?_
          refine lv_aload_n C.1 C.2.1 k_L479 rfl (lv_at hl 2 rfl) ?_
          refine k_arg C I1 hl (k := 1) (by omega) k_L480 k_L481 k_L482 (by decide) k_L483 k_L484 ?_
          refine k_arg C I1 hl (k := 2) (by omega) k_L485 k_L486 k_L487 (by decide) k_L488 k_L489 ?_
          refine k_arg C I1 hl (k := 3) (by omega) k_L490 k_L491 k_L492 (by decide) k_L493 k_L494 ?_
          refine k_arg C I1 hl (k := 4) (by omega) k_L495 k_L496 k_L497 (by decide) k_L498 k_L499 ?_
          refine k_arg C I1 hl (k := 5) (by omega) k_L500 k_L501 k_L502 (by decide) k_L503 k_L504 ?_
          refine k_pub2 C I1 (a := 215) (idx := 48) (M := k_M215) (ct := k_c215_7) rfl k_pm215_7 rfl (k_in 8 47 rfl rfl) (by decide +kernel) (x := a2) (As := [.int (xs (i + 1)), .int (xs (i + 2)), .int (xs (i + 3)), .int (xs (i + 4)), .int (xs (i + 5))]) (rest := []) [(a2 : Int), (t : Int), ((xs (i + 2))).toInt, (t2 : Int), ((xs (i + 4))).toInt, ((xs (i + 5))).toInt, (tm : Int), (ts : Int), m0, u0, m2, u2] (k_preD (by decide +kernel) ⟨(by show (0 : Int) ≤ (-1) + ((1) * u0 + ((-1) * u2 + (0))); omega), (by show (0 : Int) ≤ (3) + (0); omega), trivial⟩ ⟨k_aR I1.2.2.2.2.2.1, ⟨_, rfl, hx, (by show (0 : Int) ≤ (t : Int); omega), (by show (t : Int) ≤ 3; omega)⟩, k_aI _, ⟨_, rfl, hx2, (by show (0 : Int) ≤ (t2 : Int); omega), (by show (t2 : Int) ≤ 3; omega)⟩, k_aI _, k_aI _, trivial⟩ ⟨k_fnC (b := 0) hTb.2.2.2.2.1 rfl rfl, k_fnC (b := 0) hTb.2.2.2.2.2.2.1 rfl rfl, k_fnC (b := 6) hmb rfl (by show (0 : Int) + (1 * (t : Int) + 0) = _; omega), k_fnC (b := 7) hub rfl (by show (0 : Int) + (1 * (t : Int) + 0) = _; omega), k_fnC (b := 6) hm2b rfl (by show (0 : Int) + (1 * (t2 : Int) + 0) = _; omega), k_fnC (b := 7) hu2b rfl (by show (0 : Int) + (1 * (t2 : Int) + 0) = _; omega), trivial⟩) (Nat.le_of_ble_eq_true rfl) k_L505 hc0 hs0 hl.1 (fun rv2 rs2 w2 H2 lo2 hv2 hp2 I2 hj2 => ?_)
          obtain ⟨r2, rfl, rfl, -, -⟩ := hv2
          have hTc := k_TK hp2.1 (by decide +kernel) (by decide +kernel) hTb
          have hS2 := k_S7K hp2.1 (by decide +kernel) (by decide +kernel) hS1
          have hq1 := k_pourCMc hp1
          have hq2 := k_pourMMc hp2
          have hb1 := k_fnT (lo := 0) (hi := 60) I.2.2.1 hz (by rfl)
          have hb2 := k_fnT (lo := 0) (hi := 60) I.2.2.1 hz2 (by rfl)
          have hRn := k_pourZ I hS I1 hS1 I2 hS2 hp1.1 (by decide +kernel) (by decide +kernel) hp2.1 (by decide +kernel) (by decide +kernel) (j_exOf (by rfl) (by rfl) hj1) (j_exOf (by rfl) (by rfl) hj2) hx ht hx2 ht2 hTc htr (by decide +kernel) (by decide +kernel) hm hm2 (by unfold k_tq at hq hq9; omega)
          refine lv_pop C.1 C.2.1 k_L508 rfl ?_
          refine lv_goto C.1 C.2.1 k_L509 (tgt := 1990) (by decide) ?_
          exact W.widen (Nat.le_add_right _ _) (Nat.le_add_right _ _) (kk _ _ _ ⟨I2, hRn⟩)
theorem k_case7 {p : Program} {l : Launch} {e : Env} {s : State} {m : MethodId} {below : List Frame} {meth : Method} {c : Code} {Q : State → Prop} {b L : Nat} {xs : Nat → Int32} {D : va_G} {dA : Nat → ClassId} {a1 a2 i cells slots : Nat} {ls : Array Slot} {w : cWld} {H : Heap} {locs : List Loc} (C : k_Cx p s m c b L xs D dA) (I : k_In s D dA a1 a2 w H locs ∧ k_R a1 a2 w) (hl : lv_has ls 4 (k_lv b a1 a2 i)) (hi : i + 7 ≤ L) (hcb : cells + 26 ≤ 600000) (hsb : slots + 1584 ≤ 7302250)
    (kk : ∀ (w : cWld) (H : Heap) (locs : List Loc), k_In s D dA a1 a2 w H locs ∧ k_R a1 a2 w → W p l e room_1 s m #[Value.ref b] below meth c H locs (cells + 26) (slots + 1584) Q (F0 m 1990 ls [])) : W p l e room_1 s m #[Value.ref b] below meth c H locs cells slots Q (F0 m 512 ls []) := by
  have hc0 : cells ≤ 600000 := by omega
  have hs0 : slots ≤ 7302250 := by omega
  have hc1 := hcb
  have hs1 := hsb
  obtain ⟨I, hR⟩ := I
  refine lv_aload_n C.1 C.2.1 k_L512 rfl (lv_at hl 1 rfl) ?_
  refine k_arg C I hl (k := 1) (by omega) k_L513 k_L514 k_L515 (by decide) k_L516 k_L517 ?_
  refine k_arg C I hl (k := 2) (by omega) k_L518 k_L519 k_L520 (by decide) k_L521 k_L522 ?_
  refine k_arg C I hl (k := 3) (by omega) k_L523 k_L524 k_L525 (by decide) k_L526 k_L527 ?_
  refine k_arg C I hl (k := 4) (by omega) k_L528 k_L529 k_L530 (by decide) k_L531 k_L532 ?_
  refine k_arg C I hl (k := 5) (by omega) k_L533 k_L534 k_L535 (by decide) k_L536 k_L537 ?_
  obtain ⟨z1_7, hz1_7⟩ := k_fnE (i := 7) I.2.2.1 I.2.2.2.2.1 k_sh12 (by decide)
  refine k_pub C I (a := 129) (idx := 49) (M := k_M129) (ct := k_c129_0) rfl k_pm129_0 rfl (k_in 3 211 rfl rfl) (by decide +kernel) (x := a1) (As := [.int (xs (i + 1)), .int (xs (i + 2)), .int (xs (i + 3)), .int (xs (i + 4)), .int (xs (i + 5))]) (rest := []) [(a1 : Int), ((xs (i + 1))).toInt, ((xs (i + 2))).toInt, ((xs (i + 3))).toInt, ((xs (i + 4))).toInt, ((xs (i + 5))).toInt, z1_7] (k_preC 0 rfl (by decide +kernel) ⟨k_aR I.2.2.2.2.1, k_aI _, k_aI _, k_aI _, k_aI _, k_aI _, trivial⟩ ⟨k_fnC (b := 0) hz1_7 rfl rfl, trivial⟩) (Nat.le_of_ble_eq_true rfl) k_L538 hc0 hs0 hl.1 (fun rv1 rs1 w1 H1 lo1 hv1 hp1 I1 => ?_)
  obtain ⟨r1, rfl, rfl⟩ := hv1
  have hR := k_RK hp1.1 (by decide +kernel) (by decide +kernel) hR
  refine lv_pop C.1 C.2.1 k_L541 rfl ?_
  refine lv_aload_n C.1 C.2.1 k_L542 rfl (lv_at hl 2 rfl) ?_
  refine k_arg C I1 hl (k := 1) (by omega) k_L543 k_L544 k_L545 (by decide) k_L546 k_L547 ?_
  refine k_arg C I1 hl (k := 2) (by omega) k_L548 k_L549 k_L550 (by decide) k_L551 k_L552 ?_
  refine k_arg C I1 hl (k := 3) (by omega) k_L553 k_L554 k_L555 (by decide) k_L556 k_L557 ?_
  refine k_arg C I1 hl (k := 4) (by omega) k_L558 k_L559 k_L560 (by decide) k_L561 k_L562 ?_
  refine k_arg C I1 hl (k := 5) (by omega) k_L563 k_L564 k_L565 (by decide) k_L566 k_L567 ?_
  obtain ⟨z2_8, hz2_8⟩ := k_fnE (i := 8) I1.2.2.1 I1.2.2.2.2.2.1 k_sh13 (by decide)
  refine k_pub C I1 (a := 236) (idx := 53) (M := k_M236) (ct := k_c236_0) rfl k_pm236_0 rfl (k_in 8 51 rfl rfl) (by decide +kernel) (x := a2) (As := [.int (xs (i + 1)), .int (xs (i + 2)), .int (xs (i + 3)), .int (xs (i + 4)), .int (xs (i + 5))]) (rest := []) [(a2 : Int), ((xs (i + 1))).toInt, ((xs (i + 2))).toInt, ((xs (i + 3))).toInt, ((xs (i + 4))).toInt, ((xs (i + 5))).toInt, z2_8] (k_preC 0 rfl (by decide +kernel) ⟨k_aR I1.2.2.2.2.2.1, k_aI _, k_aI _, k_aI _, k_aI _, k_aI _, trivial⟩ ⟨k_fnC (b := 0) hz2_8 rfl rfl, trivial⟩) (Nat.le_of_ble_eq_true rfl) k_L568 hc0 hs0 hl.1 (fun rv2 rs2 w2 H2 lo2 hv2 hp2 I2 => ?_)
  obtain ⟨r2, rfl, rfl⟩ := hv2
  have hR := k_RK hp2.1 (by decide +kernel) (by decide +kernel) hR
  refine lv_pop C.1 C.2.1 k_L571 rfl ?_
  refine lv_goto C.1 C.2.1 k_L572 (tgt := 1990) (by decide) ?_
  exact W.widen (Nat.le_add_right _ _) (Nat.le_add_right _ _) (kk _ _ _ ⟨I2, hR⟩)
theorem k_case8 {p : Program} {l : Launch} {e : Env} {s : State} {m : MethodId} {below : List Frame} {meth : Method} {c : Code} {Q : State → Prop} {b L : Nat} {xs : Nat → Int32} {D : va_G} {dA : Nat → ClassId} {a1 a2 i cells slots : Nat} {ls : Array Slot} {w : cWld} {H : Heap} {locs : List Loc} (C : k_Cx p s m c b L xs D dA) (I : k_In s D dA a1 a2 w H locs ∧ k_R a1 a2 w) (hl : lv_has ls 4 (k_lv b a1 a2 i)) (hi : i + 7 ≤ L) (hcb : cells + 26 ≤ 600000) (hsb : slots + 1584 ≤ 7302250)
    (kk : ∀ (w : cWld) (H : Heap) (locs : List Loc), k_In s D dA a1 a2 w H locs ∧ k_R a1 a2 w → W p l e room_1 s m #[Value.ref b] below meth c H locs (cells + 26) (slots + 1584) Q (F0 m 1990 ls [])) : W p l e room_1 s m #[Value.ref b] below meth c H locs cells slots Q (F0 m 575 ls []) := by
  have hc0 : cells ≤ 600000 := by omega
  have hs0 : slots ≤ 7302250 := by omega
  have hc1 := hcb
  have hs1 := hsb
  obtain ⟨I, hR⟩ := I
  refine lv_aload_n C.1 C.2.1 k_L575 rfl (lv_at hl 1 rfl) ?_
  refine k_arg C I hl (k := 1) (by omega) k_L576 k_L577 k_L578 (by decide) k_L579 k_L580 ?_
  obtain ⟨z1_7, hz1_7⟩ := k_fnE (i := 7) I.2.2.1 I.2.2.2.2.1 k_sh12 (by decide)
  refine k_pub C I (a := 132) (idx := 54) (M := k_M132) (ct := k_c132_0) rfl k_pm132_0 rfl (k_in 3 219 rfl rfl) (by decide +kernel) (x := a1) (As := [.int (xs (i + 1))]) (rest := []) [(a1 : Int), ((xs (i + 1))).toInt, z1_7] (k_preC 0 rfl (by decide +kernel) ⟨k_aR I.2.2.2.2.1, k_aI _, trivial⟩ ⟨k_fnC (b := 0) hz1_7 rfl rfl, trivial⟩) (Nat.le_of_ble_eq_true rfl) k_L581 hc0 hs0 hl.1 (fun rv1 rs1 w1 H1 lo1 hv1 hp1 I1 => ?_)
  obtain ⟨r1, rfl, rfl⟩ := hv1
  have hR := k_RK hp1.1 (by decide +kernel) (by decide +kernel) hR
  refine lv_pop C.1 C.2.1 k_L584 rfl ?_
  refine lv_aload_n C.1 C.2.1 k_L585 rfl (lv_at hl 2 rfl) ?_
  refine k_arg C I1 hl (k := 1) (by omega) k_L586 k_L587 k_L588 (by decide) k_L589 k_L590 ?_
  obtain ⟨z2_8, hz2_8⟩ := k_fnE (i := 8) I1.2.2.1 I1.2.2.2.2.2.1 k_sh13 (by decide)
  refine k_pub C I1 (a := 250) (idx := 58) (M := k_M250) (ct := k_c250_0) rfl k_pm250_0 rfl (k_in 8 59 rfl rfl) (by decide +kernel) (x := a2) (As := [.int (xs (i + 1))]) (rest := []) [(a2 : Int), ((xs (i + 1))).toInt, 0, z2_8] (k_preC 3 rfl (by decide +kernel) ⟨k_aR I1.2.2.2.2.2.1, k_aI _, trivial⟩ ⟨k_ghc I1.2.2.2.2.2.2 rfl, k_fnC (b := 0) hz2_8 rfl rfl, trivial⟩) (Nat.le_of_ble_eq_true rfl) k_L591 hc0 hs0 hl.1 (fun rv2 rs2 w2 H2 lo2 hv2 hp2 I2 => ?_)
  obtain ⟨r2, rfl, rfl⟩ := hv2
  have hR := k_RK hp2.1 (by decide +kernel) (by decide +kernel) hR
  refine lv_pop C.1 C.2.1 k_L594 rfl ?_
  refine lv_goto C.1 C.2.1 k_L595 (tgt := 1990) (by decide) ?_
  exact W.widen (Nat.le_add_right _ _) (Nat.le_add_right _ _) (kk _ _ _ ⟨I2, hR⟩)
theorem k_case9 {p : Program} {l : Launch} {e : Env} {s : State} {m : MethodId} {below : List Frame} {meth : Method} {c : Code} {Q : State → Prop} {b L : Nat} {xs : Nat → Int32} {D : va_G} {dA : Nat → ClassId} {a1 a2 i cells slots : Nat} {ls : Array Slot} {w : cWld} {H : Heap} {locs : List Loc} (C : k_Cx p s m c b L xs D dA) (I : k_In s D dA a1 a2 w H locs ∧ k_R a1 a2 w) (hl : lv_has ls 4 (k_lv b a1 a2 i)) (hi : i + 7 ≤ L) (hcb : cells + 26 ≤ 600000) (hsb : slots + 1584 ≤ 7302250)
    (kk : ∀ (w : cWld) (H : Heap) (locs : List Loc), k_In s D dA a1 a2 w H locs ∧ k_R a1 a2 w → W p l e room_1 s m #[Value.ref b] below meth c H locs (cells + 26) (slots + 1584) Q (F0 m 1990 ls [])) : W p l e room_1 s m #[Value.ref b] below meth c H locs cells slots Q (F0 m 598 ls []) := by
  have hc0 : cells ≤ 600000 := by omega
  have hs0 : slots ≤ 7302250 := by omega
  have hc1 := hcb
  have hs1 := hsb
  obtain ⟨I, hR⟩ := I
  refine lv_aload_n C.1 C.2.1 k_L598 rfl (lv_at hl 1 rfl) ?_
  refine k_arg C I hl (k := 1) (by omega) k_L599 k_L600 k_L601 (by decide) k_L602 k_L603 ?_
  refine k_pub C I (a := 133) (idx := 59) (M := k_M133) (ct := k_c133_0) rfl k_pm133_0 rfl (k_in 4 128 rfl rfl) (by decide +kernel) (x := a1) (As := [.int (xs (i + 1))]) (rest := []) [(a1 : Int), ((xs (i + 1))).toInt] (k_preC 0 rfl (by decide +kernel) ⟨k_aR I.2.2.2.2.1, k_aI _, trivial⟩ trivial) (Nat.le_of_ble_eq_true rfl) k_L604 hc0 hs0 hl.1 (fun rv1 rs1 w1 H1 lo1 hv1 hp1 I1 => ?_)
  obtain ⟨r1, rfl, rfl⟩ := hv1
  have hR := k_RK hp1.1 (by decide +kernel) (by decide +kernel) hR
  refine lv_pop C.1 C.2.1 k_L607 rfl ?_
  refine lv_aload_n C.1 C.2.1 k_L608 rfl (lv_at hl 2 rfl) ?_
  refine k_arg C I1 hl (k := 1) (by omega) k_L609 k_L610 k_L611 (by decide) k_L612 k_L613 ?_
  refine k_pub C I1 (a := 251) (idx := 62) (M := k_M251) (ct := k_c251_0) rfl k_pm251_0 rfl (k_in 8 180 rfl rfl) (by decide +kernel) (x := a2) (As := [.int (xs (i + 1))]) (rest := []) [(a2 : Int), ((xs (i + 1))).toInt] (k_preC 0 rfl (by decide +kernel) ⟨k_aR I1.2.2.2.2.2.1, k_aI _, trivial⟩ trivial) (Nat.le_of_ble_eq_true rfl) k_L614 hc0 hs0 hl.1 (fun rv2 rs2 w2 H2 lo2 hv2 hp2 I2 => ?_)
  obtain ⟨r2, rfl, rfl⟩ := hv2
  have hR := k_RK hp2.1 (by decide +kernel) (by decide +kernel) hR
  refine lv_pop C.1 C.2.1 k_L617 rfl ?_
  refine lv_goto C.1 C.2.1 k_L618 (tgt := 1990) (by decide) ?_
  exact W.widen (Nat.le_add_right _ _) (Nat.le_add_right _ _) (kk _ _ _ ⟨I2, hR⟩)
theorem k_case10 {p : Program} {l : Launch} {e : Env} {s : State} {m : MethodId} {below : List Frame} {meth : Method} {c : Code} {Q : State → Prop} {b L : Nat} {xs : Nat → Int32} {D : va_G} {dA : Nat → ClassId} {a1 a2 i cells slots : Nat} {ls : Array Slot} {w : cWld} {H : Heap} {locs : List Loc} (C : k_Cx p s m c b L xs D dA) (I : k_In s D dA a1 a2 w H locs ∧ k_R a1 a2 w) (hl : lv_has ls 4 (k_lv b a1 a2 i)) (hi : i + 7 ≤ L) (hcb : cells + 26 ≤ 600000) (hsb : slots + 1584 ≤ 7302250)
    (kk : ∀ (w : cWld) (H : Heap) (locs : List Loc), k_In s D dA a1 a2 w H locs ∧ k_R a1 a2 w → W p l e room_1 s m #[Value.ref b] below meth c H locs (cells + 26) (slots + 1584) Q (F0 m 1990 ls [])) : W p l e room_1 s m #[Value.ref b] below meth c H locs cells slots Q (F0 m 621 ls []) := by
  have hc0 : cells ≤ 600000 := by omega
  have hs0 : slots ≤ 7302250 := by omega
  have hc1 := hcb
  have hs1 := hsb
  obtain ⟨I, hR⟩ := I
  refine lv_aload_n C.1 C.2.1 k_L621 rfl (lv_at hl 1 rfl) ?_
  refine k_arg C I hl (k := 1) (by omega) k_L622 k_L623 k_L624 (by decide) k_L625 k_L626 ?_
  refine k_pub C I (a := 134) (idx := 63) (M := k_M134) (ct := k_c134_0) rfl k_pm134_0 rfl (k_in 4 132 rfl rfl) (by decide +kernel) (x := a1) (As := [.int (xs (i + 1))]) (rest := []) [(a1 : Int), ((xs (i + 1))).toInt] (k_preC 0 rfl (by decide +kernel) ⟨k_aR I.2.2.2.2.1, k_aI _, trivial⟩ trivial) (Nat.le_of_ble_eq_true rfl) k_L627 hc0 hs0 hl.1 (fun rv1 rs1 w1 H1 lo1 hv1 hp1 I1 => ?_)
  obtain ⟨r1, rfl, rfl⟩ := hv1
  have hR := k_RK hp1.1 (by decide +kernel) (by decide +kernel) hR
  refine lv_pop C.1 C.2.1 k_L630 rfl ?_
  refine lv_aload_n C.1 C.2.1 k_L631 rfl (lv_at hl 2 rfl) ?_
  refine k_arg C I1 hl (k := 1) (by omega) k_L632 k_L633 k_L634 (by decide) k_L635 k_L636 ?_
  refine k_pub C I1 (a := 257) (idx := 66) (M := k_M257) (ct := k_c257_0) rfl k_pm257_0 rfl (k_in 8 184 rfl rfl) (by decide +kernel) (x := a2) (As := [.int (xs (i + 1))]) (rest := []) [(a2 : Int), ((xs (i + 1))).toInt] (k_preC 0 rfl (by decide +kernel) ⟨k_aR I1.2.2.2.2.2.1, k_aI _, trivial⟩ trivial) (Nat.le_of_ble_eq_true rfl) k_L637 hc0 hs0 hl.1 (fun rv2 rs2 w2 H2 lo2 hv2 hp2 I2 => ?_)
  obtain ⟨r2, rfl, rfl⟩ := hv2
  have hR := k_RK hp2.1 (by decide +kernel) (by decide +kernel) hR
  refine lv_pop C.1 C.2.1 k_L640 rfl ?_
  refine lv_goto C.1 C.2.1 k_L641 (tgt := 1990) (by decide) ?_
  exact W.widen (Nat.le_add_right _ _) (Nat.le_add_right _ _) (kk _ _ _ ⟨I2, hR⟩)
theorem k_case11 {p : Program} {l : Launch} {e : Env} {s : State} {m : MethodId} {below : List Frame} {meth : Method} {c : Code} {Q : State → Prop} {b L : Nat} {xs : Nat → Int32} {D : va_G} {dA : Nat → ClassId} {a1 a2 i cells slots : Nat} {ls : Array Slot} {w : cWld} {H : Heap} {locs : List Loc} (C : k_Cx p s m c b L xs D dA) (I : k_In s D dA a1 a2 w H locs ∧ k_R a1 a2 w) (hl : lv_has ls 4 (k_lv b a1 a2 i)) (hi : i + 7 ≤ L) (hcb : cells + 26 ≤ 600000) (hsb : slots + 1584 ≤ 7302250)
    (kk : ∀ (w : cWld) (H : Heap) (locs : List Loc), k_In s D dA a1 a2 w H locs ∧ k_R a1 a2 w → W p l e room_1 s m #[Value.ref b] below meth c H locs (cells + 26) (slots + 1584) Q (F0 m 1990 ls [])) : W p l e room_1 s m #[Value.ref b] below meth c H locs cells slots Q (F0 m 644 ls []) := by
  have hc0 : cells ≤ 600000 := by omega
  have hs0 : slots ≤ 7302250 := by omega
  have hc1 := hcb
  have hs1 := hsb
  obtain ⟨I, hR⟩ := I
  refine lv_aload_n C.1 C.2.1 k_L644 rfl (lv_at hl 1 rfl) ?_
  refine k_arg C I hl (k := 1) (by omega) k_L645 k_L646 k_L647 (by decide) k_L648 k_L649 ?_
  refine k_arg C I hl (k := 2) (by omega) k_L650 k_L651 k_L652 (by decide) k_L653 k_L654 ?_
  refine k_pub C I (a := 143) (idx := 67) (M := k_M143) (ct := k_c143_0) rfl k_pm143_0 rfl (k_in 4 136 rfl rfl) (by decide +kernel) (x := a1) (As := [.int (xs (i + 1)), .int (xs (i + 2))]) (rest := []) [(a1 : Int), ((xs (i + 1))).toInt, ((xs (i + 2))).toInt] (k_preC 0 rfl (by decide +kernel) ⟨k_aR I.2.2.2.2.1, k_aI _, k_aI _, trivial⟩ trivial) (Nat.le_of_ble_eq_true rfl) k_L655 hc0 hs0 hl.1 (fun rv1 rs1 w1 H1 lo1 hv1 hp1 I1 => ?_)
  obtain ⟨r1, rfl, rfl⟩ := hv1
  have hR := k_RK hp1.1 (by decide +kernel) (by decide +kernel) hR
  refine lv_pop C.1 C.2.1 k_L658 rfl ?_
  refine lv_aload_n C.1 C.2.1 k_L659 rfl (lv_at hl 2 rfl) ?_
  refine k_arg C I1 hl (k := 1) (by omega) k_L660 k_L661 k_L662 (by decide) k_L663 k_L664 ?_
  refine k_arg C I1 hl (k := 2) (by omega) k_L665 k_L666 k_L667 (by decide) k_L668 k_L669 ?_
  refine k_pub C I1 (a := 258) (idx := 71) (M := k_M258) (ct := k_c258_0) rfl k_pm258_0 rfl (k_in 8 193 rfl rfl) (by decide +kernel) (x := a2) (As := [.int (xs (i + 1)), .int (xs (i + 2))]) (rest := []) [(a2 : Int), ((xs (i + 1))).toInt, ((xs (i + 2))).toInt] (k_preC 0 rfl (by decide +kernel) ⟨k_aR I1.2.2.2.2.2.1, k_aI _, k_aI _, trivial⟩ trivial) (Nat.le_of_ble_eq_true rfl) k_L670 hc0 hs0 hl.1 (fun rv2 rs2 w2 H2 lo2 hv2 hp2 I2 => ?_)
  obtain ⟨r2, rfl, rfl⟩ := hv2
  have hR := k_RK hp2.1 (by decide +kernel) (by decide +kernel) hR
  refine lv_pop C.1 C.2.1 k_L673 rfl ?_
  refine lv_goto C.1 C.2.1 k_L674 (tgt := 1990) (by decide) ?_
  exact W.widen (Nat.le_add_right _ _) (Nat.le_add_right _ _) (kk _ _ _ ⟨I2, hR⟩)
theorem k_case12 {p : Program} {l : Launch} {e : Env} {s : State} {m : MethodId} {below : List Frame} {meth : Method} {c : Code} {Q : State → Prop} {b L : Nat} {xs : Nat → Int32} {D : va_G} {dA : Nat → ClassId} {a1 a2 i cells slots : Nat} {ls : Array Slot} {w : cWld} {H : Heap} {locs : List Loc} (C : k_Cx p s m c b L xs D dA) (I : k_In s D dA a1 a2 w H locs ∧ k_R a1 a2 w) (hl : lv_has ls 4 (k_lv b a1 a2 i)) (hi : i + 7 ≤ L) (hcb : cells + 26 ≤ 600000) (hsb : slots + 1584 ≤ 7302250)
    (kk : ∀ (w : cWld) (H : Heap) (locs : List Loc), k_In s D dA a1 a2 w H locs ∧ k_R a1 a2 w → W p l e room_1 s m #[Value.ref b] below meth c H locs (cells + 26) (slots + 1584) Q (F0 m 1990 ls [])) : W p l e room_1 s m #[Value.ref b] below meth c H locs cells slots Q (F0 m 677 ls []) := by
  have hc0 : cells ≤ 600000 := by omega
  have hs0 : slots ≤ 7302250 := by omega
  have hc1 := hcb
  have hs1 := hsb
  obtain ⟨I, hR⟩ := I
  refine lv_aload_n C.1 C.2.1 k_L677 rfl (lv_at hl 1 rfl) ?_
  refine k_arg C I hl (k := 1) (by omega) k_L678 k_L679 k_L680 (by decide) k_L681 k_L682 ?_
  refine k_arg C I hl (k := 2) (by omega) k_L683 k_L684 k_L685 (by decide) k_L686 k_L687 ?_
  refine k_arg C I hl (k := 3) (by omega) k_L688 k_L689 k_L690 (by decide) k_L691 k_L692 ?_
  refine k_arg C I hl (k := 4) (by omega) k_L693 k_L694 k_L695 (by decide) k_L696 k_L697 ?_
  refine k_arg C I hl (k := 5) (by omega) k_L698 k_L699 k_L700 (by decide) k_L701 k_L702 ?_
  refine k_argB C I hl (k := 6) (by omega) k_L703 k_L704 k_L705 (by decide) k_L707 k_L708 ?_
  refine k_pub C I (a := 144) (idx := 72) (M := k_M144) (ct := k_c144_0) rfl k_pm144_0 rfl (k_in 4 144 rfl rfl) (by decide +kernel) (x := a1) (As := [.int (xs (i + 1)), .int (xs (i + 2)), .int (xs (i + 3)), .int (xs (i + 4)), .int (xs (i + 5)), .int (xs (i + 6))]) (rest := []) [(a1 : Int), ((xs (i + 1))).toInt, ((xs (i + 2))).toInt, ((xs (i + 3))).toInt, ((xs (i + 4))).toInt, ((xs (i + 5))).toInt, ((xs (i + 6))).toInt] (k_preC 0 rfl (by decide +kernel) ⟨k_aR I.2.2.2.2.1, k_aI _, k_aI _, k_aI _, k_aI _, k_aI _, k_aI _, trivial⟩ trivial) (Nat.le_of_ble_eq_true rfl) k_L709 hc0 hs0 hl.1 (fun rv1 rs1 w1 H1 lo1 hv1 hp1 I1 => ?_)
  obtain ⟨r1, rfl, rfl⟩ := hv1
  have hR := k_RK hp1.1 (by decide +kernel) (by decide +kernel) hR
  refine lv_pop C.1 C.2.1 k_L712 rfl ?_
  refine lv_aload_n C.1 C.2.1 k_L713 rfl (lv_at hl 2 rfl) ?_
  refine k_arg C I1 hl (k := 1) (by omega) k_L714 k_L715 k_L716 (by decide) k_L717 k_L718 ?_
  refine k_arg C I1 hl (k := 2) (by omega) k_L719 k_L720 k_L721 (by decide) k_L722 k_L723 ?_
  refine k_arg C I1 hl (k := 3) (by omega) k_L724 k_L725 k_L726 (by decide) k_L727 k_L728 ?_
  refine k_arg C I1 hl (k := 4) (by omega) k_L729 k_L730 k_L731 (by decide) k_L732 k_L733 ?_
  refine k_arg C I1 hl (k := 5) (by omega) k_L734 k_L735 k_L736 (by decide) k_L737 k_L738 ?_
  refine k_argB C I1 hl (k := 6) (by omega) k_L739 k_L740 k_L741 (by decide) k_L743 k_L744 ?_
  refine k_pub C I1 (a := 262) (idx := 76) (M := k_M262) (ct := k_c262_0) rfl k_pm262_0 rfl (k_in 8 201 rfl rfl) (by decide +kernel) (x := a2) (As := [.int (xs (i + 1)), .int (xs (i + 2)), .int (xs (i + 3)), .int (xs (i + 4)), .int (xs (i + 5)), .int (xs (i + 6))]) (rest := []) [(a2 : Int), ((xs (i + 1))).toInt, ((xs (i + 2))).toInt, ((xs (i + 3))).toInt, ((xs (i + 4))).toInt, ((xs (i + 5))).toInt, ((xs (i + 6))).toInt, 0] (k_preC 8 rfl (by decide +kernel) ⟨k_aR I1.2.2.2.2.2.1, k_aI _, k_aI _, k_aI _, k_aI _, k_aI _, k_aI _, trivial⟩ ⟨k_ghc I1.2.2.2.2.2.2 rfl, trivial⟩) (Nat.le_of_ble_eq_true rfl) k_L745 hc0 hs0 hl.1 (fun rv2 rs2 w2 H2 lo2 hv2 hp2 I2 => ?_)
  obtain ⟨r2, rfl, rfl⟩ := hv2
  have hR := k_RK hp2.1 (by decide +kernel) (by decide +kernel) hR
  refine lv_pop C.1 C.2.1 k_L748 rfl ?_
  refine lv_goto C.1 C.2.1 k_L749 (tgt := 1990) (by decide) ?_
  exact W.widen (Nat.le_add_right _ _) (Nat.le_add_right _ _) (kk _ _ _ ⟨I2, hR⟩)
theorem k_case13 {p : Program} {l : Launch} {e : Env} {s : State} {m : MethodId} {below : List Frame} {meth : Method} {c : Code} {Q : State → Prop} {b L : Nat} {xs : Nat → Int32} {D : va_G} {dA : Nat → ClassId} {a1 a2 i cells slots : Nat} {ls : Array Slot} {w : cWld} {H : Heap} {locs : List Loc} (C : k_Cx p s m c b L xs D dA) (I : k_In s D dA a1 a2 w H locs ∧ k_R a1 a2 w) (hl : lv_has ls 4 (k_lv b a1 a2 i)) (hi : i + 7 ≤ L) (hcb : cells + 26 ≤ 600000) (hsb : slots + 1584 ≤ 7302250)
    (kk : ∀ (w : cWld) (H : Heap) (locs : List Loc), k_In s D dA a1 a2 w H locs ∧ k_R a1 a2 w → W p l e room_1 s m #[Value.ref b] below meth c H locs (cells + 26) (slots + 1584) Q (F0 m 1990 ls [])) : W p l e room_1 s m #[Value.ref b] below meth c H locs cells slots Q (F0 m 752 ls []) := by
  have hc0 : cells ≤ 600000 := by omega
  have hs0 : slots ≤ 7302250 := by omega
  have hc1 := hcb
  have hs1 := hsb
  obtain ⟨I, hR⟩ := I
  refine lv_aload_n C.1 C.2.1 k_L752 rfl (lv_at hl 1 rfl) ?_
  refine k_arg C I hl (k := 1) (by omega) k_L753 k_L754 k_L755 (by decide) k_L756 k_L757 ?_
  refine k_pub C I (a := 145) (idx := 77) (M := k_M145) (ct := k_c145_0) rfl k_pm145_0 rfl (k_in 4 182 rfl rfl) (by decide +kernel) (x := a1) (As := [.int (xs (i + 1))]) (rest := []) [(a1 : Int), ((xs (i + 1))).toInt] (k_preC 0 rfl (by decide +kernel) ⟨k_aR I.2.2.2.2.1, k_aI _, trivial⟩ trivial) (Nat.le_of_ble_eq_true rfl) k_L758 hc0 hs0 hl.1 (fun rv1 rs1 w1 H1 lo1 hv1 hp1 I1 => ?_)
  obtain ⟨r1, rfl, rfl⟩ := hv1
  have hR := k_RK hp1.1 (by decide +kernel) (by decide +kernel) hR
  refine lv_pop C.1 C.2.1 k_L761 rfl ?_
  refine lv_aload_n C.1 C.2.1 k_L762 rfl (lv_at hl 2 rfl) ?_
  refine k_arg C I1 hl (k := 1) (by omega) k_L763 k_L764 k_L765 (by decide) k_L766 k_L767 ?_
  refine k_pub C I1 (a := 264) (idx := 80) (M := k_M264) (ct := k_c264_0) rfl k_pm264_0 rfl (k_in 8 234 rfl rfl) (by decide +kernel) (x := a2) (As := [.int (xs (i + 1))]) (rest := []) [(a2 : Int), ((xs (i + 1))).toInt] (k_preC 0 rfl (by decide +kernel) ⟨k_aR I1.2.2.2.2.2.1, k_aI _, trivial⟩ trivial) (Nat.le_of_ble_eq_true rfl) k_L768 hc0 hs0 hl.1 (fun rv2 rs2 w2 H2 lo2 hv2 hp2 I2 => ?_)
  obtain ⟨r2, rfl, rfl⟩ := hv2
  have hR := k_RK hp2.1 (by decide +kernel) (by decide +kernel) hR
  refine lv_pop C.1 C.2.1 k_L771 rfl ?_
  refine lv_goto C.1 C.2.1 k_L772 (tgt := 1990) (by decide) ?_
  exact W.widen (Nat.le_add_right _ _) (Nat.le_add_right _ _) (kk _ _ _ ⟨I2, hR⟩)
theorem k_case14 {p : Program} {l : Launch} {e : Env} {s : State} {m : MethodId} {below : List Frame} {meth : Method} {c : Code} {Q : State → Prop} {b L : Nat} {xs : Nat → Int32} {D : va_G} {dA : Nat → ClassId} {a1 a2 i cells slots : Nat} {ls : Array Slot} {w : cWld} {H : Heap} {locs : List Loc} (C : k_Cx p s m c b L xs D dA) (I : k_In s D dA a1 a2 w H locs ∧ k_R a1 a2 w) (hl : lv_has ls 4 (k_lv b a1 a2 i)) (hi : i + 7 ≤ L) (hcb : cells + 26 ≤ 600000) (hsb : slots + 1584 ≤ 7302250)
    (kk : ∀ (w : cWld) (H : Heap) (locs : List Loc), k_In s D dA a1 a2 w H locs ∧ k_R a1 a2 w → W p l e room_1 s m #[Value.ref b] below meth c H locs (cells + 26) (slots + 1584) Q (F0 m 1990 ls [])) : W p l e room_1 s m #[Value.ref b] below meth c H locs cells slots Q (F0 m 775 ls []) := by
  have hc0 : cells ≤ 600000 := by omega
  have hs0 : slots ≤ 7302250 := by omega
  have hc1 := hcb
  have hs1 := hsb
  obtain ⟨I, hR⟩ := I
  refine lv_aload_n C.1 C.2.1 k_L775 rfl (lv_at hl 1 rfl) ?_
  refine k_arg C I hl (k := 1) (by omega) k_L776 k_L777 k_L778 (by decide) k_L779 k_L780 ?_
  refine k_arg C I hl (k := 2) (by omega) k_L781 k_L782 k_L783 (by decide) k_L784 k_L785 ?_
  refine k_pub C I (a := 146) (idx := 81) (M := k_M146) (ct := k_c146_0) rfl k_pm146_0 rfl (k_in 4 203 rfl rfl) (by decide +kernel) (x := a1) (As := [.int (xs (i + 1)), .int (xs (i + 2))]) (rest := []) [(a1 : Int), ((xs (i + 1))).toInt, ((xs (i + 2))).toInt] (k_preC 0 rfl (by decide +kernel) ⟨k_aR I.2.2.2.2.1, k_aI _, k_aI _, trivial⟩ trivial) (Nat.le_of_ble_eq_true rfl) k_L786 hc0 hs0 hl.1 (fun rv1 rs1 w1 H1 lo1 hv1 hp1 I1 => ?_)
  obtain ⟨r1, rfl, rfl⟩ := hv1
  have hR := k_RK hp1.1 (by decide +kernel) (by decide +kernel) hR
  refine lv_pop C.1 C.2.1 k_L789 rfl ?_
  refine lv_aload_n C.1 C.2.1 k_L790 rfl (lv_at hl 2 rfl) ?_
  refine k_arg C I1 hl (k := 1) (by omega) k_L791 k_L792 k_L793 (by decide) k_L794 k_L795 ?_
  refine k_arg C I1 hl (k := 2) (by omega) k_L796 k_L797 k_L798 (by decide) k_L799 k_L800 ?_
  refine k_pub C I1 (a := 265) (idx := 84) (M := k_M265) (ct := k_c265_0) rfl k_pm265_0 rfl (k_in 9 10 rfl rfl) (by decide +kernel) (x := a2) (As := [.int (xs (i + 1)), .int (xs (i + 2))]) (rest := []) [(a2 : Int), ((xs (i + 1))).toInt, ((xs (i + 2))).toInt] (k_preC 0 rfl (by decide +kernel) ⟨k_aR I1.2.2.2.2.2.1, k_aI _, k_aI _, trivial⟩ trivial) (Nat.le_of_ble_eq_true rfl) k_L801 hc0 hs0 hl.1 (fun rv2 rs2 w2 H2 lo2 hv2 hp2 I2 => ?_)
  obtain ⟨r2, rfl, rfl⟩ := hv2
  have hR := k_RK hp2.1 (by decide +kernel) (by decide +kernel) hR
  refine lv_pop C.1 C.2.1 k_L804 rfl ?_
  refine lv_goto C.1 C.2.1 k_L805 (tgt := 1990) (by decide) ?_
  exact W.widen (Nat.le_add_right _ _) (Nat.le_add_right _ _) (kk _ _ _ ⟨I2, hR⟩)
theorem k_case15 {p : Program} {l : Launch} {e : Env} {s : State} {m : MethodId} {below : List Frame} {meth : Method} {c : Code} {Q : State → Prop} {b L : Nat} {xs : Nat → Int32} {D : va_G} {dA : Nat → ClassId} {a1 a2 i cells slots : Nat} {ls : Array Slot} {w : cWld} {H : Heap} {locs : List Loc} (C : k_Cx p s m c b L xs D dA) (I : k_In s D dA a1 a2 w H locs ∧ k_R a1 a2 w) (hl : lv_has ls 4 (k_lv b a1 a2 i)) (hi : i + 7 ≤ L) (hcb : cells + 26 ≤ 600000) (hsb : slots + 1584 ≤ 7302250)
    (kk : ∀ (w : cWld) (H : Heap) (locs : List Loc), k_In s D dA a1 a2 w H locs ∧ k_R a1 a2 w → W p l e room_1 s m #[Value.ref b] below meth c H locs (cells + 26) (slots + 1584) Q (F0 m 1990 ls [])) : W p l e room_1 s m #[Value.ref b] below meth c H locs cells slots Q (F0 m 808 ls []) := by
  have hc0 : cells ≤ 600000 := by omega
  have hs0 : slots ≤ 7302250 := by omega
  have hc1 := hcb
  have hs1 := hsb
  obtain ⟨I, hR⟩ := I
  refine lv_aload_n C.1 C.2.1 k_L808 rfl (lv_at hl 1 rfl) ?_
  refine k_arg C I hl (k := 1) (by omega) k_L809 k_L810 k_L811 (by decide) k_L812 k_L813 ?_
  refine k_arg C I hl (k := 2) (by omega) k_L814 k_L815 k_L816 (by decide) k_L817 k_L818 ?_
  refine k_bool C k_L819 k_L822 k_L823 k_L826 (fun z1 hz1 => ?_)
  refine k_arg C I hl (k := 3) (by omega) k_L827 k_L828 k_L829 (by decide) k_L830 k_L831 ?_
  refine k_pub C I (a := 147) (idx := 85) (M := k_M147) (ct := k_c147_0) rfl k_pm147_0 rfl (k_in 4 216 rfl rfl) (by decide +kernel) (x := a1) (As := [.int (xs (i + 1)), .int z1, .int (xs (i + 3))]) (rest := []) [(a1 : Int), ((xs (i + 1))).toInt, (z1).toInt, ((xs (i + 3))).toInt] (k_preC 0 rfl (by decide +kernel) ⟨k_aR I.2.2.2.2.1, k_aI _, k_aZ hz1, k_aI _, trivial⟩ trivial) (Nat.le_of_ble_eq_true rfl) k_L832 hc0 hs0 hl.1 (fun rv1 rs1 w1 H1 lo1 hv1 hp1 I1 => ?_)
  obtain ⟨r1, rfl, rfl, -, -⟩ := hv1
  have hR := k_RK hp1.1 (by decide +kernel) (by decide +kernel) hR
  refine lv_pop C.1 C.2.1 k_L835 rfl ?_
  refine lv_aload_n C.1 C.2.1 k_L836 rfl (lv_at hl 2 rfl) ?_
  refine k_arg C I1 hl (k := 1) (by omega) k_L837 k_L838 k_L839 (by decide) k_L840 k_L841 ?_
  refine k_arg C I1 hl (k := 2) (by omega) k_L842 k_L843 k_L844 (by decide) k_L845 k_L846 ?_
  refine k_bool C k_L847 k_L850 k_L851 k_L854 (fun z2 hz2 => ?_)
  refine k_arg C I1 hl (k := 3) (by omega) k_L855 k_L856 k_L857 (by decide) k_L858 k_L859 ?_
  refine k_pub C I1 (a := 266) (idx := 89) (M := k_M266) (ct := k_c266_0) rfl k_pm266_0 rfl (k_in 9 19 rfl rfl) (by decide +kernel) (x := a2) (As := [.int (xs (i + 1)), .int z2, .int (xs (i + 3))]) (rest := []) [(a2 : Int), ((xs (i + 1))).toInt, (z2).toInt, ((xs (i + 3))).toInt] (k_preC 0 rfl (by decide +kernel) ⟨k_aR I1.2.2.2.2.2.1, k_aI _, k_aZ hz2, k_aI _, trivial⟩ trivial) (Nat.le_of_ble_eq_true rfl) k_L860 hc0 hs0 hl.1 (fun rv2 rs2 w2 H2 lo2 hv2 hp2 I2 => ?_)
  obtain ⟨r2, rfl, rfl, -, -⟩ := hv2
  have hR := k_RK hp2.1 (by decide +kernel) (by decide +kernel) hR
  refine lv_pop C.1 C.2.1 k_L863 rfl ?_
  refine lv_goto C.1 C.2.1 k_L864 (tgt := 1990) (by decide) ?_
  exact W.widen (Nat.le_add_right _ _) (Nat.le_add_right _ _) (kk _ _ _ ⟨I2, hR⟩)
theorem k_case16 {p : Program} {l : Launch} {e : Env} {s : State} {m : MethodId} {below : List Frame} {meth : Method} {c : Code} {Q : State → Prop} {b L : Nat} {xs : Nat → Int32} {D : va_G} {dA : Nat → ClassId} {a1 a2 i cells slots : Nat} {ls : Array Slot} {w : cWld} {H : Heap} {locs : List Loc} (C : k_Cx p s m c b L xs D dA) (I : k_In s D dA a1 a2 w H locs ∧ k_R a1 a2 w) (hl : lv_has ls 4 (k_lv b a1 a2 i)) (hi : i + 7 ≤ L) (hcb : cells + 26 ≤ 600000) (hsb : slots + 1584 ≤ 7302250)
    (kk : ∀ (w : cWld) (H : Heap) (locs : List Loc), k_In s D dA a1 a2 w H locs ∧ k_R a1 a2 w → W p l e room_1 s m #[Value.ref b] below meth c H locs (cells + 26) (slots + 1584) Q (F0 m 1990 ls [])) : W p l e room_1 s m #[Value.ref b] below meth c H locs cells slots Q (F0 m 867 ls []) := by
  have hc0 : cells ≤ 600000 := by omega
  have hs0 : slots ≤ 7302250 := by omega
  have hc1 := hcb
  have hs1 := hsb
  obtain ⟨I, hR⟩ := I
  refine lv_aload_n C.1 C.2.1 k_L867 rfl (lv_at hl 1 rfl) ?_
  refine k_arg C I hl (k := 1) (by omega) k_L868 k_L869 k_L870 (by decide) k_L871 k_L872 ?_
  refine k_pub C I (a := 148) (idx := 90) (M := k_M148) (ct := k_c148_0) rfl k_pm148_0 rfl (k_in 4 222 rfl rfl) (by decide +kernel) (x := a1) (As := [.int (xs (i + 1))]) (rest := []) [(a1 : Int), ((xs (i + 1))).toInt] (k_preC 0 rfl (by decide +kernel) ⟨k_aR I.2.2.2.2.1, k_aI _, trivial⟩ trivial) (Nat.le_of_ble_eq_true rfl) k_L873 hc0 hs0 hl.1 (fun rv1 rs1 w1 H1 lo1 hv1 hp1 I1 => ?_)
  obtain ⟨r1, rfl, rfl, -, -⟩ := hv1
  have hR := k_RK hp1.1 (by decide +kernel) (by decide +kernel) hR
  refine lv_pop C.1 C.2.1 k_L876 rfl ?_
  refine lv_aload_n C.1 C.2.1 k_L877 rfl (lv_at hl 2 rfl) ?_
  refine k_arg C I1 hl (k := 1) (by omega) k_L878 k_L879 k_L880 (by decide) k_L881 k_L882 ?_
  refine k_pub C I1 (a := 267) (idx := 94) (M := k_M267) (ct := k_c267_0) rfl k_pm267_0 rfl (k_in 9 23 rfl rfl) (by decide +kernel) (x := a2) (As := [.int (xs (i + 1))]) (rest := []) [(a2 : Int), ((xs (i + 1))).toInt] (k_preC 0 rfl (by decide +kernel) ⟨k_aR I1.2.2.2.2.2.1, k_aI _, trivial⟩ trivial) (Nat.le_of_ble_eq_true rfl) k_L883 hc0 hs0 hl.1 (fun rv2 rs2 w2 H2 lo2 hv2 hp2 I2 => ?_)
  obtain ⟨r2, rfl, rfl, -, -⟩ := hv2
  have hR := k_RK hp2.1 (by decide +kernel) (by decide +kernel) hR
  refine lv_pop C.1 C.2.1 k_L886 rfl ?_
  refine lv_goto C.1 C.2.1 k_L887 (tgt := 1990) (by decide) ?_
  exact W.widen (Nat.le_add_right _ _) (Nat.le_add_right _ _) (kk _ _ _ ⟨I2, hR⟩)
theorem k_case17 {p : Program} {l : Launch} {e : Env} {s : State} {m : MethodId} {below : List Frame} {meth : Method} {c : Code} {Q : State → Prop} {b L : Nat} {xs : Nat → Int32} {D : va_G} {dA : Nat → ClassId} {a1 a2 i cells slots : Nat} {ls : Array Slot} {w : cWld} {H : Heap} {locs : List Loc} (C : k_Cx p s m c b L xs D dA) (I : k_In s D dA a1 a2 w H locs ∧ k_R a1 a2 w) (hl : lv_has ls 4 (k_lv b a1 a2 i)) (hi : i + 7 ≤ L) (hcb : cells + 26 ≤ 600000) (hsb : slots + 1584 ≤ 7302250)
    (kk : ∀ (w : cWld) (H : Heap) (locs : List Loc), k_In s D dA a1 a2 w H locs ∧ k_R a1 a2 w → W p l e room_1 s m #[Value.ref b] below meth c H locs (cells + 26) (slots + 1584) Q (F0 m 1990 ls [])) : W p l e room_1 s m #[Value.ref b] below meth c H locs cells slots Q (F0 m 890 ls []) := by
  have hc0 : cells ≤ 600000 := by omega
  have hs0 : slots ≤ 7302250 := by omega
  have hc1 := hcb
  have hs1 := hsb
  obtain ⟨I, hR⟩ := I
  refine lv_aload_n C.1 C.2.1 k_L890 rfl (lv_at hl 1 rfl) ?_
  refine k_arg C I hl (k := 1) (by omega) k_L891 k_L892 k_L893 (by decide) k_L894 k_L895 ?_
  refine k_arg C I hl (k := 2) (by omega) k_L896 k_L897 k_L898 (by decide) k_L899 k_L900 ?_
  refine k_pub C I (a := 149) (idx := 95) (M := k_M149) (ct := k_c149_0) rfl k_pm149_0 rfl (k_in 4 231 rfl rfl) (by decide +kernel) (x := a1) (As := [.int (xs (i + 1)), .int (xs (i + 2))]) (rest := []) [(a1 : Int), ((xs (i + 1))).toInt, ((xs (i + 2))).toInt] (k_preC 0 rfl (by decide +kernel) ⟨k_aR I.2.2.2.2.1, k_aI _, k_aI _, trivial⟩ trivial) (Nat.le_of_ble_eq_true rfl) k_L901 hc0 hs0 hl.1 (fun rv1 rs1 w1 H1 lo1 hv1 hp1 I1 => ?_)
  obtain ⟨r1, rfl, rfl, -, -⟩ := hv1
  have hR := k_RK hp1.1 (by decide +kernel) (by decide +kernel) hR
  refine lv_pop C.1 C.2.1 k_L904 rfl ?_
  refine lv_aload_n C.1 C.2.1 k_L905 rfl (lv_at hl 2 rfl) ?_
  refine k_arg C I1 hl (k := 1) (by omega) k_L906 k_L907 k_L908 (by decide) k_L909 k_L910 ?_
  refine k_arg C I1 hl (k := 2) (by omega) k_L911 k_L912 k_L913 (by decide) k_L914 k_L915 ?_
  refine k_pub C I1 (a := 268) (idx := 99) (M := k_M268) (ct := k_c268_0) rfl k_pm268_0 rfl (k_in 9 27 rfl rfl) (by decide +kernel) (x := a2) (As := [.int (xs (i + 1)), .int (xs (i + 2))]) (rest := []) [(a2 : Int), ((xs (i + 1))).toInt, ((xs (i + 2))).toInt] (k_preC 0 rfl (by decide +kernel) ⟨k_aR I1.2.2.2.2.2.1, k_aI _, k_aI _, trivial⟩ trivial) (Nat.le_of_ble_eq_true rfl) k_L916 hc0 hs0 hl.1 (fun rv2 rs2 w2 H2 lo2 hv2 hp2 I2 => ?_)
  obtain ⟨r2, rfl, rfl, -, -⟩ := hv2
  have hR := k_RK hp2.1 (by decide +kernel) (by decide +kernel) hR
  refine lv_pop C.1 C.2.1 k_L919 rfl ?_
  refine lv_goto C.1 C.2.1 k_L920 (tgt := 1990) (by decide) ?_
  exact W.widen (Nat.le_add_right _ _) (Nat.le_add_right _ _) (kk _ _ _ ⟨I2, hR⟩)
theorem k_case18 {p : Program} {l : Launch} {e : Env} {s : State} {m : MethodId} {below : List Frame} {meth : Method} {c : Code} {Q : State → Prop} {b L : Nat} {xs : Nat → Int32} {D : va_G} {dA : Nat → ClassId} {a1 a2 i cells slots : Nat} {ls : Array Slot} {w : cWld} {H : Heap} {locs : List Loc} (C : k_Cx p s m c b L xs D dA) (I : k_In s D dA a1 a2 w H locs ∧ k_R a1 a2 w) (hl : lv_has ls 4 (k_lv b a1 a2 i)) (hi : i + 7 ≤ L) (hcb : cells + 26 ≤ 600000) (hsb : slots + 1584 ≤ 7302250)
    (kk : ∀ (w : cWld) (H : Heap) (locs : List Loc), k_In s D dA a1 a2 w H locs ∧ k_R a1 a2 w → W p l e room_1 s m #[Value.ref b] below meth c H locs (cells + 26) (slots + 1584) Q (F0 m 1990 ls [])) : W p l e room_1 s m #[Value.ref b] below meth c H locs cells slots Q (F0 m 923 ls []) := by
  have hc0 : cells ≤ 600000 := by omega
  have hs0 : slots ≤ 7302250 := by omega
  have hc1 := hcb
  have hs1 := hsb
  obtain ⟨I, hR⟩ := I
  refine lv_aload_n C.1 C.2.1 k_L923 rfl (lv_at hl 1 rfl) ?_
  refine k_arg C I hl (k := 1) (by omega) k_L924 k_L925 k_L926 (by decide) k_L927 k_L928 ?_
  refine k_arg C I hl (k := 2) (by omega) k_L929 k_L930 k_L931 (by decide) k_L932 k_L933 ?_
  refine k_arg C I hl (k := 3) (by omega) k_L934 k_L935 k_L936 (by decide) k_L937 k_L938 ?_
  refine k_arg C I hl (k := 4) (by omega) k_L939 k_L940 k_L941 (by decide) k_L942 k_L943 ?_
  refine k_pub C I (a := 150) (idx := 100) (M := k_M150) (ct := k_c150_0) rfl k_pm150_0 rfl (k_in 4 235 rfl rfl) (by decide +kernel) (x := a1) (As := [.int (xs (i + 1)), .int (xs (i + 2)), .int (xs (i + 3)), .int (xs (i + 4))]) (rest := []) [(a1 : Int), ((xs (i + 1))).toInt, ((xs (i + 2))).toInt, ((xs (i + 3))).toInt, ((xs (i + 4))).toInt] (k_preC 0 rfl (by decide +kernel) ⟨k_aR I.2.2.2.2.1, k_aI _, k_aI _, k_aI _, k_aI _, trivial⟩ trivial) (Nat.le_of_ble_eq_true rfl) k_L944 hc0 hs0 hl.1 (fun rv1 rs1 w1 H1 lo1 hv1 hp1 I1 => ?_)
  obtain ⟨r1, rfl, rfl, -, -⟩ := hv1
  have hR := k_RK hp1.1 (by decide +kernel) (by decide +kernel) hR
  refine lv_pop C.1 C.2.1 k_L947 rfl ?_
  refine lv_aload_n C.1 C.2.1 k_L948 rfl (lv_at hl 2 rfl) ?_
  refine k_arg C I1 hl (k := 1) (by omega) k_L949 k_L950 k_L951 (by decide) k_L952 k_L953 ?_
  refine k_arg C I1 hl (k := 2) (by omega) k_L954 k_L955 k_L956 (by decide) k_L957 k_L958 ?_
  refine k_arg C I1 hl (k := 3) (by omega) k_L959 k_L960 k_L961 (by decide) k_L962 k_L963 ?_
  refine k_arg C I1 hl (k := 4) (by omega) k_L964 k_L965 k_L966 (by decide) k_L967 k_L968 ?_
  refine k_pub C I1 (a := 269) (idx := 104) (M := k_M269) (ct := k_c269_0) rfl k_pm269_0 rfl (k_in 9 32 rfl rfl) (by decide +kernel) (x := a2) (As := [.int (xs (i + 1)), .int (xs (i + 2)), .int (xs (i + 3)), .int (xs (i + 4))]) (rest := []) [(a2 : Int), ((xs (i + 1))).toInt, ((xs (i + 2))).toInt, ((xs (i + 3))).toInt, ((xs (i + 4))).toInt] (k_preC 0 rfl (by decide +kernel) ⟨k_aR I1.2.2.2.2.2.1, k_aI _, k_aI _, k_aI _, k_aI _, trivial⟩ trivial) (Nat.le_of_ble_eq_true rfl) k_L969 hc0 hs0 hl.1 (fun rv2 rs2 w2 H2 lo2 hv2 hp2 I2 => ?_)
  obtain ⟨r2, rfl, rfl, -, -⟩ := hv2
  have hR := k_RK hp2.1 (by decide +kernel) (by decide +kernel) hR
  refine lv_pop C.1 C.2.1 k_L972 rfl ?_
  refine lv_goto C.1 C.2.1 k_L973 (tgt := 1990) (by decide) ?_
  exact W.widen (Nat.le_add_right _ _) (Nat.le_add_right _ _) (kk _ _ _ ⟨I2, hR⟩)
theorem k_case19 {p : Program} {l : Launch} {e : Env} {s : State} {m : MethodId} {below : List Frame} {meth : Method} {c : Code} {Q : State → Prop} {b L : Nat} {xs : Nat → Int32} {D : va_G} {dA : Nat → ClassId} {a1 a2 i cells slots : Nat} {ls : Array Slot} {w : cWld} {H : Heap} {locs : List Loc} (C : k_Cx p s m c b L xs D dA) (I : k_In s D dA a1 a2 w H locs ∧ k_R a1 a2 w) (hl : lv_has ls 4 (k_lv b a1 a2 i)) (hi : i + 7 ≤ L) (hcb : cells + 26 ≤ 600000) (hsb : slots + 1584 ≤ 7302250)
    (kk : ∀ (w : cWld) (H : Heap) (locs : List Loc), k_In s D dA a1 a2 w H locs ∧ k_R a1 a2 w → W p l e room_1 s m #[Value.ref b] below meth c H locs (cells + 26) (slots + 1584) Q (F0 m 1990 ls [])) : W p l e room_1 s m #[Value.ref b] below meth c H locs cells slots Q (F0 m 976 ls []) := by
  have hc0 : cells ≤ 600000 := by omega
  have hs0 : slots ≤ 7302250 := by omega
  have hc1 := hcb
  have hs1 := hsb
  obtain ⟨I, hR⟩ := I
  refine lv_aload_n C.1 C.2.1 k_L976 rfl (lv_at hl 1 rfl) ?_
  refine k_arg C I hl (k := 1) (by omega) k_L977 k_L978 k_L979 (by decide) k_L980 k_L981 ?_
  refine k_bool C k_L982 k_L985 k_L986 k_L989 (fun z1 hz1 => ?_)
  refine k_pub C I (a := 151) (idx := 105) (M := k_M151) (ct := k_c151_0) rfl k_pm151_0 rfl (k_in 5 1 rfl rfl) (by decide +kernel) (x := a1) (As := [.int z1]) (rest := []) [(a1 : Int), (z1).toInt] (k_preC 0 rfl (by decide +kernel) ⟨k_aR I.2.2.2.2.1, k_aZ hz1, trivial⟩ trivial) (Nat.le_of_ble_eq_true rfl) k_L990 hc0 hs0 hl.1 (fun rv1 rs1 w1 H1 lo1 hv1 hp1 I1 => ?_)
  obtain ⟨r1, rfl, rfl, -, -⟩ := hv1
  have hR := k_RK hp1.1 (by decide +kernel) (by decide +kernel) hR
  refine lv_pop C.1 C.2.1 k_L993 rfl ?_
  refine lv_aload_n C.1 C.2.1 k_L994 rfl (lv_at hl 2 rfl) ?_
  refine k_arg C I1 hl (k := 1) (by omega) k_L995 k_L996 k_L997 (by decide) k_L998 k_L999 ?_
  refine k_bool C k_L1000 k_L1003 k_L1004 k_L1007 (fun z2 hz2 => ?_)
  refine k_pub C I1 (a := 270) (idx := 109) (M := k_M270) (ct := k_c270_0) rfl k_pm270_0 rfl (k_in 9 36 rfl rfl) (by decide +kernel) (x := a2) (As := [.int z2]) (rest := []) [(a2 : Int), (z2).toInt] (k_preC 0 rfl (by decide +kernel) ⟨k_aR I1.2.2.2.2.2.1, k_aZ hz2, trivial⟩ trivial) (Nat.le_of_ble_eq_true rfl) k_L1008 hc0 hs0 hl.1 (fun rv2 rs2 w2 H2 lo2 hv2 hp2 I2 => ?_)
  obtain ⟨r2, rfl, rfl, -, -⟩ := hv2
  have hR := k_RK hp2.1 (by decide +kernel) (by decide +kernel) hR
  refine lv_pop C.1 C.2.1 k_L1011 rfl ?_
  refine lv_goto C.1 C.2.1 k_L1012 (tgt := 1990) (by decide) ?_
  exact W.widen (Nat.le_add_right _ _) (Nat.le_add_right _ _) (kk _ _ _ ⟨I2, hR⟩)
theorem k_case20 {p : Program} {l : Launch} {e : Env} {s : State} {m : MethodId} {below : List Frame} {meth : Method} {c : Code} {Q : State → Prop} {b L : Nat} {xs : Nat → Int32} {D : va_G} {dA : Nat → ClassId} {a1 a2 i cells slots : Nat} {ls : Array Slot} {w : cWld} {H : Heap} {locs : List Loc} (C : k_Cx p s m c b L xs D dA) (I : k_In s D dA a1 a2 w H locs ∧ k_R a1 a2 w) (hl : lv_has ls 4 (k_lv b a1 a2 i)) (hi : i + 7 ≤ L) (hcb : cells + 26 ≤ 600000) (hsb : slots + 1584 ≤ 7302250)
    (kk : ∀ (w : cWld) (H : Heap) (locs : List Loc), k_In s D dA a1 a2 w H locs ∧ k_R a1 a2 w → W p l e room_1 s m #[Value.ref b] below meth c H locs (cells + 26) (slots + 1584) Q (F0 m 1990 ls [])) : W p l e room_1 s m #[Value.ref b] below meth c H locs cells slots Q (F0 m 1015 ls []) := by
  have hc0 : cells ≤ 600000 := by omega
  have hs0 : slots ≤ 7302250 := by omega
  have hc1 := hcb
  have hs1 := hsb
  obtain ⟨I, hR⟩ := I
  refine lv_aload_n C.1 C.2.1 k_L1015 rfl (lv_at hl 1 rfl) ?_
  refine k_arg C I hl (k := 1) (by omega) k_L1016 k_L1017 k_L1018 (by decide) k_L1019 k_L1020 ?_
  refine k_pub C I (a := 152) (idx := 110) (M := k_M152) (ct := k_c152_0) rfl k_pm152_0 rfl (k_in 5 5 rfl rfl) (by decide +kernel) (x := a1) (As := [.int (xs (i + 1))]) (rest := []) [(a1 : Int), ((xs (i + 1))).toInt] (k_preC 0 rfl (by decide +kernel) ⟨k_aR I.2.2.2.2.1, k_aI _, trivial⟩ trivial) (Nat.le_of_ble_eq_true rfl) k_L1021 hc0 hs0 hl.1 (fun rv1 rs1 w1 H1 lo1 hv1 hp1 I1 => ?_)
  obtain ⟨r1, rfl, rfl⟩ := hv1
  have hR := k_RK hp1.1 (by decide +kernel) (by decide +kernel) hR
  refine lv_pop C.1 C.2.1 k_L1024 rfl ?_
  refine lv_aload_n C.1 C.2.1 k_L1025 rfl (lv_at hl 2 rfl) ?_
  refine k_arg C I1 hl (k := 1) (by omega) k_L1026 k_L1027 k_L1028 (by decide) k_L1029 k_L1030 ?_
  refine k_pub C I1 (a := 271) (idx := 113) (M := k_M271) (ct := k_c271_0) rfl k_pm271_0 rfl (k_in 9 40 rfl rfl) (by decide +kernel) (x := a2) (As := [.int (xs (i + 1))]) (rest := []) [(a2 : Int), ((xs (i + 1))).toInt] (k_preC 0 rfl (by decide +kernel) ⟨k_aR I1.2.2.2.2.2.1, k_aI _, trivial⟩ trivial) (Nat.le_of_ble_eq_true rfl) k_L1031 hc0 hs0 hl.1 (fun rv2 rs2 w2 H2 lo2 hv2 hp2 I2 => ?_)
  obtain ⟨r2, rfl, rfl⟩ := hv2
  have hR := k_RK hp2.1 (by decide +kernel) (by decide +kernel) hR
  refine lv_pop C.1 C.2.1 k_L1034 rfl ?_
  refine lv_goto C.1 C.2.1 k_L1035 (tgt := 1990) (by decide) ?_
  exact W.widen (Nat.le_add_right _ _) (Nat.le_add_right _ _) (kk _ _ _ ⟨I2, hR⟩)
theorem k_case21 {p : Program} {l : Launch} {e : Env} {s : State} {m : MethodId} {below : List Frame} {meth : Method} {c : Code} {Q : State → Prop} {b L : Nat} {xs : Nat → Int32} {D : va_G} {dA : Nat → ClassId} {a1 a2 i cells slots : Nat} {ls : Array Slot} {w : cWld} {H : Heap} {locs : List Loc} (C : k_Cx p s m c b L xs D dA) (I : k_In s D dA a1 a2 w H locs ∧ k_R a1 a2 w) (hl : lv_has ls 4 (k_lv b a1 a2 i)) (hi : i + 7 ≤ L) (hcb : cells + 26 ≤ 600000) (hsb : slots + 1584 ≤ 7302250)
    (kk : ∀ (w : cWld) (H : Heap) (locs : List Loc), k_In s D dA a1 a2 w H locs ∧ k_R a1 a2 w → W p l e room_1 s m #[Value.ref b] below meth c H locs (cells + 26) (slots + 1584) Q (F0 m 1990 ls [])) : W p l e room_1 s m #[Value.ref b] below meth c H locs cells slots Q (F0 m 1038 ls []) := by
  have hc0 : cells ≤ 600000 := by omega
  have hs0 : slots ≤ 7302250 := by omega
  have hc1 := hcb
  have hs1 := hsb
  obtain ⟨I, hR⟩ := I
  refine lv_aload_n C.1 C.2.1 k_L1038 rfl (lv_at hl 1 rfl) ?_
  refine k_arg C I hl (k := 1) (by omega) k_L1039 k_L1040 k_L1041 (by decide) k_L1042 k_L1043 ?_
  refine k_arg C I hl (k := 2) (by omega) k_L1044 k_L1045 k_L1046 (by decide) k_L1047 k_L1048 ?_
  refine k_arg C I hl (k := 3) (by omega) k_L1049 k_L1050 k_L1051 (by decide) k_L1052 k_L1053 ?_
  refine k_pub C I (a := 154) (idx := 114) (M := k_M154) (ct := k_c154_0) rfl k_pm154_0 rfl (k_in 5 9 rfl rfl) (by decide +kernel) (x := a1) (As := [.int (xs (i + 1)), .int (xs (i + 2)), .int (xs (i + 3))]) (rest := []) [(a1 : Int), ((xs (i + 1))).toInt, ((xs (i + 2))).toInt, ((xs (i + 3))).toInt] (k_preC 0 rfl (by decide +kernel) ⟨k_aR I.2.2.2.2.1, k_aI _, k_aI _, k_aI _, trivial⟩ trivial) (Nat.le_of_ble_eq_true rfl) k_L1054 hc0 hs0 hl.1 (fun rv1 rs1 w1 H1 lo1 hv1 hp1 I1 => ?_)
  obtain ⟨r1, rfl, rfl⟩ := hv1
  have hR := k_RK hp1.1 (by decide +kernel) (by decide +kernel) hR
  refine lv_pop C.1 C.2.1 k_L1057 rfl ?_
  refine lv_aload_n C.1 C.2.1 k_L1058 rfl (lv_at hl 2 rfl) ?_
  refine k_arg C I1 hl (k := 1) (by omega) k_L1059 k_L1060 k_L1061 (by decide) k_L1062 k_L1063 ?_
  refine k_arg C I1 hl (k := 2) (by omega) k_L1064 k_L1065 k_L1066 (by decide) k_L1067 k_L1068 ?_
  refine k_arg C I1 hl (k := 3) (by omega) k_L1069 k_L1070 k_L1071 (by decide) k_L1072 k_L1073 ?_
  refine k_pub C I1 (a := 276) (idx := 118) (M := k_M276) (ct := k_c276_0) rfl k_pm276_0 rfl (k_in 9 45 rfl rfl) (by decide +kernel) (x := a2) (As := [.int (xs (i + 1)), .int (xs (i + 2)), .int (xs (i + 3))]) (rest := []) [(a2 : Int), ((xs (i + 1))).toInt, ((xs (i + 2))).toInt, ((xs (i + 3))).toInt] (k_preC 0 rfl (by decide +kernel) ⟨k_aR I1.2.2.2.2.2.1, k_aI _, k_aI _, k_aI _, trivial⟩ trivial) (Nat.le_of_ble_eq_true rfl) k_L1074 hc0 hs0 hl.1 (fun rv2 rs2 w2 H2 lo2 hv2 hp2 I2 => ?_)
  obtain ⟨r2, rfl, rfl⟩ := hv2
  have hR := k_RK hp2.1 (by decide +kernel) (by decide +kernel) hR
  refine lv_pop C.1 C.2.1 k_L1077 rfl ?_
  refine lv_goto C.1 C.2.1 k_L1078 (tgt := 1990) (by decide) ?_
  exact W.widen (Nat.le_add_right _ _) (Nat.le_add_right _ _) (kk _ _ _ ⟨I2, hR⟩)
theorem k_case22 {p : Program} {l : Launch} {e : Env} {s : State} {m : MethodId} {below : List Frame} {meth : Method} {c : Code} {Q : State → Prop} {b L : Nat} {xs : Nat → Int32} {D : va_G} {dA : Nat → ClassId} {a1 a2 i cells slots : Nat} {ls : Array Slot} {w : cWld} {H : Heap} {locs : List Loc} (C : k_Cx p s m c b L xs D dA) (I : k_In s D dA a1 a2 w H locs ∧ k_R a1 a2 w) (hl : lv_has ls 4 (k_lv b a1 a2 i)) (hi : i + 7 ≤ L) (hcb : cells + 26 ≤ 600000) (hsb : slots + 1584 ≤ 7302250)
    (kk : ∀ (w : cWld) (H : Heap) (locs : List Loc), k_In s D dA a1 a2 w H locs ∧ k_R a1 a2 w → W p l e room_1 s m #[Value.ref b] below meth c H locs (cells + 26) (slots + 1584) Q (F0 m 1990 ls [])) : W p l e room_1 s m #[Value.ref b] below meth c H locs cells slots Q (F0 m 1081 ls []) := by
  have hc0 : cells ≤ 600000 := by omega
  have hs0 : slots ≤ 7302250 := by omega
  have hc1 := hcb
  have hs1 := hsb
  obtain ⟨I, hR⟩ := I
  refine lv_aload_n C.1 C.2.1 k_L1081 rfl (lv_at hl 1 rfl) ?_
  refine k_arg C I hl (k := 1) (by omega) k_L1082 k_L1083 k_L1084 (by decide) k_L1085 k_L1086 ?_
  refine k_arg C I hl (k := 2) (by omega) k_L1087 k_L1088 k_L1089 (by decide) k_L1090 k_L1091 ?_
  refine k_arg C I hl (k := 3) (by omega) k_L1092 k_L1093 k_L1094 (by decide) k_L1095 k_L1096 ?_
  refine k_pub C I (a := 155) (idx := 119) (M := k_M155) (ct := k_c155_0) rfl k_pm155_0 rfl (k_in 5 32 rfl rfl) (by decide +kernel) (x := a1) (As := [.int (xs (i + 1)), .int (xs (i + 2)), .int (xs (i + 3))]) (rest := []) [(a1 : Int), ((xs (i + 1))).toInt, ((xs (i + 2))).toInt, ((xs (i + 3))).toInt] (k_preC 0 rfl (by decide +kernel) ⟨k_aR I.2.2.2.2.1, k_aI _, k_aI _, k_aI _, trivial⟩ trivial) (Nat.le_of_ble_eq_true rfl) k_L1097 hc0 hs0 hl.1 (fun rv1 rs1 w1 H1 lo1 hv1 hp1 I1 => ?_)
  obtain ⟨r1, rfl, rfl, -, -⟩ := hv1
  have hR := k_RK hp1.1 (by decide +kernel) (by decide +kernel) hR
  refine lv_pop C.1 C.2.1 k_L1100 rfl ?_
  refine lv_aload_n C.1 C.2.1 k_L1101 rfl (lv_at hl 2 rfl) ?_
  refine k_arg C I1 hl (k := 1) (by omega) k_L1102 k_L1103 k_L1104 (by decide) k_L1105 k_L1106 ?_
  refine k_arg C I1 hl (k := 2) (by omega) k_L1107 k_L1108 k_L1109 (by decide) k_L1110 k_L1111 ?_
  refine k_arg C I1 hl (k := 3) (by omega) k_L1112 k_L1113 k_L1114 (by decide) k_L1115 k_L1116 ?_
  refine k_pub C I1 (a := 277) (idx := 122) (M := k_M277) (ct := k_c277_0) rfl k_pm277_0 rfl (k_in 9 65 rfl rfl) (by decide +kernel) (x := a2) (As := [.int (xs (i + 1)), .int (xs (i + 2)), .int (xs (i + 3))]) (rest := []) [(a2 : Int), ((xs (i + 1))).toInt, ((xs (i + 2))).toInt, ((xs (i + 3))).toInt] (k_preC 0 rfl (by decide +kernel) ⟨k_aR I1.2.2.2.2.2.1, k_aI _, k_aI _, k_aI _, trivial⟩ trivial) (Nat.le_of_ble_eq_true rfl) k_L1117 hc0 hs0 hl.1 (fun rv2 rs2 w2 H2 lo2 hv2 hp2 I2 => ?_)
  obtain ⟨r2, rfl, rfl, -, -⟩ := hv2
  have hR := k_RK hp2.1 (by decide +kernel) (by decide +kernel) hR
  refine lv_pop C.1 C.2.1 k_L1120 rfl ?_
  refine lv_goto C.1 C.2.1 k_L1121 (tgt := 1990) (by decide) ?_
  exact W.widen (Nat.le_add_right _ _) (Nat.le_add_right _ _) (kk _ _ _ ⟨I2, hR⟩)
theorem k_case23 {p : Program} {l : Launch} {e : Env} {s : State} {m : MethodId} {below : List Frame} {meth : Method} {c : Code} {Q : State → Prop} {b L : Nat} {xs : Nat → Int32} {D : va_G} {dA : Nat → ClassId} {a1 a2 i cells slots : Nat} {ls : Array Slot} {w : cWld} {H : Heap} {locs : List Loc} (C : k_Cx p s m c b L xs D dA) (I : k_In s D dA a1 a2 w H locs ∧ k_R a1 a2 w) (hl : lv_has ls 4 (k_lv b a1 a2 i)) (hi : i + 7 ≤ L) (hcb : cells + 26 ≤ 600000) (hsb : slots + 1584 ≤ 7302250)
    (kk : ∀ (w : cWld) (H : Heap) (locs : List Loc), k_In s D dA a1 a2 w H locs ∧ k_R a1 a2 w → W p l e room_1 s m #[Value.ref b] below meth c H locs (cells + 26) (slots + 1584) Q (F0 m 1990 ls [])) : W p l e room_1 s m #[Value.ref b] below meth c H locs cells slots Q (F0 m 1124 ls []) := by
  have hc0 : cells ≤ 600000 := by omega
  have hs0 : slots ≤ 7302250 := by omega
  have hc1 := hcb
  have hs1 := hsb
  obtain ⟨I, hR⟩ := I
  refine lv_aload_n C.1 C.2.1 k_L1124 rfl (lv_at hl 1 rfl) ?_
  refine k_arg C I hl (k := 1) (by omega) k_L1125 k_L1126 k_L1127 (by decide) k_L1128 k_L1129 ?_
  refine k_pub C I (a := 157) (idx := 123) (M := k_M157) (ct := k_c157_0) rfl k_pm157_0 rfl (k_in 5 51 rfl rfl) (by decide +kernel) (x := a1) (As := [.int (xs (i + 1))]) (rest := []) [(a1 : Int), ((xs (i + 1))).toInt] (k_preC 0 rfl (by decide +kernel) ⟨k_aR I.2.2.2.2.1, k_aI _, trivial⟩ trivial) (Nat.le_of_ble_eq_true rfl) k_L1130 hc0 hs0 hl.1 (fun rv1 rs1 w1 H1 lo1 hv1 hp1 I1 => ?_)
  obtain ⟨r1, rfl, rfl, -, -⟩ := hv1
  have hR := k_RK hp1.1 (by decide +kernel) (by decide +kernel) hR
  refine lv_pop C.1 C.2.1 k_L1133 rfl ?_
  refine lv_aload_n C.1 C.2.1 k_L1134 rfl (lv_at hl 2 rfl) ?_
  refine k_arg C I1 hl (k := 1) (by omega) k_L1135 k_L1136 k_L1137 (by decide) k_L1138 k_L1139 ?_
  refine k_pub C I1 (a := 285) (idx := 126) (M := k_M285) (ct := k_c285_0) rfl k_pm285_0 rfl (k_in 9 77 rfl rfl) (by decide +kernel) (x := a2) (As := [.int (xs (i + 1))]) (rest := []) [(a2 : Int), ((xs (i + 1))).toInt] (k_preC 0 rfl (by decide +kernel) ⟨k_aR I1.2.2.2.2.2.1, k_aI _, trivial⟩ trivial) (Nat.le_of_ble_eq_true rfl) k_L1140 hc0 hs0 hl.1 (fun rv2 rs2 w2 H2 lo2 hv2 hp2 I2 => ?_)
  obtain ⟨r2, rfl, rfl, -, -⟩ := hv2
  have hR := k_RK hp2.1 (by decide +kernel) (by decide +kernel) hR
  refine lv_pop C.1 C.2.1 k_L1143 rfl ?_
  refine lv_goto C.1 C.2.1 k_L1144 (tgt := 1990) (by decide) ?_
  exact W.widen (Nat.le_add_right _ _) (Nat.le_add_right _ _) (kk _ _ _ ⟨I2, hR⟩)
theorem k_case24 {p : Program} {l : Launch} {e : Env} {s : State} {m : MethodId} {below : List Frame} {meth : Method} {c : Code} {Q : State → Prop} {b L : Nat} {xs : Nat → Int32} {D : va_G} {dA : Nat → ClassId} {a1 a2 i cells slots : Nat} {ls : Array Slot} {w : cWld} {H : Heap} {locs : List Loc} (C : k_Cx p s m c b L xs D dA) (I : k_In s D dA a1 a2 w H locs ∧ k_R a1 a2 w) (hl : lv_has ls 4 (k_lv b a1 a2 i)) (hi : i + 7 ≤ L) (hcb : cells + 26 ≤ 600000) (hsb : slots + 1584 ≤ 7302250)
    (kk : ∀ (w : cWld) (H : Heap) (locs : List Loc), k_In s D dA a1 a2 w H locs ∧ k_R a1 a2 w → W p l e room_1 s m #[Value.ref b] below meth c H locs (cells + 26) (slots + 1584) Q (F0 m 1990 ls [])) : W p l e room_1 s m #[Value.ref b] below meth c H locs cells slots Q (F0 m 1147 ls []) := by
  have hc0 : cells ≤ 600000 := by omega
  have hs0 : slots ≤ 7302250 := by omega
  have hc1 := hcb
  have hs1 := hsb
  obtain ⟨I, hR⟩ := I
  refine lv_aload_n C.1 C.2.1 k_L1147 rfl (lv_at hl 1 rfl) ?_
  refine k_arg C I hl (k := 1) (by omega) k_L1148 k_L1149 k_L1150 (by decide) k_L1151 k_L1152 ?_
  refine k_pub C I (a := 160) (idx := 127) (M := k_M160) (ct := k_c160_0) rfl k_pm160_0 rfl (k_in 5 99 rfl rfl) (by decide +kernel) (x := a1) (As := [.int (xs (i + 1))]) (rest := []) [(a1 : Int), ((xs (i + 1))).toInt] (k_preC 0 rfl (by decide +kernel) ⟨k_aR I.2.2.2.2.1, k_aI _, trivial⟩ trivial) (Nat.le_of_ble_eq_true rfl) k_L1153 hc0 hs0 hl.1 (fun rv1 rs1 w1 H1 lo1 hv1 hp1 I1 => ?_)
  obtain ⟨r1, rfl, rfl⟩ := hv1
  have hR := k_RK hp1.1 (by decide +kernel) (by decide +kernel) hR
  refine lv_pop C.1 C.2.1 k_L1156 rfl ?_
  refine lv_aload_n C.1 C.2.1 k_L1157 rfl (lv_at hl 2 rfl) ?_
  refine k_arg C I1 hl (k := 1) (by omega) k_L1158 k_L1159 k_L1160 (by decide) k_L1161 k_L1162 ?_
  refine k_pub C I1 (a := 287) (idx := 130) (M := k_M287) (ct := k_c287_0) rfl k_pm287_0 rfl (k_in 9 105 rfl rfl) (by decide +kernel) (x := a2) (As := [.int (xs (i + 1))]) (rest := []) [(a2 : Int), ((xs (i + 1))).toInt] (k_preC 0 rfl (by decide +kernel) ⟨k_aR I1.2.2.2.2.2.1, k_aI _, trivial⟩ trivial) (Nat.le_of_ble_eq_true rfl) k_L1163 hc0 hs0 hl.1 (fun rv2 rs2 w2 H2 lo2 hv2 hp2 I2 => ?_)
  obtain ⟨r2, rfl, rfl⟩ := hv2
  have hR := k_RK hp2.1 (by decide +kernel) (by decide +kernel) hR
  refine lv_pop C.1 C.2.1 k_L1166 rfl ?_
  refine lv_goto C.1 C.2.1 k_L1167 (tgt := 1990) (by decide) ?_
  exact W.widen (Nat.le_add_right _ _) (Nat.le_add_right _ _) (kk _ _ _ ⟨I2, hR⟩)
theorem k_case25 {p : Program} {l : Launch} {e : Env} {s : State} {m : MethodId} {below : List Frame} {meth : Method} {c : Code} {Q : State → Prop} {b L : Nat} {xs : Nat → Int32} {D : va_G} {dA : Nat → ClassId} {a1 a2 i cells slots : Nat} {ls : Array Slot} {w : cWld} {H : Heap} {locs : List Loc} (C : k_Cx p s m c b L xs D dA) (I : k_In s D dA a1 a2 w H locs ∧ k_R a1 a2 w) (hl : lv_has ls 4 (k_lv b a1 a2 i)) (hi : i + 7 ≤ L) (hcb : cells + 26 ≤ 600000) (hsb : slots + 1584 ≤ 7302250)
    (kk : ∀ (w : cWld) (H : Heap) (locs : List Loc), k_In s D dA a1 a2 w H locs ∧ k_R a1 a2 w → W p l e room_1 s m #[Value.ref b] below meth c H locs (cells + 26) (slots + 1584) Q (F0 m 1990 ls [])) : W p l e room_1 s m #[Value.ref b] below meth c H locs cells slots Q (F0 m 1170 ls []) := by
  have hc0 : cells ≤ 600000 := by omega
  have hs0 : slots ≤ 7302250 := by omega
  have hc1 := hcb
  have hs1 := hsb
  obtain ⟨I, hR⟩ := I
  refine lv_aload_n C.1 C.2.1 k_L1170 rfl (lv_at hl 1 rfl) ?_
  refine k_arg C I hl (k := 1) (by omega) k_L1171 k_L1172 k_L1173 (by decide) k_L1174 k_L1175 ?_
  refine k_pub C I (a := 161) (idx := 131) (M := k_M161) (ct := k_c161_0) rfl k_pm161_0 rfl (k_in 5 125 rfl rfl) (by decide +kernel) (x := a1) (As := [.int (xs (i + 1))]) (rest := []) [(a1 : Int), ((xs (i + 1))).toInt] (k_preC 0 rfl (by decide +kernel) ⟨k_aR I.2.2.2.2.1, k_aI _, trivial⟩ trivial) (Nat.le_of_ble_eq_true rfl) k_L1176 hc0 hs0 hl.1 (fun rv1 rs1 w1 H1 lo1 hv1 hp1 I1 => ?_)
  obtain ⟨r1, rfl, rfl, -, -⟩ := hv1
  have hR := k_RK hp1.1 (by decide +kernel) (by decide +kernel) hR
  refine lv_pop C.1 C.2.1 k_L1179 rfl ?_
  refine lv_aload_n C.1 C.2.1 k_L1180 rfl (lv_at hl 2 rfl) ?_
  refine k_arg C I1 hl (k := 1) (by omega) k_L1181 k_L1182 k_L1183 (by decide) k_L1184 k_L1185 ?_
  refine k_pub C I1 (a := 288) (idx := 134) (M := k_M288) (ct := k_c288_0) rfl k_pm288_0 rfl (k_in 9 117 rfl rfl) (by decide +kernel) (x := a2) (As := [.int (xs (i + 1))]) (rest := []) [(a2 : Int), ((xs (i + 1))).toInt] (k_preC 0 rfl (by decide +kernel) ⟨k_aR I1.2.2.2.2.2.1, k_aI _, trivial⟩ trivial) (Nat.le_of_ble_eq_true rfl) k_L1186 hc0 hs0 hl.1 (fun rv2 rs2 w2 H2 lo2 hv2 hp2 I2 => ?_)
  obtain ⟨r2, rfl, rfl, -, -⟩ := hv2
  have hR := k_RK hp2.1 (by decide +kernel) (by decide +kernel) hR
  refine lv_pop C.1 C.2.1 k_L1189 rfl ?_
  refine lv_goto C.1 C.2.1 k_L1190 (tgt := 1990) (by decide) ?_
  exact W.widen (Nat.le_add_right _ _) (Nat.le_add_right _ _) (kk _ _ _ ⟨I2, hR⟩)
theorem k_case26 {p : Program} {l : Launch} {e : Env} {s : State} {m : MethodId} {below : List Frame} {meth : Method} {c : Code} {Q : State → Prop} {b L : Nat} {xs : Nat → Int32} {D : va_G} {dA : Nat → ClassId} {a1 a2 i cells slots : Nat} {ls : Array Slot} {w : cWld} {H : Heap} {locs : List Loc} (C : k_Cx p s m c b L xs D dA) (I : k_In s D dA a1 a2 w H locs ∧ k_R a1 a2 w) (hl : lv_has ls 4 (k_lv b a1 a2 i)) (hi : i + 7 ≤ L) (hcb : cells + 26 ≤ 600000) (hsb : slots + 1584 ≤ 7302250)
    (kk : ∀ (w : cWld) (H : Heap) (locs : List Loc), k_In s D dA a1 a2 w H locs ∧ k_R a1 a2 w → W p l e room_1 s m #[Value.ref b] below meth c H locs (cells + 26) (slots + 1584) Q (F0 m 1990 ls [])) : W p l e room_1 s m #[Value.ref b] below meth c H locs cells slots Q (F0 m 1193 ls []) := by
  have hc0 : cells ≤ 600000 := by omega
  have hs0 : slots ≤ 7302250 := by omega
  have hc1 := hcb
  have hs1 := hsb
  obtain ⟨I, hR⟩ := I
  refine lv_aload_n C.1 C.2.1 k_L1193 rfl (lv_at hl 1 rfl) ?_
  refine k_arg C I hl (k := 1) (by omega) k_L1194 k_L1195 k_L1196 (by decide) k_L1197 k_L1198 ?_
  refine k_arg C I hl (k := 2) (by omega) k_L1199 k_L1200 k_L1201 (by decide) k_L1202 k_L1203 ?_
  refine k_pub C I (a := 162) (idx := 135) (M := k_M162) (ct := k_c162_0) rfl k_pm162_0 rfl (k_in 5 129 rfl rfl) (by decide +kernel) (x := a1) (As := [.int (xs (i + 1)), .int (xs (i + 2))]) (rest := []) [(a1 : Int), ((xs (i + 1))).toInt, ((xs (i + 2))).toInt] (k_preC 0 rfl (by decide +kernel) ⟨k_aR I.2.2.2.2.1, k_aI _, k_aI _, trivial⟩ trivial) (Nat.le_of_ble_eq_true rfl) k_L1204 hc0 hs0 hl.1 (fun rv1 rs1 w1 H1 lo1 hv1 hp1 I1 => ?_)
  obtain ⟨r1, rfl, rfl⟩ := hv1
  have hR := k_RK hp1.1 (by decide +kernel) (by decide +kernel) hR
  refine lv_pop2_2 C.1 C.2.1 k_L1207 rfl ?_
  refine lv_aload_n C.1 C.2.1 k_L1208 rfl (lv_at hl 2 rfl) ?_
  refine k_arg C I1 hl (k := 1) (by omega) k_L1209 k_L1210 k_L1211 (by decide) k_L1212 k_L1213 ?_
  refine k_arg C I1 hl (k := 2) (by omega) k_L1214 k_L1215 k_L1216 (by decide) k_L1217 k_L1218 ?_
  refine k_pub C I1 (a := 291) (idx := 138) (M := k_M291) (ct := k_c291_0) rfl k_pm291_0 rfl (k_in 9 121 rfl rfl) (by decide +kernel) (x := a2) (As := [.int (xs (i + 1)), .int (xs (i + 2))]) (rest := []) [(a2 : Int), ((xs (i + 1))).toInt, ((xs (i + 2))).toInt, 0] (k_preC 4 rfl (by decide +kernel) ⟨k_aR I1.2.2.2.2.2.1, k_aI _, k_aI _, trivial⟩ ⟨k_ghc I1.2.2.2.2.2.2 rfl, trivial⟩) (Nat.le_of_ble_eq_true rfl) k_L1219 hc0 hs0 hl.1 (fun rv2 rs2 w2 H2 lo2 hv2 hp2 I2 => ?_)
  obtain ⟨r2, rfl, rfl⟩ := hv2
  have hR := k_RK hp2.1 (by decide +kernel) (by decide +kernel) hR
  refine lv_pop2_2 C.1 C.2.1 k_L1222 rfl ?_
  refine lv_goto C.1 C.2.1 k_L1223 (tgt := 1990) (by decide) ?_
  exact W.widen (Nat.le_add_right _ _) (Nat.le_add_right _ _) (kk _ _ _ ⟨I2, hR⟩)
theorem k_case27 {p : Program} {l : Launch} {e : Env} {s : State} {m : MethodId} {below : List Frame} {meth : Method} {c : Code} {Q : State → Prop} {b L : Nat} {xs : Nat → Int32} {D : va_G} {dA : Nat → ClassId} {a1 a2 i cells slots : Nat} {ls : Array Slot} {w : cWld} {H : Heap} {locs : List Loc} (C : k_Cx p s m c b L xs D dA) (I : k_In s D dA a1 a2 w H locs ∧ k_R a1 a2 w) (hl : lv_has ls 4 (k_lv b a1 a2 i)) (hi : i + 7 ≤ L) (hcb : cells + 26 ≤ 600000) (hsb : slots + 1584 ≤ 7302250)
    (kk : ∀ (w : cWld) (H : Heap) (locs : List Loc), k_In s D dA a1 a2 w H locs ∧ k_R a1 a2 w → W p l e room_1 s m #[Value.ref b] below meth c H locs (cells + 26) (slots + 1584) Q (F0 m 1990 ls [])) : W p l e room_1 s m #[Value.ref b] below meth c H locs cells slots Q (F0 m 1226 ls []) := by
  have hc0 : cells ≤ 600000 := by omega
  have hs0 : slots ≤ 7302250 := by omega
  have hc1 := hcb
  have hs1 := hsb
  obtain ⟨I, hR⟩ := I
  refine lv_aload_n C.1 C.2.1 k_L1226 rfl (lv_at hl 1 rfl) ?_
  refine k_arg C I hl (k := 1) (by omega) k_L1227 k_L1228 k_L1229 (by decide) k_L1230 k_L1231 ?_
  refine k_pub C I (a := 163) (idx := 139) (M := k_M163) (ct := k_c163_0) rfl k_pm163_0 rfl (k_in 5 164 rfl rfl) (by decide +kernel) (x := a1) (As := [.int (xs (i + 1))]) (rest := []) [(a1 : Int), ((xs (i + 1))).toInt] (k_preC 0 rfl (by decide +kernel) ⟨k_aR I.2.2.2.2.1, k_aI _, trivial⟩ trivial) (Nat.le_of_ble_eq_true rfl) k_L1232 hc0 hs0 hl.1 (fun rv1 rs1 w1 H1 lo1 hv1 hp1 I1 => ?_)
  obtain ⟨r1, rfl, rfl⟩ := hv1
  have hR := k_RK hp1.1 (by decide +kernel) (by decide +kernel) hR
  refine lv_pop C.1 C.2.1 k_L1235 rfl ?_
  refine lv_aload_n C.1 C.2.1 k_L1236 rfl (lv_at hl 2 rfl) ?_
  refine k_arg C I1 hl (k := 1) (by omega) k_L1237 k_L1238 k_L1239 (by decide) k_L1240 k_L1241 ?_
  refine k_pub C I1 (a := 292) (idx := 142) (M := k_M292) (ct := k_c292_0) rfl k_pm292_0 rfl (k_in 9 135 rfl rfl) (by decide +kernel) (x := a2) (As := [.int (xs (i + 1))]) (rest := []) [(a2 : Int), ((xs (i + 1))).toInt] (k_preC 0 rfl (by decide +kernel) ⟨k_aR I1.2.2.2.2.2.1, k_aI _, trivial⟩ trivial) (Nat.le_of_ble_eq_true rfl) k_L1242 hc0 hs0 hl.1 (fun rv2 rs2 w2 H2 lo2 hv2 hp2 I2 => ?_)
  obtain ⟨r2, rfl, rfl⟩ := hv2
  have hR := k_RK hp2.1 (by decide +kernel) (by decide +kernel) hR
  refine lv_pop C.1 C.2.1 k_L1245 rfl ?_
  refine lv_goto C.1 C.2.1 k_L1246 (tgt := 1990) (by decide) ?_
  exact W.widen (Nat.le_add_right _ _) (Nat.le_add_right _ _) (kk _ _ _ ⟨I2, hR⟩)
theorem k_case28 {p : Program} {l : Launch} {e : Env} {s : State} {m : MethodId} {below : List Frame} {meth : Method} {c : Code} {Q : State → Prop} {b L : Nat} {xs : Nat → Int32} {D : va_G} {dA : Nat → ClassId} {a1 a2 i cells slots : Nat} {ls : Array Slot} {w : cWld} {H : Heap} {locs : List Loc} (C : k_Cx p s m c b L xs D dA) (I : k_In s D dA a1 a2 w H locs ∧ k_R a1 a2 w) (hl : lv_has ls 4 (k_lv b a1 a2 i)) (hi : i + 7 ≤ L) (hcb : cells + 26 ≤ 600000) (hsb : slots + 1584 ≤ 7302250)
    (kk : ∀ (w : cWld) (H : Heap) (locs : List Loc), k_In s D dA a1 a2 w H locs ∧ k_R a1 a2 w → W p l e room_1 s m #[Value.ref b] below meth c H locs (cells + 26) (slots + 1584) Q (F0 m 1990 ls [])) : W p l e room_1 s m #[Value.ref b] below meth c H locs cells slots Q (F0 m 1249 ls []) := by
  have hc0 : cells ≤ 600000 := by omega
  have hs0 : slots ≤ 7302250 := by omega
  have hc1 := hcb
  have hs1 := hsb
  obtain ⟨I, hR⟩ := I
  refine lv_aload_n C.1 C.2.1 k_L1249 rfl (lv_at hl 1 rfl) ?_
  refine k_arg C I hl (k := 1) (by omega) k_L1250 k_L1251 k_L1252 (by decide) k_L1253 k_L1254 ?_
  refine k_pub C I (a := 164) (idx := 143) (M := k_M164) (ct := k_c164_0) rfl k_pm164_0 rfl (k_in 5 168 rfl rfl) (by decide +kernel) (x := a1) (As := [.int (xs (i + 1))]) (rest := []) [(a1 : Int), ((xs (i + 1))).toInt] (k_preC 0 rfl (by decide +kernel) ⟨k_aR I.2.2.2.2.1, k_aI _, trivial⟩ trivial) (Nat.le_of_ble_eq_true rfl) k_L1255 hc0 hs0 hl.1 (fun rv1 rs1 w1 H1 lo1 hv1 hp1 I1 => ?_)
  obtain ⟨r1, rfl, rfl, -, -⟩ := hv1
  have hR := k_RK hp1.1 (by decide +kernel) (by decide +kernel) hR
  refine lv_pop C.1 C.2.1 k_L1258 rfl ?_
  refine lv_aload_n C.1 C.2.1 k_L1259 rfl (lv_at hl 2 rfl) ?_
  refine k_arg C I1 hl (k := 1) (by omega) k_L1260 k_L1261 k_L1262 (by decide) k_L1263 k_L1264 ?_
  refine k_pub C I1 (a := 293) (idx := 146) (M := k_M293) (ct := k_c293_0) rfl k_pm293_0 rfl (k_in 9 139 rfl rfl) (by decide +kernel) (x := a2) (As := [.int (xs (i + 1))]) (rest := []) [(a2 : Int), ((xs (i + 1))).toInt] (k_preC 0 rfl (by decide +kernel) ⟨k_aR I1.2.2.2.2.2.1, k_aI _, trivial⟩ trivial) (Nat.le_of_ble_eq_true rfl) k_L1265 hc0 hs0 hl.1 (fun rv2 rs2 w2 H2 lo2 hv2 hp2 I2 => ?_)
  obtain ⟨r2, rfl, rfl, -, -⟩ := hv2
  have hR := k_RK hp2.1 (by decide +kernel) (by decide +kernel) hR
  refine lv_pop C.1 C.2.1 k_L1268 rfl ?_
  refine lv_goto C.1 C.2.1 k_L1269 (tgt := 1990) (by decide) ?_
  exact W.widen (Nat.le_add_right _ _) (Nat.le_add_right _ _) (kk _ _ _ ⟨I2, hR⟩)
theorem k_case29 {p : Program} {l : Launch} {e : Env} {s : State} {m : MethodId} {below : List Frame} {meth : Method} {c : Code} {Q : State → Prop} {b L : Nat} {xs : Nat → Int32} {D : va_G} {dA : Nat → ClassId} {a1 a2 i cells slots : Nat} {ls : Array Slot} {w : cWld} {H : Heap} {locs : List Loc} (C : k_Cx p s m c b L xs D dA) (I : k_In s D dA a1 a2 w H locs ∧ k_R a1 a2 w) (hl : lv_has ls 4 (k_lv b a1 a2 i)) (hi : i + 7 ≤ L) (hcb : cells + 26 ≤ 600000) (hsb : slots + 1584 ≤ 7302250)
    (kk : ∀ (w : cWld) (H : Heap) (locs : List Loc), k_In s D dA a1 a2 w H locs ∧ k_R a1 a2 w → W p l e room_1 s m #[Value.ref b] below meth c H locs (cells + 26) (slots + 1584) Q (F0 m 1990 ls [])) : W p l e room_1 s m #[Value.ref b] below meth c H locs cells slots Q (F0 m 1272 ls []) := by
  have hc0 : cells ≤ 600000 := by omega
  have hs0 : slots ≤ 7302250 := by omega
  have hc1 := hcb
  have hs1 := hsb
  obtain ⟨I, hR⟩ := I
  refine lv_aload_n C.1 C.2.1 k_L1272 rfl (lv_at hl 1 rfl) ?_
  refine k_arg C I hl (k := 1) (by omega) k_L1273 k_L1274 k_L1275 (by decide) k_L1276 k_L1277 ?_
  refine k_arg C I hl (k := 2) (by omega) k_L1278 k_L1279 k_L1280 (by decide) k_L1281 k_L1282 ?_
  refine k_arg C I hl (k := 3) (by omega) k_L1283 k_L1284 k_L1285 (by decide) k_L1286 k_L1287 ?_
  refine k_pub C I (a := 165) (idx := 147) (M := k_M165) (ct := k_c165_0) rfl k_pm165_0 rfl (k_in 5 177 rfl rfl) (by decide +kernel) (x := a1) (As := [.int (xs (i + 1)), .int (xs (i + 2)), .int (xs (i + 3))]) (rest := []) [(a1 : Int), ((xs (i + 1))).toInt, ((xs (i + 2))).toInt, ((xs (i + 3))).toInt] (k_preC 0 rfl (by decide +kernel) ⟨k_aR I.2.2.2.2.1, k_aI _, k_aI _, k_aI _, trivial⟩ trivial) (Nat.le_of_ble_eq_true rfl) k_L1288 hc0 hs0 hl.1 (fun rv1 rs1 w1 H1 lo1 hv1 hp1 I1 => ?_)
  obtain ⟨r1, rfl, rfl⟩ := hv1
  have hR := k_RK hp1.1 (by decide +kernel) (by decide +kernel) hR
  refine lv_pop C.1 C.2.1 k_L1291 rfl ?_
  refine lv_aload_n C.1 C.2.1 k_L1292 rfl (lv_at hl 2 rfl) ?_
  refine k_arg C I1 hl (k := 1) (by omega) k_L1293 k_L1294 k_L1295 (by decide) k_L1296 k_L1297 ?_
  refine k_arg C I1 hl (k := 2) (by omega) k_L1298 k_L1299 k_L1300 (by decide) k_L1301 k_L1302 ?_
  refine k_arg C I1 hl (k := 3) (by omega) k_L1303 k_L1304 k_L1305 (by decide) k_L1306 k_L1307 ?_
  refine k_pub C I1 (a := 295) (idx := 150) (M := k_M295) (ct := k_c295_0) rfl k_pm295_0 rfl (k_in 9 143 rfl rfl) (by decide +kernel) (x := a2) (As := [.int (xs (i + 1)), .int (xs (i + 2)), .int (xs (i + 3))]) (rest := []) [(a2 : Int), ((xs (i + 1))).toInt, ((xs (i + 2))).toInt, ((xs (i + 3))).toInt] (k_preC 0 rfl (by decide +kernel) ⟨k_aR I1.2.2.2.2.2.1, k_aI _, k_aI _, k_aI _, trivial⟩ trivial) (Nat.le_of_ble_eq_true rfl) k_L1308 hc0 hs0 hl.1 (fun rv2 rs2 w2 H2 lo2 hv2 hp2 I2 => ?_)
  obtain ⟨r2, rfl, rfl⟩ := hv2
  have hR := k_RK hp2.1 (by decide +kernel) (by decide +kernel) hR
  refine lv_pop C.1 C.2.1 k_L1311 rfl ?_
  refine lv_goto C.1 C.2.1 k_L1312 (tgt := 1990) (by decide) ?_
  exact W.widen (Nat.le_add_right _ _) (Nat.le_add_right _ _) (kk _ _ _ ⟨I2, hR⟩)
theorem k_case30 {p : Program} {l : Launch} {e : Env} {s : State} {m : MethodId} {below : List Frame} {meth : Method} {c : Code} {Q : State → Prop} {b L : Nat} {xs : Nat → Int32} {D : va_G} {dA : Nat → ClassId} {a1 a2 i cells slots : Nat} {ls : Array Slot} {w : cWld} {H : Heap} {locs : List Loc} (C : k_Cx p s m c b L xs D dA) (I : k_In s D dA a1 a2 w H locs ∧ k_R a1 a2 w) (hl : lv_has ls 4 (k_lv b a1 a2 i)) (hi : i + 7 ≤ L) (hcb : cells + 26 ≤ 600000) (hsb : slots + 1584 ≤ 7302250)
    (kk : ∀ (w : cWld) (H : Heap) (locs : List Loc), k_In s D dA a1 a2 w H locs ∧ k_R a1 a2 w → W p l e room_1 s m #[Value.ref b] below meth c H locs (cells + 26) (slots + 1584) Q (F0 m 1990 ls [])) : W p l e room_1 s m #[Value.ref b] below meth c H locs cells slots Q (F0 m 1315 ls []) := by
  have hc0 : cells ≤ 600000 := by omega
  have hs0 : slots ≤ 7302250 := by omega
  have hc1 := hcb
  have hs1 := hsb
  obtain ⟨I, hR⟩ := I
  refine lv_aload_n C.1 C.2.1 k_L1315 rfl (lv_at hl 1 rfl) ?_
  refine k_arg C I hl (k := 1) (by omega) k_L1316 k_L1317 k_L1318 (by decide) k_L1319 k_L1320 ?_
  refine k_arg C I hl (k := 2) (by omega) k_L1321 k_L1322 k_L1323 (by decide) k_L1324 k_L1325 ?_
  refine k_pub C I (a := 166) (idx := 151) (M := k_M166) (ct := k_c166_0) rfl k_pm166_0 rfl (k_in 5 184 rfl rfl) (by decide +kernel) (x := a1) (As := [.int (xs (i + 1)), .int (xs (i + 2))]) (rest := []) [(a1 : Int), ((xs (i + 1))).toInt, ((xs (i + 2))).toInt] (k_preC 0 rfl (by decide +kernel) ⟨k_aR I.2.2.2.2.1, k_aI _, k_aI _, trivial⟩ trivial) (Nat.le_of_ble_eq_true rfl) k_L1326 hc0 hs0 hl.1 (fun rv1 rs1 w1 H1 lo1 hv1 hp1 I1 => ?_)
  obtain ⟨r1, rfl, rfl⟩ := hv1
  have hR := k_RK hp1.1 (by decide +kernel) (by decide +kernel) hR
  refine lv_pop C.1 C.2.1 k_L1329 rfl ?_
  refine lv_aload_n C.1 C.2.1 k_L1330 rfl (lv_at hl 2 rfl) ?_
  refine k_arg C I1 hl (k := 1) (by omega) k_L1331 k_L1332 k_L1333 (by decide) k_L1334 k_L1335 ?_
  refine k_arg C I1 hl (k := 2) (by omega) k_L1336 k_L1337 k_L1338 (by decide) k_L1339 k_L1340 ?_
  refine k_pub C I1 (a := 296) (idx := 154) (M := k_M296) (ct := k_c296_0) rfl k_pm296_0 rfl (k_in 9 153 rfl rfl) (by decide +kernel) (x := a2) (As := [.int (xs (i + 1)), .int (xs (i + 2))]) (rest := []) [(a2 : Int), ((xs (i + 1))).toInt, ((xs (i + 2))).toInt] (k_preC 0 rfl (by decide +kernel) ⟨k_aR I1.2.2.2.2.2.1, k_aI _, k_aI _, trivial⟩ trivial) (Nat.le_of_ble_eq_true rfl) k_L1341 hc0 hs0 hl.1 (fun rv2 rs2 w2 H2 lo2 hv2 hp2 I2 => ?_)
  obtain ⟨r2, rfl, rfl⟩ := hv2
  have hR := k_RK hp2.1 (by decide +kernel) (by decide +kernel) hR
  refine lv_pop C.1 C.2.1 k_L1344 rfl ?_
  refine lv_goto C.1 C.2.1 k_L1345 (tgt := 1990) (by decide) ?_
  exact W.widen (Nat.le_add_right _ _) (Nat.le_add_right _ _) (kk _ _ _ ⟨I2, hR⟩)
theorem k_case31 {p : Program} {l : Launch} {e : Env} {s : State} {m : MethodId} {below : List Frame} {meth : Method} {c : Code} {Q : State → Prop} {b L : Nat} {xs : Nat → Int32} {D : va_G} {dA : Nat → ClassId} {a1 a2 i cells slots : Nat} {ls : Array Slot} {w : cWld} {H : Heap} {locs : List Loc} (C : k_Cx p s m c b L xs D dA) (I : k_In s D dA a1 a2 w H locs ∧ k_R a1 a2 w) (hl : lv_has ls 4 (k_lv b a1 a2 i)) (hi : i + 7 ≤ L) (hcb : cells + 26 ≤ 600000) (hsb : slots + 1584 ≤ 7302250)
    (kk : ∀ (w : cWld) (H : Heap) (locs : List Loc), k_In s D dA a1 a2 w H locs ∧ k_R a1 a2 w → W p l e room_1 s m #[Value.ref b] below meth c H locs (cells + 26) (slots + 1584) Q (F0 m 1990 ls [])) : W p l e room_1 s m #[Value.ref b] below meth c H locs cells slots Q (F0 m 1348 ls []) := by
  have hc0 : cells ≤ 600000 := by omega
  have hs0 : slots ≤ 7302250 := by omega
  have hc1 := hcb
  have hs1 := hsb
  obtain ⟨I, hR⟩ := I
  refine lv_aload_n C.1 C.2.1 k_L1348 rfl (lv_at hl 1 rfl) ?_
  refine k_arg C I hl (k := 1) (by omega) k_L1349 k_L1350 k_L1351 (by decide) k_L1352 k_L1353 ?_
  refine k_pub C I (a := 167) (idx := 155) (M := k_M167) (ct := k_c167_0) rfl k_pm167_0 rfl (k_in 5 192 rfl rfl) (by decide +kernel) (x := a1) (As := [.int (xs (i + 1))]) (rest := []) [(a1 : Int), ((xs (i + 1))).toInt] (k_preC 0 rfl (by decide +kernel) ⟨k_aR I.2.2.2.2.1, k_aI _, trivial⟩ trivial) (Nat.le_of_ble_eq_true rfl) k_L1354 hc0 hs0 hl.1 (fun rv1 rs1 w1 H1 lo1 hv1 hp1 I1 => ?_)
  obtain ⟨r1, rfl, rfl, -, -⟩ := hv1
  have hR := k_RK hp1.1 (by decide +kernel) (by decide +kernel) hR
  refine lv_pop C.1 C.2.1 k_L1357 rfl ?_
  refine lv_aload_n C.1 C.2.1 k_L1358 rfl (lv_at hl 2 rfl) ?_
  refine k_arg C I1 hl (k := 1) (by omega) k_L1359 k_L1360 k_L1361 (by decide) k_L1362 k_L1363 ?_
  refine k_pub C I1 (a := 298) (idx := 158) (M := k_M298) (ct := k_c298_0) rfl k_pm298_0 rfl (k_in 9 157 rfl rfl) (by decide +kernel) (x := a2) (As := [.int (xs (i + 1))]) (rest := []) [(a2 : Int), ((xs (i + 1))).toInt, 0] (k_preC 3 rfl (by decide +kernel) ⟨k_aR I1.2.2.2.2.2.1, k_aI _, trivial⟩ ⟨k_ghc I1.2.2.2.2.2.2 rfl, trivial⟩) (Nat.le_of_ble_eq_true rfl) k_L1364 hc0 hs0 hl.1 (fun rv2 rs2 w2 H2 lo2 hv2 hp2 I2 => ?_)
  obtain ⟨r2, rfl, rfl, -, -⟩ := hv2
  have hR := k_RK hp2.1 (by decide +kernel) (by decide +kernel) hR
  refine lv_pop C.1 C.2.1 k_L1367 rfl ?_
  refine lv_goto C.1 C.2.1 k_L1368 (tgt := 1990) (by decide) ?_
  exact W.widen (Nat.le_add_right _ _) (Nat.le_add_right _ _) (kk _ _ _ ⟨I2, hR⟩)
theorem k_case32 {p : Program} {l : Launch} {e : Env} {s : State} {m : MethodId} {below : List Frame} {meth : Method} {c : Code} {Q : State → Prop} {b L : Nat} {xs : Nat → Int32} {D : va_G} {dA : Nat → ClassId} {a1 a2 i cells slots : Nat} {ls : Array Slot} {w : cWld} {H : Heap} {locs : List Loc} (C : k_Cx p s m c b L xs D dA) (I : k_In s D dA a1 a2 w H locs ∧ k_R a1 a2 w) (hl : lv_has ls 4 (k_lv b a1 a2 i)) (hi : i + 7 ≤ L) (hcb : cells + 26 ≤ 600000) (hsb : slots + 1584 ≤ 7302250)
    (kk : ∀ (w : cWld) (H : Heap) (locs : List Loc), k_In s D dA a1 a2 w H locs ∧ k_R a1 a2 w → W p l e room_1 s m #[Value.ref b] below meth c H locs (cells + 26) (slots + 1584) Q (F0 m 1990 ls [])) : W p l e room_1 s m #[Value.ref b] below meth c H locs cells slots Q (F0 m 1371 ls []) := by
  have hc0 : cells ≤ 600000 := by omega
  have hs0 : slots ≤ 7302250 := by omega
  have hc1 := hcb
  have hs1 := hsb
  obtain ⟨I, hR⟩ := I
  refine lv_aload_n C.1 C.2.1 k_L1371 rfl (lv_at hl 1 rfl) ?_
  refine k_arg C I hl (k := 1) (by omega) k_L1372 k_L1373 k_L1374 (by decide) k_L1375 k_L1376 ?_
  refine k_arg C I hl (k := 2) (by omega) k_L1377 k_L1378 k_L1379 (by decide) k_L1380 k_L1381 ?_
  refine k_arg C I hl (k := 3) (by omega) k_L1382 k_L1383 k_L1384 (by decide) k_L1385 k_L1386 ?_
  refine k_arg C I hl (k := 4) (by omega) k_L1387 k_L1388 k_L1389 (by decide) k_L1390 k_L1391 ?_
  refine k_arg C I hl (k := 5) (by omega) k_L1392 k_L1393 k_L1394 (by decide) k_L1395 k_L1396 ?_
  refine k_bool C k_L1397 k_L1400 k_L1401 k_L1404 (fun z1 hz1 => ?_)
  refine k_pub C I (a := 169) (idx := 159) (M := k_M169) (ct := k_c169_0) rfl k_pm169_0 rfl (k_in 5 206 rfl rfl) (by decide +kernel) (x := a1) (As := [.int (xs (i + 1)), .int (xs (i + 2)), .int (xs (i + 3)), .int (xs (i + 4)), .int z1]) (rest := []) [(a1 : Int), ((xs (i + 1))).toInt, ((xs (i + 2))).toInt, ((xs (i + 3))).toInt, ((xs (i + 4))).toInt, (z1).toInt] (k_preC 0 rfl (by decide +kernel) ⟨k_aR I.2.2.2.2.1, k_aI _, k_aI _, k_aI _, k_aI _, k_aZ hz1, trivial⟩ trivial) (Nat.le_of_ble_eq_true rfl) k_L1405 hc0 hs0 hl.1 (fun rv1 rs1 w1 H1 lo1 hv1 hp1 I1 => ?_)
  obtain ⟨r1, rfl, rfl, -, -⟩ := hv1
  have hR := k_RK hp1.1 (by decide +kernel) (by decide +kernel) hR
  refine lv_pop C.1 C.2.1 k_L1408 rfl ?_
  refine lv_aload_n C.1 C.2.1 k_L1409 rfl (lv_at hl 2 rfl) ?_
  refine k_arg C I1 hl (k := 1) (by omega) k_L1410 k_L1411 k_L1412 (by decide) k_L1413 k_L1414 ?_
  refine k_arg C I1 hl (k := 2) (by omega) k_L1415 k_L1416 k_L1417 (by decide) k_L1418 k_L1419 ?_
  refine k_arg C I1 hl (k := 3) (by omega) k_L1420 k_L1421 k_L1422 (by decide) k_L1423 k_L1424 ?_
  refine k_arg C I1 hl (k := 4) (by omega) k_L1425 k_L1426 k_L1427 (by decide) k_L1428 k_L1429 ?_
  refine k_arg C I1 hl (k := 5) (by omega) k_L1430 k_L1431 k_L1432 (by decide) k_L1433 k_L1434 ?_
  refine k_bool C k_L1435 k_L1438 k_L1439 k_L1442 (fun z2 hz2 => ?_)
  refine k_pub C I1 (a := 299) (idx := 163) (M := k_M299) (ct := k_c299_0) rfl k_pm299_0 rfl (k_in 9 165 rfl rfl) (by decide +kernel) (x := a2) (As := [.int (xs (i + 1)), .int (xs (i + 2)), .int (xs (i + 3)), .int (xs (i + 4)), .int z2]) (rest := []) [(a2 : Int), ((xs (i + 1))).toInt, ((xs (i + 2))).toInt, ((xs (i + 3))).toInt, ((xs (i + 4))).toInt, (z2).toInt] (k_preC 0 rfl (by decide +kernel) ⟨k_aR I1.2.2.2.2.2.1, k_aI _, k_aI _, k_aI _, k_aI _, k_aZ hz2, trivial⟩ trivial) (Nat.le_of_ble_eq_true rfl) k_L1443 hc0 hs0 hl.1 (fun rv2 rs2 w2 H2 lo2 hv2 hp2 I2 => ?_)
  obtain ⟨r2, rfl, rfl, -, -⟩ := hv2
  have hR := k_RK hp2.1 (by decide +kernel) (by decide +kernel) hR
  refine lv_pop C.1 C.2.1 k_L1446 rfl ?_
  refine lv_goto C.1 C.2.1 k_L1447 (tgt := 1990) (by decide) ?_
  exact W.widen (Nat.le_add_right _ _) (Nat.le_add_right _ _) (kk _ _ _ ⟨I2, hR⟩)
theorem k_case33 {p : Program} {l : Launch} {e : Env} {s : State} {m : MethodId} {below : List Frame} {meth : Method} {c : Code} {Q : State → Prop} {b L : Nat} {xs : Nat → Int32} {D : va_G} {dA : Nat → ClassId} {a1 a2 i cells slots : Nat} {ls : Array Slot} {w : cWld} {H : Heap} {locs : List Loc} (C : k_Cx p s m c b L xs D dA) (I : k_In s D dA a1 a2 w H locs ∧ k_R a1 a2 w) (hl : lv_has ls 4 (k_lv b a1 a2 i)) (hi : i + 7 ≤ L) (hcb : cells + 26 ≤ 600000) (hsb : slots + 1584 ≤ 7302250)
    (kk : ∀ (w : cWld) (H : Heap) (locs : List Loc), k_In s D dA a1 a2 w H locs ∧ k_R a1 a2 w → W p l e room_1 s m #[Value.ref b] below meth c H locs (cells + 26) (slots + 1584) Q (F0 m 1990 ls [])) : W p l e room_1 s m #[Value.ref b] below meth c H locs cells slots Q (F0 m 1450 ls []) := by
  have hc0 : cells ≤ 600000 := by omega
  have hs0 : slots ≤ 7302250 := by omega
  have hc1 := hcb
  have hs1 := hsb
  obtain ⟨I, hR⟩ := I
  refine lv_aload_n C.1 C.2.1 k_L1450 rfl (lv_at hl 1 rfl) ?_
  refine k_pub C I (a := 170) (idx := 164) (M := k_M170) (ct := k_c170_0) rfl k_pm170_0 rfl (k_in 5 211 rfl rfl) (by decide +kernel) (x := a1) (As := []) (rest := []) [(a1 : Int)] (k_preC 0 rfl (by decide +kernel) ⟨k_aR I.2.2.2.2.1, trivial⟩ trivial) (Nat.le_of_ble_eq_true rfl) k_L1451 hc0 hs0 hl.1 (fun rv1 rs1 w1 H1 lo1 hv1 hp1 I1 => ?_)
  obtain ⟨r1, rfl, rfl, -, -⟩ := hv1
  have hR := k_RK hp1.1 (by decide +kernel) (by decide +kernel) hR
  refine lv_pop C.1 C.2.1 k_L1454 rfl ?_
  refine lv_aload_n C.1 C.2.1 k_L1455 rfl (lv_at hl 2 rfl) ?_
  refine k_pub C I1 (a := 300) (idx := 168) (M := k_M300) (ct := k_c300_0) rfl k_pm300_0 rfl (k_in 9 170 rfl rfl) (by decide +kernel) (x := a2) (As := []) (rest := []) [(a2 : Int)] (k_preC 0 rfl (by decide +kernel) ⟨k_aR I1.2.2.2.2.2.1, trivial⟩ trivial) (Nat.le_of_ble_eq_true rfl) k_L1456 hc0 hs0 hl.1 (fun rv2 rs2 w2 H2 lo2 hv2 hp2 I2 => ?_)
  obtain ⟨r2, rfl, rfl, -, -⟩ := hv2
  have hR := k_RK hp2.1 (by decide +kernel) (by decide +kernel) hR
  refine lv_pop C.1 C.2.1 k_L1459 rfl ?_
  refine lv_goto C.1 C.2.1 k_L1460 (tgt := 1990) (by decide) ?_
  exact W.widen (Nat.le_add_right _ _) (Nat.le_add_right _ _) (kk _ _ _ ⟨I2, hR⟩)
theorem k_case34 {p : Program} {l : Launch} {e : Env} {s : State} {m : MethodId} {below : List Frame} {meth : Method} {c : Code} {Q : State → Prop} {b L : Nat} {xs : Nat → Int32} {D : va_G} {dA : Nat → ClassId} {a1 a2 i cells slots : Nat} {ls : Array Slot} {w : cWld} {H : Heap} {locs : List Loc} (C : k_Cx p s m c b L xs D dA) (I : k_In s D dA a1 a2 w H locs ∧ k_R a1 a2 w) (hl : lv_has ls 4 (k_lv b a1 a2 i)) (hi : i + 7 ≤ L) (hcb : cells + 26 ≤ 600000) (hsb : slots + 1584 ≤ 7302250)
    (kk : ∀ (w : cWld) (H : Heap) (locs : List Loc), k_In s D dA a1 a2 w H locs ∧ k_R a1 a2 w → W p l e room_1 s m #[Value.ref b] below meth c H locs (cells + 26) (slots + 1584) Q (F0 m 1990 ls [])) : W p l e room_1 s m #[Value.ref b] below meth c H locs cells slots Q (F0 m 1463 ls []) := by
  have hc0 : cells ≤ 600000 := by omega
  have hs0 : slots ≤ 7302250 := by omega
  have hc1 := hcb
  have hs1 := hsb
  obtain ⟨I, hR⟩ := I
  refine lv_aload_n C.1 C.2.1 k_L1463 rfl (lv_at hl 1 rfl) ?_
  refine k_arg C I hl (k := 1) (by omega) k_L1464 k_L1465 k_L1466 (by decide) k_L1467 k_L1468 ?_
  refine k_arg C I hl (k := 2) (by omega) k_L1469 k_L1470 k_L1471 (by decide) k_L1472 k_L1473 ?_
  refine k_pub C I (a := 171) (idx := 169) (M := k_M171) (ct := k_c171_0) rfl k_pm171_0 rfl (k_in 5 215 rfl rfl) (by decide +kernel) (x := a1) (As := [.int (xs (i + 1)), .int (xs (i + 2))]) (rest := []) [(a1 : Int), ((xs (i + 1))).toInt, ((xs (i + 2))).toInt] (k_preC 0 rfl (by decide +kernel) ⟨k_aR I.2.2.2.2.1, k_aI _, k_aI _, trivial⟩ trivial) (Nat.le_of_ble_eq_true rfl) k_L1474 hc0 hs0 hl.1 (fun rv1 rs1 w1 H1 lo1 hv1 hp1 I1 => ?_)
  obtain ⟨r1, rfl, rfl⟩ := hv1
  have hR := k_RK hp1.1 (by decide +kernel) (by decide +kernel) hR
  refine lv_pop C.1 C.2.1 k_L1477 rfl ?_
  refine lv_aload_n C.1 C.2.1 k_L1478 rfl (lv_at hl 2 rfl) ?_
  refine k_arg C I1 hl (k := 1) (by omega) k_L1479 k_L1480 k_L1481 (by decide) k_L1482 k_L1483 ?_
  refine k_arg C I1 hl (k := 2) (by omega) k_L1484 k_L1485 k_L1486 (by decide) k_L1487 k_L1488 ?_
  refine k_pub C I1 (a := 301) (idx := 172) (M := k_M301) (ct := k_c301_0) rfl k_pm301_0 rfl (k_in 9 174 rfl rfl) (by decide +kernel) (x := a2) (As := [.int (xs (i + 1)), .int (xs (i + 2))]) (rest := []) [(a2 : Int), ((xs (i + 1))).toInt, ((xs (i + 2))).toInt] (k_preC 0 rfl (by decide +kernel) ⟨k_aR I1.2.2.2.2.2.1, k_aI _, k_aI _, trivial⟩ trivial) (Nat.le_of_ble_eq_true rfl) k_L1489 hc0 hs0 hl.1 (fun rv2 rs2 w2 H2 lo2 hv2 hp2 I2 => ?_)
  obtain ⟨r2, rfl, rfl⟩ := hv2
  have hR := k_RK hp2.1 (by decide +kernel) (by decide +kernel) hR
  refine lv_pop C.1 C.2.1 k_L1492 rfl ?_
  refine lv_goto C.1 C.2.1 k_L1493 (tgt := 1990) (by decide) ?_
  exact W.widen (Nat.le_add_right _ _) (Nat.le_add_right _ _) (kk _ _ _ ⟨I2, hR⟩)
theorem k_case35 {p : Program} {l : Launch} {e : Env} {s : State} {m : MethodId} {below : List Frame} {meth : Method} {c : Code} {Q : State → Prop} {b L : Nat} {xs : Nat → Int32} {D : va_G} {dA : Nat → ClassId} {a1 a2 i cells slots : Nat} {ls : Array Slot} {w : cWld} {H : Heap} {locs : List Loc} (C : k_Cx p s m c b L xs D dA) (I : k_In s D dA a1 a2 w H locs ∧ k_R a1 a2 w) (hl : lv_has ls 4 (k_lv b a1 a2 i)) (hi : i + 7 ≤ L) (hcb : cells + 26 ≤ 600000) (hsb : slots + 1584 ≤ 7302250)
    (kk : ∀ (w : cWld) (H : Heap) (locs : List Loc), k_In s D dA a1 a2 w H locs ∧ k_R a1 a2 w → W p l e room_1 s m #[Value.ref b] below meth c H locs (cells + 26) (slots + 1584) Q (F0 m 1990 ls [])) : W p l e room_1 s m #[Value.ref b] below meth c H locs cells slots Q (F0 m 1496 ls []) := by
  have hc0 : cells ≤ 600000 := by omega
  have hs0 : slots ≤ 7302250 := by omega
  have hc1 := hcb
  have hs1 := hsb
  obtain ⟨I, hR⟩ := I
  refine lv_aload_n C.1 C.2.1 k_L1496 rfl (lv_at hl 1 rfl) ?_
  refine k_arg C I hl (k := 1) (by omega) k_L1497 k_L1498 k_L1499 (by decide) k_L1500 k_L1501 ?_
  refine k_arg C I hl (k := 2) (by omega) k_L1502 k_L1503 k_L1504 (by decide) k_L1505 k_L1506 ?_
  refine k_pub C I (a := 173) (idx := 173) (M := k_M173) (ct := k_c173_0) rfl k_pm173_0 rfl (k_in 5 221 rfl rfl) (by decide +kernel) (x := a1) (As := [.int (xs (i + 1)), .int (xs (i + 2))]) (rest := []) [(a1 : Int), ((xs (i + 1))).toInt, ((xs (i + 2))).toInt] (k_preC 0 rfl (by decide +kernel) ⟨k_aR I.2.2.2.2.1, k_aI _, k_aI _, trivial⟩ trivial) (Nat.le_of_ble_eq_true rfl) k_L1507 hc0 hs0 hl.1 (fun rv1 rs1 w1 H1 lo1 hv1 hp1 I1 => ?_)
  obtain ⟨r1, rfl, rfl, -, -⟩ := hv1
  have hR := k_RK hp1.1 (by decide +kernel) (by decide +kernel) hR
  refine lv_pop C.1 C.2.1 k_L1510 rfl ?_
  refine lv_aload_n C.1 C.2.1 k_L1511 rfl (lv_at hl 2 rfl) ?_
  refine k_arg C I1 hl (k := 1) (by omega) k_L1512 k_L1513 k_L1514 (by decide) k_L1515 k_L1516 ?_
  refine k_arg C I1 hl (k := 2) (by omega) k_L1517 k_L1518 k_L1519 (by decide) k_L1520 k_L1521 ?_
  refine k_pub C I1 (a := 303) (idx := 176) (M := k_M303) (ct := k_c303_0) rfl k_pm303_0 rfl (k_in 9 178 rfl rfl) (by decide +kernel) (x := a2) (As := [.int (xs (i + 1)), .int (xs (i + 2))]) (rest := []) [(a2 : Int), ((xs (i + 1))).toInt, ((xs (i + 2))).toInt, 0] (k_preC 4 rfl (by decide +kernel) ⟨k_aR I1.2.2.2.2.2.1, k_aI _, k_aI _, trivial⟩ ⟨k_ghc I1.2.2.2.2.2.2 rfl, trivial⟩) (Nat.le_of_ble_eq_true rfl) k_L1522 hc0 hs0 hl.1 (fun rv2 rs2 w2 H2 lo2 hv2 hp2 I2 => ?_)
  obtain ⟨r2, rfl, rfl, -, -⟩ := hv2
  have hR := k_RK hp2.1 (by decide +kernel) (by decide +kernel) hR
  refine lv_pop C.1 C.2.1 k_L1525 rfl ?_
  refine lv_goto C.1 C.2.1 k_L1526 (tgt := 1990) (by decide) ?_
  exact W.widen (Nat.le_add_right _ _) (Nat.le_add_right _ _) (kk _ _ _ ⟨I2, hR⟩)
theorem k_case36 {p : Program} {l : Launch} {e : Env} {s : State} {m : MethodId} {below : List Frame} {meth : Method} {c : Code} {Q : State → Prop} {b L : Nat} {xs : Nat → Int32} {D : va_G} {dA : Nat → ClassId} {a1 a2 i cells slots : Nat} {ls : Array Slot} {w : cWld} {H : Heap} {locs : List Loc} (C : k_Cx p s m c b L xs D dA) (I : k_In s D dA a1 a2 w H locs ∧ k_R a1 a2 w) (hl : lv_has ls 4 (k_lv b a1 a2 i)) (hi : i + 7 ≤ L) (hcb : cells + 26 ≤ 600000) (hsb : slots + 1584 ≤ 7302250)
    (kk : ∀ (w : cWld) (H : Heap) (locs : List Loc), k_In s D dA a1 a2 w H locs ∧ k_R a1 a2 w → W p l e room_1 s m #[Value.ref b] below meth c H locs (cells + 26) (slots + 1584) Q (F0 m 1990 ls [])) : W p l e room_1 s m #[Value.ref b] below meth c H locs cells slots Q (F0 m 1529 ls []) := by
  have hc0 : cells ≤ 600000 := by omega
  have hs0 : slots ≤ 7302250 := by omega
  have hc1 := hcb
  have hs1 := hsb
  obtain ⟨I, hR⟩ := I
  refine lv_aload_n C.1 C.2.1 k_L1529 rfl (lv_at hl 1 rfl) ?_
  refine k_arg C I hl (k := 1) (by omega) k_L1530 k_L1531 k_L1532 (by decide) k_L1533 k_L1534 ?_
  refine k_pub C I (a := 174) (idx := 177) (M := k_M174) (ct := k_c174_0) rfl k_pm174_0 rfl (k_in 5 229 rfl rfl) (by decide +kernel) (x := a1) (As := [.int (xs (i + 1))]) (rest := []) [(a1 : Int), ((xs (i + 1))).toInt] (k_preC 0 rfl (by decide +kernel) ⟨k_aR I.2.2.2.2.1, k_aI _, trivial⟩ trivial) (Nat.le_of_ble_eq_true rfl) k_L1535 hc0 hs0 hl.1 (fun rv1 rs1 w1 H1 lo1 hv1 hp1 I1 => ?_)
  obtain ⟨r1, rfl, rfl⟩ := hv1
  have hR := k_RK hp1.1 (by decide +kernel) (by decide +kernel) hR
  refine lv_pop C.1 C.2.1 k_L1538 rfl ?_
  refine lv_aload_n C.1 C.2.1 k_L1539 rfl (lv_at hl 2 rfl) ?_
  refine k_arg C I1 hl (k := 1) (by omega) k_L1540 k_L1541 k_L1542 (by decide) k_L1543 k_L1544 ?_
  refine k_pub C I1 (a := 304) (idx := 180) (M := k_M304) (ct := k_c304_0) rfl k_pm304_0 rfl (k_in 9 186 rfl rfl) (by decide +kernel) (x := a2) (As := [.int (xs (i + 1))]) (rest := []) [(a2 : Int), ((xs (i + 1))).toInt, 0] (k_preC 3 rfl (by decide +kernel) ⟨k_aR I1.2.2.2.2.2.1, k_aI _, trivial⟩ ⟨k_ghc I1.2.2.2.2.2.2 rfl, trivial⟩) (Nat.le_of_ble_eq_true rfl) k_L1545 hc0 hs0 hl.1 (fun rv2 rs2 w2 H2 lo2 hv2 hp2 I2 => ?_)
  obtain ⟨r2, rfl, rfl⟩ := hv2
  have hR := k_RK hp2.1 (by decide +kernel) (by decide +kernel) hR
  refine lv_pop C.1 C.2.1 k_L1548 rfl ?_
  refine lv_goto C.1 C.2.1 k_L1549 (tgt := 1990) (by decide) ?_
  exact W.widen (Nat.le_add_right _ _) (Nat.le_add_right _ _) (kk _ _ _ ⟨I2, hR⟩)
theorem k_case37 {p : Program} {l : Launch} {e : Env} {s : State} {m : MethodId} {below : List Frame} {meth : Method} {c : Code} {Q : State → Prop} {b L : Nat} {xs : Nat → Int32} {D : va_G} {dA : Nat → ClassId} {a1 a2 i cells slots : Nat} {ls : Array Slot} {w : cWld} {H : Heap} {locs : List Loc} (C : k_Cx p s m c b L xs D dA) (I : k_In s D dA a1 a2 w H locs ∧ k_R a1 a2 w) (hl : lv_has ls 4 (k_lv b a1 a2 i)) (hi : i + 7 ≤ L) (hcb : cells + 26 ≤ 600000) (hsb : slots + 1584 ≤ 7302250)
    (kk : ∀ (w : cWld) (H : Heap) (locs : List Loc), k_In s D dA a1 a2 w H locs ∧ k_R a1 a2 w → W p l e room_1 s m #[Value.ref b] below meth c H locs (cells + 26) (slots + 1584) Q (F0 m 1990 ls [])) : W p l e room_1 s m #[Value.ref b] below meth c H locs cells slots Q (F0 m 1552 ls []) := by
  have hc0 : cells ≤ 600000 := by omega
  have hs0 : slots ≤ 7302250 := by omega
  have hc1 := hcb
  have hs1 := hsb
  obtain ⟨I, hR⟩ := I
  refine lv_aload_n C.1 C.2.1 k_L1552 rfl (lv_at hl 1 rfl) ?_
  refine k_arg C I hl (k := 1) (by omega) k_L1553 k_L1554 k_L1555 (by decide) k_L1556 k_L1557 ?_
  refine k_pub C I (a := 176) (idx := 181) (M := k_M176) (ct := k_c176_0) rfl k_pm176_0 rfl (k_in 5 233 rfl rfl) (by decide +kernel) (x := a1) (As := [.int (xs (i + 1))]) (rest := []) [(a1 : Int), ((xs (i + 1))).toInt] (k_preC 0 rfl (by decide +kernel) ⟨k_aR I.2.2.2.2.1, k_aI _, trivial⟩ trivial) (Nat.le_of_ble_eq_true rfl) k_L1558 hc0 hs0 hl.1 (fun rv1 rs1 w1 H1 lo1 hv1 hp1 I1 => ?_)
  obtain ⟨r1, rfl, rfl, -, -⟩ := hv1
  have hR := k_RK hp1.1 (by decide +kernel) (by decide +kernel) hR
  refine lv_pop C.1 C.2.1 k_L1561 rfl ?_
  refine lv_aload_n C.1 C.2.1 k_L1562 rfl (lv_at hl 2 rfl) ?_
  refine k_arg C I1 hl (k := 1) (by omega) k_L1563 k_L1564 k_L1565 (by decide) k_L1566 k_L1567 ?_
  refine k_pub C I1 (a := 306) (idx := 184) (M := k_M306) (ct := k_c306_0) rfl k_pm306_0 rfl (k_in 9 190 rfl rfl) (by decide +kernel) (x := a2) (As := [.int (xs (i + 1))]) (rest := []) [(a2 : Int), ((xs (i + 1))).toInt, 0] (k_preC 3 rfl (by decide +kernel) ⟨k_aR I1.2.2.2.2.2.1, k_aI _, trivial⟩ ⟨k_ghc I1.2.2.2.2.2.2 rfl, trivial⟩) (Nat.le_of_ble_eq_true rfl) k_L1568 hc0 hs0 hl.1 (fun rv2 rs2 w2 H2 lo2 hv2 hp2 I2 => ?_)
  obtain ⟨r2, rfl, rfl, -, -⟩ := hv2
  have hR := k_RK hp2.1 (by decide +kernel) (by decide +kernel) hR
  refine lv_pop C.1 C.2.1 k_L1571 rfl ?_
  refine lv_goto C.1 C.2.1 k_L1572 (tgt := 1990) (by decide) ?_
  exact W.widen (Nat.le_add_right _ _) (Nat.le_add_right _ _) (kk _ _ _ ⟨I2, hR⟩)
theorem k_case38 {p : Program} {l : Launch} {e : Env} {s : State} {m : MethodId} {below : List Frame} {meth : Method} {c : Code} {Q : State → Prop} {b L : Nat} {xs : Nat → Int32} {D : va_G} {dA : Nat → ClassId} {a1 a2 i cells slots : Nat} {ls : Array Slot} {w : cWld} {H : Heap} {locs : List Loc} (C : k_Cx p s m c b L xs D dA) (I : k_In s D dA a1 a2 w H locs ∧ k_R a1 a2 w) (hl : lv_has ls 4 (k_lv b a1 a2 i)) (hi : i + 7 ≤ L) (hcb : cells + 26 ≤ 600000) (hsb : slots + 1584 ≤ 7302250)
    (kk : ∀ (w : cWld) (H : Heap) (locs : List Loc), k_In s D dA a1 a2 w H locs ∧ k_R a1 a2 w → W p l e room_1 s m #[Value.ref b] below meth c H locs (cells + 26) (slots + 1584) Q (F0 m 1990 ls [])) : W p l e room_1 s m #[Value.ref b] below meth c H locs cells slots Q (F0 m 1575 ls []) := by
  have hc0 : cells ≤ 600000 := by omega
  have hs0 : slots ≤ 7302250 := by omega
  have hc1 := hcb
  have hs1 := hsb
  obtain ⟨I, hR⟩ := I
  refine lv_aload_n C.1 C.2.1 k_L1575 rfl (lv_at hl 1 rfl) ?_
  refine k_arg C I hl (k := 1) (by omega) k_L1576 k_L1577 k_L1578 (by decide) k_L1579 k_L1580 ?_
  refine k_pub C I (a := 177) (idx := 185) (M := k_M177) (ct := k_c177_0) rfl k_pm177_0 rfl (k_in 6 2 rfl rfl) (by decide +kernel) (x := a1) (As := [.int (xs (i + 1))]) (rest := []) [(a1 : Int), ((xs (i + 1))).toInt] (k_preC 0 rfl (by decide +kernel) ⟨k_aR I.2.2.2.2.1, k_aI _, trivial⟩ trivial) (Nat.le_of_ble_eq_true rfl) k_L1581 hc0 hs0 hl.1 (fun rv1 rs1 w1 H1 lo1 hv1 hp1 I1 => ?_)
  obtain ⟨r1, rfl, rfl, -, -⟩ := hv1
  have hR := k_RK hp1.1 (by decide +kernel) (by decide +kernel) hR
  refine lv_pop C.1 C.2.1 k_L1584 rfl ?_
  refine lv_aload_n C.1 C.2.1 k_L1585 rfl (lv_at hl 2 rfl) ?_
  refine k_arg C I1 hl (k := 1) (by omega) k_L1586 k_L1587 k_L1588 (by decide) k_L1589 k_L1590 ?_
  refine k_pub C I1 (a := 307) (idx := 188) (M := k_M307) (ct := k_c307_0) rfl k_pm307_0 rfl (k_in 9 198 rfl rfl) (by decide +kernel) (x := a2) (As := [.int (xs (i + 1))]) (rest := []) [(a2 : Int), ((xs (i + 1))).toInt, 0] (k_preC 3 rfl (by decide +kernel) ⟨k_aR I1.2.2.2.2.2.1, k_aI _, trivial⟩ ⟨k_ghc I1.2.2.2.2.2.2 rfl, trivial⟩) (Nat.le_of_ble_eq_true rfl) k_L1591 hc0 hs0 hl.1 (fun rv2 rs2 w2 H2 lo2 hv2 hp2 I2 => ?_)
  obtain ⟨r2, rfl, rfl, -, -⟩ := hv2
  have hR := k_RK hp2.1 (by decide +kernel) (by decide +kernel) hR
  refine lv_pop C.1 C.2.1 k_L1594 rfl ?_
  refine lv_goto C.1 C.2.1 k_L1595 (tgt := 1990) (by decide) ?_
  exact W.widen (Nat.le_add_right _ _) (Nat.le_add_right _ _) (kk _ _ _ ⟨I2, hR⟩)
theorem k_case39 {p : Program} {l : Launch} {e : Env} {s : State} {m : MethodId} {below : List Frame} {meth : Method} {c : Code} {Q : State → Prop} {b L : Nat} {xs : Nat → Int32} {D : va_G} {dA : Nat → ClassId} {a1 a2 i cells slots : Nat} {ls : Array Slot} {w : cWld} {H : Heap} {locs : List Loc} (C : k_Cx p s m c b L xs D dA) (I : k_In s D dA a1 a2 w H locs ∧ k_R a1 a2 w) (hl : lv_has ls 4 (k_lv b a1 a2 i)) (hi : i + 7 ≤ L) (hcb : cells + 26 ≤ 600000) (hsb : slots + 1584 ≤ 7302250)
    (kk : ∀ (w : cWld) (H : Heap) (locs : List Loc), k_In s D dA a1 a2 w H locs ∧ k_R a1 a2 w → W p l e room_1 s m #[Value.ref b] below meth c H locs (cells + 26) (slots + 1584) Q (F0 m 1990 ls [])) : W p l e room_1 s m #[Value.ref b] below meth c H locs cells slots Q (F0 m 1598 ls []) := by
  have hc0 : cells ≤ 600000 := by omega
  have hs0 : slots ≤ 7302250 := by omega
  have hc1 := hcb
  have hs1 := hsb
  obtain ⟨I, hR⟩ := I
  refine lv_aload_n C.1 C.2.1 k_L1598 rfl (lv_at hl 1 rfl) ?_
  refine k_arg C I hl (k := 1) (by omega) k_L1599 k_L1600 k_L1601 (by decide) k_L1602 k_L1603 ?_
  refine k_pub C I (a := 180) (idx := 189) (M := k_M180) (ct := k_c180_0) rfl k_pm180_0 rfl (k_in 6 6 rfl rfl) (by decide +kernel) (x := a1) (As := [.int (xs (i + 1))]) (rest := []) [(a1 : Int), ((xs (i + 1))).toInt] (k_preC 0 rfl (by decide +kernel) ⟨k_aR I.2.2.2.2.1, k_aI _, trivial⟩ trivial) (Nat.le_of_ble_eq_true rfl) k_L1604 hc0 hs0 hl.1 (fun rv1 rs1 w1 H1 lo1 hv1 hp1 I1 => ?_)
  obtain ⟨r1, rfl, rfl, -, -⟩ := hv1
  have hR := k_RK hp1.1 (by decide +kernel) (by decide +kernel) hR
  refine lv_pop C.1 C.2.1 k_L1607 rfl ?_
  refine lv_aload_n C.1 C.2.1 k_L1608 rfl (lv_at hl 2 rfl) ?_
  refine k_arg C I1 hl (k := 1) (by omega) k_L1609 k_L1610 k_L1611 (by decide) k_L1612 k_L1613 ?_
  refine k_pub C I1 (a := 310) (idx := 192) (M := k_M310) (ct := k_c310_0) rfl k_pm310_0 rfl (k_in 9 202 rfl rfl) (by decide +kernel) (x := a2) (As := [.int (xs (i + 1))]) (rest := []) [(a2 : Int), ((xs (i + 1))).toInt] (k_preC 0 rfl (by decide +kernel) ⟨k_aR I1.2.2.2.2.2.1, k_aI _, trivial⟩ trivial) (Nat.le_of_ble_eq_true rfl) k_L1614 hc0 hs0 hl.1 (fun rv2 rs2 w2 H2 lo2 hv2 hp2 I2 => ?_)
  obtain ⟨r2, rfl, rfl, -, -⟩ := hv2
  have hR := k_RK hp2.1 (by decide +kernel) (by decide +kernel) hR
  refine lv_pop C.1 C.2.1 k_L1617 rfl ?_
  refine lv_goto C.1 C.2.1 k_L1618 (tgt := 1990) (by decide) ?_
  exact W.widen (Nat.le_add_right _ _) (Nat.le_add_right _ _) (kk _ _ _ ⟨I2, hR⟩)
theorem k_case40 {p : Program} {l : Launch} {e : Env} {s : State} {m : MethodId} {below : List Frame} {meth : Method} {c : Code} {Q : State → Prop} {b L : Nat} {xs : Nat → Int32} {D : va_G} {dA : Nat → ClassId} {a1 a2 i cells slots : Nat} {ls : Array Slot} {w : cWld} {H : Heap} {locs : List Loc} (C : k_Cx p s m c b L xs D dA) (I : k_In s D dA a1 a2 w H locs ∧ k_R a1 a2 w) (hl : lv_has ls 4 (k_lv b a1 a2 i)) (hi : i + 7 ≤ L) (hcb : cells + 26 ≤ 600000) (hsb : slots + 1584 ≤ 7302250)
    (kk : ∀ (w : cWld) (H : Heap) (locs : List Loc), k_In s D dA a1 a2 w H locs ∧ k_R a1 a2 w → W p l e room_1 s m #[Value.ref b] below meth c H locs (cells + 26) (slots + 1584) Q (F0 m 1990 ls [])) : W p l e room_1 s m #[Value.ref b] below meth c H locs cells slots Q (F0 m 1621 ls []) := by
  have hc0 : cells ≤ 600000 := by omega
  have hs0 : slots ≤ 7302250 := by omega
  have hc1 := hcb
  have hs1 := hsb
  obtain ⟨I, hR⟩ := I
  refine lv_aload_n C.1 C.2.1 k_L1621 rfl (lv_at hl 1 rfl) ?_
  refine k_arg C I hl (k := 1) (by omega) k_L1622 k_L1623 k_L1624 (by decide) k_L1625 k_L1626 ?_
  refine k_pub C I (a := 181) (idx := 193) (M := k_M181) (ct := k_c181_0) rfl k_pm181_0 rfl (k_in 6 18 rfl rfl) (by decide +kernel) (x := a1) (As := [.int (xs (i + 1))]) (rest := []) [(a1 : Int), ((xs (i + 1))).toInt] (k_preC 0 rfl (by decide +kernel) ⟨k_aR I.2.2.2.2.1, k_aI _, trivial⟩ trivial) (Nat.le_of_ble_eq_true rfl) k_L1627 hc0 hs0 hl.1 (fun rv1 rs1 w1 H1 lo1 hv1 hp1 I1 => ?_)
  obtain ⟨r1, rfl, rfl, -, -⟩ := hv1
  have hR := k_RK hp1.1 (by decide +kernel) (by decide +kernel) hR
  refine lv_pop C.1 C.2.1 k_L1630 rfl ?_
  refine lv_aload_n C.1 C.2.1 k_L1631 rfl (lv_at hl 2 rfl) ?_
  refine k_arg C I1 hl (k := 1) (by omega) k_L1632 k_L1633 k_L1634 (by decide) k_L1635 k_L1636 ?_
  refine k_pub C I1 (a := 311) (idx := 196) (M := k_M311) (ct := k_c311_0) rfl k_pm311_0 rfl (k_in 9 214 rfl rfl) (by decide +kernel) (x := a2) (As := [.int (xs (i + 1))]) (rest := []) [(a2 : Int), ((xs (i + 1))).toInt] (k_preC 0 rfl (by decide +kernel) ⟨k_aR I1.2.2.2.2.2.1, k_aI _, trivial⟩ trivial) (Nat.le_of_ble_eq_true rfl) k_L1637 hc0 hs0 hl.1 (fun rv2 rs2 w2 H2 lo2 hv2 hp2 I2 => ?_)
  obtain ⟨r2, rfl, rfl, -, -⟩ := hv2
  have hR := k_RK hp2.1 (by decide +kernel) (by decide +kernel) hR
  refine lv_pop C.1 C.2.1 k_L1640 rfl ?_
  refine lv_goto C.1 C.2.1 k_L1641 (tgt := 1990) (by decide) ?_
  exact W.widen (Nat.le_add_right _ _) (Nat.le_add_right _ _) (kk _ _ _ ⟨I2, hR⟩)
theorem k_case41 {p : Program} {l : Launch} {e : Env} {s : State} {m : MethodId} {below : List Frame} {meth : Method} {c : Code} {Q : State → Prop} {b L : Nat} {xs : Nat → Int32} {D : va_G} {dA : Nat → ClassId} {a1 a2 i cells slots : Nat} {ls : Array Slot} {w : cWld} {H : Heap} {locs : List Loc} (C : k_Cx p s m c b L xs D dA) (I : k_In s D dA a1 a2 w H locs ∧ k_R a1 a2 w) (hl : lv_has ls 4 (k_lv b a1 a2 i)) (hi : i + 7 ≤ L) (hcb : cells + 26 ≤ 600000) (hsb : slots + 1584 ≤ 7302250)
    (kk : ∀ (w : cWld) (H : Heap) (locs : List Loc), k_In s D dA a1 a2 w H locs ∧ k_R a1 a2 w → W p l e room_1 s m #[Value.ref b] below meth c H locs (cells + 26) (slots + 1584) Q (F0 m 1990 ls [])) : W p l e room_1 s m #[Value.ref b] below meth c H locs cells slots Q (F0 m 1644 ls []) := by
  have hc0 : cells ≤ 600000 := by omega
  have hs0 : slots ≤ 7302250 := by omega
  have hc1 := hcb
  have hs1 := hsb
  obtain ⟨I, hR⟩ := I
  refine lv_aload_n C.1 C.2.1 k_L1644 rfl (lv_at hl 1 rfl) ?_
  refine k_arg C I hl (k := 1) (by omega) k_L1645 k_L1646 k_L1647 (by decide) k_L1648 k_L1649 ?_
  refine k_arg C I hl (k := 2) (by omega) k_L1650 k_L1651 k_L1652 (by decide) k_L1653 k_L1654 ?_
  refine k_pub C I (a := 184) (idx := 197) (M := k_M184) (ct := k_c184_0) rfl k_pm184_0 rfl (k_in 6 22 rfl rfl) (by decide +kernel) (x := a1) (As := [.int (xs (i + 1)), .int (xs (i + 2))]) (rest := []) [(a1 : Int), ((xs (i + 1))).toInt, ((xs (i + 2))).toInt] (k_preC 0 rfl (by decide +kernel) ⟨k_aR I.2.2.2.2.1, k_aI _, k_aI _, trivial⟩ trivial) (Nat.le_of_ble_eq_true rfl) k_L1655 hc0 hs0 hl.1 (fun rv1 rs1 w1 H1 lo1 hv1 hp1 I1 => ?_)
  obtain ⟨r1, rfl, rfl⟩ := hv1
  have hR := k_RK hp1.1 (by decide +kernel) (by decide +kernel) hR
  refine lv_pop C.1 C.2.1 k_L1658 rfl ?_
  refine lv_aload_n C.1 C.2.1 k_L1659 rfl (lv_at hl 2 rfl) ?_
  refine k_arg C I1 hl (k := 1) (by omega) k_L1660 k_L1661 k_L1662 (by decide) k_L1663 k_L1664 ?_
  refine k_arg C I1 hl (k := 2) (by omega) k_L1665 k_L1666 k_L1667 (by decide) k_L1668 k_L1669 ?_
  refine k_pub C I1 (a := 314) (idx := 200) (M := k_M314) (ct := k_c314_0) rfl k_pm314_0 rfl (k_in 9 218 rfl rfl) (by decide +kernel) (x := a2) (As := [.int (xs (i + 1)), .int (xs (i + 2))]) (rest := []) [(a2 : Int), ((xs (i + 1))).toInt, ((xs (i + 2))).toInt, 0] (k_preC 4 rfl (by decide +kernel) ⟨k_aR I1.2.2.2.2.2.1, k_aI _, k_aI _, trivial⟩ ⟨k_ghc I1.2.2.2.2.2.2 rfl, trivial⟩) (Nat.le_of_ble_eq_true rfl) k_L1670 hc0 hs0 hl.1 (fun rv2 rs2 w2 H2 lo2 hv2 hp2 I2 => ?_)
  obtain ⟨r2, rfl, rfl⟩ := hv2
  have hR := k_RK hp2.1 (by decide +kernel) (by decide +kernel) hR
  refine lv_pop C.1 C.2.1 k_L1673 rfl ?_
  refine lv_goto C.1 C.2.1 k_L1674 (tgt := 1990) (by decide) ?_
  exact W.widen (Nat.le_add_right _ _) (Nat.le_add_right _ _) (kk _ _ _ ⟨I2, hR⟩)
theorem k_case42 {p : Program} {l : Launch} {e : Env} {s : State} {m : MethodId} {below : List Frame} {meth : Method} {c : Code} {Q : State → Prop} {b L : Nat} {xs : Nat → Int32} {D : va_G} {dA : Nat → ClassId} {a1 a2 i cells slots : Nat} {ls : Array Slot} {w : cWld} {H : Heap} {locs : List Loc} (C : k_Cx p s m c b L xs D dA) (I : k_In s D dA a1 a2 w H locs ∧ k_R a1 a2 w) (hl : lv_has ls 4 (k_lv b a1 a2 i)) (hi : i + 7 ≤ L) (hcb : cells + 26 ≤ 600000) (hsb : slots + 1584 ≤ 7302250)
    (kk : ∀ (w : cWld) (H : Heap) (locs : List Loc), k_In s D dA a1 a2 w H locs ∧ k_R a1 a2 w → W p l e room_1 s m #[Value.ref b] below meth c H locs (cells + 26) (slots + 1584) Q (F0 m 1990 ls [])) : W p l e room_1 s m #[Value.ref b] below meth c H locs cells slots Q (F0 m 1677 ls []) := by
  have hc0 : cells ≤ 600000 := by omega
  have hs0 : slots ≤ 7302250 := by omega
  have hc1 := hcb
  have hs1 := hsb
  obtain ⟨I, hR⟩ := I
  refine lv_aload_n C.1 C.2.1 k_L1677 rfl (lv_at hl 1 rfl) ?_
  refine k_arg C I hl (k := 1) (by omega) k_L1678 k_L1679 k_L1680 (by decide) k_L1681 k_L1682 ?_
  refine k_arg C I hl (k := 2) (by omega) k_L1683 k_L1684 k_L1685 (by decide) k_L1686 k_L1687 ?_
  refine k_arg C I hl (k := 3) (by omega) k_L1688 k_L1689 k_L1690 (by decide) k_L1691 k_L1692 ?_
  refine k_arg C I hl (k := 4) (by omega) k_L1693 k_L1694 k_L1695 (by decide) k_L1696 k_L1697 ?_
  refine k_arg C I hl (k := 5) (by omega) k_L1698 k_L1699 k_L1700 (by decide) k_L1701 k_L1702 ?_
  refine k_pub C I (a := 186) (idx := 201) (M := k_M186) (ct := k_c186_0) rfl k_pm186_0 rfl (k_in 6 39 rfl rfl) (by decide +kernel) (x := a1) (As := [.int (xs (i + 1)), .int (xs (i + 2)), .int (xs (i + 3)), .int (xs (i + 4)), .int (xs (i + 5))]) (rest := []) [(a1 : Int), ((xs (i + 1))).toInt, ((xs (i + 2))).toInt, ((xs (i + 3))).toInt, ((xs (i + 4))).toInt, ((xs (i + 5))).toInt] (k_preC 0 rfl (by decide +kernel) ⟨k_aR I.2.2.2.2.1, k_aI _, k_aI _, k_aI _, k_aI _, k_aI _, trivial⟩ trivial) (Nat.le_of_ble_eq_true rfl) k_L1703 hc0 hs0 hl.1 (fun rv1 rs1 w1 H1 lo1 hv1 hp1 I1 => ?_)
  obtain ⟨r1, rfl, rfl⟩ := hv1
  have hR := k_RK hp1.1 (by decide +kernel) (by decide +kernel) hR
  refine lv_pop C.1 C.2.1 k_L1706 rfl ?_
  refine lv_aload_n C.1 C.2.1 k_L1707 rfl (lv_at hl 2 rfl) ?_
  refine k_arg C I1 hl (k := 1) (by omega) k_L1708 k_L1709 k_L1710 (by decide) k_L1711 k_L1712 ?_
  refine k_arg C I1 hl (k := 2) (by omega) k_L1713 k_L1714 k_L1715 (by decide) k_L1716 k_L1717 ?_
  refine k_arg C I1 hl (k := 3) (by omega) k_L1718 k_L1719 k_L1720 (by decide) k_L1721 k_L1722 ?_
  refine k_arg C I1 hl (k := 4) (by omega) k_L1723 k_L1724 k_L1725 (by decide) k_L1726 k_L1727 ?_
  refine k_arg C I1 hl (k := 5) (by omega) k_L1728 k_L1729 k_L1730 (by decide) k_L1731 k_L1732 ?_
  refine k_pub C I1 (a := 318) (idx := 204) (M := k_M318) (ct := k_c318_0) rfl k_pm318_0 rfl (k_in 9 231 rfl rfl) (by decide +kernel) (x := a2) (As := [.int (xs (i + 1)), .int (xs (i + 2)), .int (xs (i + 3)), .int (xs (i + 4)), .int (xs (i + 5))]) (rest := []) [(a2 : Int), ((xs (i + 1))).toInt, ((xs (i + 2))).toInt, ((xs (i + 3))).toInt, ((xs (i + 4))).toInt, ((xs (i + 5))).toInt, 0] (k_preC 7 rfl (by decide +kernel) ⟨k_aR I1.2.2.2.2.2.1, k_aI _, k_aI _, k_aI _, k_aI _, k_aI _, trivial⟩ ⟨k_ghc I1.2.2.2.2.2.2 rfl, trivial⟩) (Nat.le_of_ble_eq_true rfl) k_L1733 hc0 hs0 hl.1 (fun rv2 rs2 w2 H2 lo2 hv2 hp2 I2 => ?_)
  obtain ⟨r2, rfl, rfl⟩ := hv2
  have hR := k_RK hp2.1 (by decide +kernel) (by decide +kernel) hR
  refine lv_pop C.1 C.2.1 k_L1736 rfl ?_
  refine lv_goto C.1 C.2.1 k_L1737 (tgt := 1990) (by decide) ?_
  exact W.widen (Nat.le_add_right _ _) (Nat.le_add_right _ _) (kk _ _ _ ⟨I2, hR⟩)
theorem k_case43 {p : Program} {l : Launch} {e : Env} {s : State} {m : MethodId} {below : List Frame} {meth : Method} {c : Code} {Q : State → Prop} {b L : Nat} {xs : Nat → Int32} {D : va_G} {dA : Nat → ClassId} {a1 a2 i cells slots : Nat} {ls : Array Slot} {w : cWld} {H : Heap} {locs : List Loc} (C : k_Cx p s m c b L xs D dA) (I : k_In s D dA a1 a2 w H locs ∧ k_R a1 a2 w) (hl : lv_has ls 4 (k_lv b a1 a2 i)) (hi : i + 7 ≤ L) (hcb : cells + 26 ≤ 600000) (hsb : slots + 1584 ≤ 7302250)
    (kk : ∀ (w : cWld) (H : Heap) (locs : List Loc), k_In s D dA a1 a2 w H locs ∧ k_R a1 a2 w → W p l e room_1 s m #[Value.ref b] below meth c H locs (cells + 26) (slots + 1584) Q (F0 m 1990 ls [])) : W p l e room_1 s m #[Value.ref b] below meth c H locs cells slots Q (F0 m 1740 ls []) := by
  have hc0 : cells ≤ 600000 := by omega
  have hs0 : slots ≤ 7302250 := by omega
  have hc1 := hcb
  have hs1 := hsb
  obtain ⟨I, hR⟩ := I
  refine lv_aload_n C.1 C.2.1 k_L1740 rfl (lv_at hl 1 rfl) ?_
  refine k_arg C I hl (k := 1) (by omega) k_L1741 k_L1742 k_L1743 (by decide) k_L1744 k_L1745 ?_
  refine k_arg C I hl (k := 2) (by omega) k_L1746 k_L1747 k_L1748 (by decide) k_L1749 k_L1750 ?_
  refine k_arg C I hl (k := 3) (by omega) k_L1751 k_L1752 k_L1753 (by decide) k_L1754 k_L1755 ?_
  refine k_arg C I hl (k := 4) (by omega) k_L1756 k_L1757 k_L1758 (by decide) k_L1759 k_L1760 ?_
  refine k_arg C I hl (k := 5) (by omega) k_L1761 k_L1762 k_L1763 (by decide) k_L1764 k_L1765 ?_
  refine k_pub C I (a := 188) (idx := 205) (M := k_M188) (ct := k_c188_0) rfl k_pm188_0 rfl (k_in 6 68 rfl rfl) (by decide +kernel) (x := a1) (As := [.int (xs (i + 1)), .int (xs (i + 2)), .int (xs (i + 3)), .int (xs (i + 4)), .int (xs (i + 5))]) (rest := []) [(a1 : Int), ((xs (i + 1))).toInt, ((xs (i + 2))).toInt, ((xs (i + 3))).toInt, ((xs (i + 4))).toInt, ((xs (i + 5))).toInt] (k_preC 0 rfl (by decide +kernel) ⟨k_aR I.2.2.2.2.1, k_aI _, k_aI _, k_aI _, k_aI _, k_aI _, trivial⟩ trivial) (Nat.le_of_ble_eq_true rfl) k_L1766 hc0 hs0 hl.1 (fun rv1 rs1 w1 H1 lo1 hv1 hp1 I1 => ?_)
  obtain ⟨r1, rfl, rfl, -, -⟩ := hv1
  have hR := k_RK hp1.1 (by decide +kernel) (by decide +kernel) hR
  refine lv_pop C.1 C.2.1 k_L1769 rfl ?_
  refine lv_aload_n C.1 C.2.1 k_L1770 rfl (lv_at hl 2 rfl) ?_
  refine k_arg C I1 hl (k := 1) (by omega) k_L1771 k_L1772 k_L1773 (by decide) k_L1774 k_L1775 ?_
  refine k_arg C I1 hl (k := 2) (by omega) k_L1776 k_L1777 k_L1778 (by decide) k_L1779 k_L1780 ?_
  refine k_arg C I1 hl (k := 3) (by omega) k_L1781 k_L1782 k_L1783 (by decide) k_L1784 k_L1785 ?_
  refine k_arg C I1 hl (k := 4) (by omega) k_L1786 k_L1787 k_L1788 (by decide) k_L1789 k_L1790 ?_
  refine k_arg C I1 hl (k := 5) (by omega) k_L1791 k_L1792 k_L1793 (by decide) k_L1794 k_L1795 ?_
  refine k_pub C I1 (a := 319) (idx := 208) (M := k_M319) (ct := k_c319_0) rfl k_pm319_0 rfl (k_in 10 9 rfl rfl) (by decide +kernel) (x := a2) (As := [.int (xs (i + 1)), .int (xs (i + 2)), .int (xs (i + 3)), .int (xs (i + 4)), .int (xs (i + 5))]) (rest := []) [(a2 : Int), ((xs (i + 1))).toInt, ((xs (i + 2))).toInt, ((xs (i + 3))).toInt, ((xs (i + 4))).toInt, ((xs (i + 5))).toInt, 0] (k_preC 7 rfl (by decide +kernel) ⟨k_aR I1.2.2.2.2.2.1, k_aI _, k_aI _, k_aI _, k_aI _, k_aI _, trivial⟩ ⟨k_ghc I1.2.2.2.2.2.2 rfl, trivial⟩) (Nat.le_of_ble_eq_true rfl) k_L1796 hc0 hs0 hl.1 (fun rv2 rs2 w2 H2 lo2 hv2 hp2 I2 => ?_)
  obtain ⟨r2, rfl, rfl, -, -⟩ := hv2
  have hR := k_RK hp2.1 (by decide +kernel) (by decide +kernel) hR
  refine lv_pop C.1 C.2.1 k_L1799 rfl ?_
  refine lv_goto C.1 C.2.1 k_L1800 (tgt := 1990) (by decide) ?_
  exact W.widen (Nat.le_add_right _ _) (Nat.le_add_right _ _) (kk _ _ _ ⟨I2, hR⟩)
theorem k_case44 {p : Program} {l : Launch} {e : Env} {s : State} {m : MethodId} {below : List Frame} {meth : Method} {c : Code} {Q : State → Prop} {b L : Nat} {xs : Nat → Int32} {D : va_G} {dA : Nat → ClassId} {a1 a2 i cells slots : Nat} {ls : Array Slot} {w : cWld} {H : Heap} {locs : List Loc} (C : k_Cx p s m c b L xs D dA) (I : k_In s D dA a1 a2 w H locs ∧ k_R a1 a2 w) (hl : lv_has ls 4 (k_lv b a1 a2 i)) (hi : i + 7 ≤ L) (hcb : cells + 26 ≤ 600000) (hsb : slots + 1584 ≤ 7302250)
    (kk : ∀ (w : cWld) (H : Heap) (locs : List Loc), k_In s D dA a1 a2 w H locs ∧ k_R a1 a2 w → W p l e room_1 s m #[Value.ref b] below meth c H locs (cells + 26) (slots + 1584) Q (F0 m 1990 ls [])) : W p l e room_1 s m #[Value.ref b] below meth c H locs cells slots Q (F0 m 1803 ls []) := by
  have hc0 : cells ≤ 600000 := by omega
  have hs0 : slots ≤ 7302250 := by omega
  have hc1 := hcb
  have hs1 := hsb
  obtain ⟨I, hR⟩ := I
  refine lv_aload_n C.1 C.2.1 k_L1803 rfl (lv_at hl 1 rfl) ?_
  refine k_arg C I hl (k := 1) (by omega) k_L1804 k_L1805 k_L1806 (by decide) k_L1807 k_L1808 ?_
  obtain ⟨z1_7, hz1_7⟩ := k_fnE (i := 7) I.2.2.1 I.2.2.2.2.1 k_sh12 (by decide)
  refine k_pub C I (a := 190) (idx := 209) (M := k_M190) (ct := k_c190_0) rfl k_pm190_0 rfl (k_in 6 73 rfl rfl) (by decide +kernel) (x := a1) (As := [.int (xs (i + 1))]) (rest := []) [(a1 : Int), ((xs (i + 1))).toInt, z1_7] (k_preC 0 rfl (by decide +kernel) ⟨k_aR I.2.2.2.2.1, k_aI _, trivial⟩ ⟨k_fnC (b := 0) hz1_7 rfl rfl, trivial⟩) (Nat.le_of_ble_eq_true rfl) k_L1809 hc0 hs0 hl.1 (fun rv1 rs1 w1 H1 lo1 hv1 hp1 I1 => ?_)
  obtain ⟨r1, rfl, rfl⟩ := hv1
  have hR := k_RK hp1.1 (by decide +kernel) (by decide +kernel) hR
  refine lv_pop C.1 C.2.1 k_L1812 rfl ?_
  refine lv_aload_n C.1 C.2.1 k_L1813 rfl (lv_at hl 2 rfl) ?_
  refine k_arg C I1 hl (k := 1) (by omega) k_L1814 k_L1815 k_L1816 (by decide) k_L1817 k_L1818 ?_
  obtain ⟨z2_8, hz2_8⟩ := k_fnE (i := 8) I1.2.2.1 I1.2.2.2.2.2.1 k_sh13 (by decide)
  refine k_pub C I1 (a := 325) (idx := 212) (M := k_M325) (ct := k_c325_0) rfl k_pm325_0 rfl (k_in 10 13 rfl rfl) (by decide +kernel) (x := a2) (As := [.int (xs (i + 1))]) (rest := []) [(a2 : Int), ((xs (i + 1))).toInt, z2_8] (k_preC 0 rfl (by decide +kernel) ⟨k_aR I1.2.2.2.2.2.1, k_aI _, trivial⟩ ⟨k_fnC (b := 0) hz2_8 rfl rfl, trivial⟩) (Nat.le_of_ble_eq_true rfl) k_L1819 hc0 hs0 hl.1 (fun rv2 rs2 w2 H2 lo2 hv2 hp2 I2 => ?_)
  obtain ⟨r2, rfl, rfl⟩ := hv2
  have hR := k_RK hp2.1 (by decide +kernel) (by decide +kernel) hR
  refine lv_pop C.1 C.2.1 k_L1822 rfl ?_
  refine lv_goto C.1 C.2.1 k_L1823 (tgt := 1990) (by decide) ?_
  exact W.widen (Nat.le_add_right _ _) (Nat.le_add_right _ _) (kk _ _ _ ⟨I2, hR⟩)
theorem k_case45 {p : Program} {l : Launch} {e : Env} {s : State} {m : MethodId} {below : List Frame} {meth : Method} {c : Code} {Q : State → Prop} {b L : Nat} {xs : Nat → Int32} {D : va_G} {dA : Nat → ClassId} {a1 a2 i cells slots : Nat} {ls : Array Slot} {w : cWld} {H : Heap} {locs : List Loc} (C : k_Cx p s m c b L xs D dA) (I : k_In s D dA a1 a2 w H locs ∧ k_R a1 a2 w) (hl : lv_has ls 4 (k_lv b a1 a2 i)) (hi : i + 7 ≤ L) (hcb : cells + 26 ≤ 600000) (hsb : slots + 1584 ≤ 7302250)
    (kk : ∀ (w : cWld) (H : Heap) (locs : List Loc), k_In s D dA a1 a2 w H locs ∧ k_R a1 a2 w → W p l e room_1 s m #[Value.ref b] below meth c H locs (cells + 26) (slots + 1584) Q (F0 m 1990 ls [])) : W p l e room_1 s m #[Value.ref b] below meth c H locs cells slots Q (F0 m 1826 ls []) := by
  have hc0 : cells ≤ 600000 := by omega
  have hs0 : slots ≤ 7302250 := by omega
  have hc1 := hcb
  have hs1 := hsb
  obtain ⟨I, hR⟩ := I
  refine lv_aload_n C.1 C.2.1 k_L1826 rfl (lv_at hl 1 rfl) ?_
  refine k_arg C I hl (k := 1) (by omega) k_L1827 k_L1828 k_L1829 (by decide) k_L1830 k_L1831 ?_
  refine k_pub C I (a := 191) (idx := 213) (M := k_M191) (ct := k_c191_0) rfl k_pm191_0 rfl (k_in 6 118 rfl rfl) (by decide +kernel) (x := a1) (As := [.int (xs (i + 1))]) (rest := []) [(a1 : Int), ((xs (i + 1))).toInt] (k_preC 0 rfl (by decide +kernel) ⟨k_aR I.2.2.2.2.1, k_aI _, trivial⟩ trivial) (Nat.le_of_ble_eq_true rfl) k_L1832 hc0 hs0 hl.1 (fun rv1 rs1 w1 H1 lo1 hv1 hp1 I1 => ?_)
  obtain ⟨r1, rfl, rfl⟩ := hv1
  have hR := k_RK hp1.1 (by decide +kernel) (by decide +kernel) hR
  refine lv_pop C.1 C.2.1 k_L1835 rfl ?_
  refine lv_aload_n C.1 C.2.1 k_L1836 rfl (lv_at hl 2 rfl) ?_
  refine k_arg C I1 hl (k := 1) (by omega) k_L1837 k_L1838 k_L1839 (by decide) k_L1840 k_L1841 ?_
  refine k_pub C I1 (a := 331) (idx := 216) (M := k_M331) (ct := k_c331_0) rfl k_pm331_0 rfl (k_in 10 38 rfl rfl) (by decide +kernel) (x := a2) (As := [.int (xs (i + 1))]) (rest := []) [(a2 : Int), ((xs (i + 1))).toInt, 0] (k_preC 3 rfl (by decide +kernel) ⟨k_aR I1.2.2.2.2.2.1, k_aI _, trivial⟩ ⟨k_ghc I1.2.2.2.2.2.2 rfl, trivial⟩) (Nat.le_of_ble_eq_true rfl) k_L1842 hc0 hs0 hl.1 (fun rv2 rs2 w2 H2 lo2 hv2 hp2 I2 => ?_)
  obtain ⟨r2, rfl, rfl⟩ := hv2
  have hR := k_RK hp2.1 (by decide +kernel) (by decide +kernel) hR
  refine lv_pop C.1 C.2.1 k_L1845 rfl ?_
  refine lv_goto C.1 C.2.1 k_L1846 (tgt := 1990) (by decide) ?_
  exact W.widen (Nat.le_add_right _ _) (Nat.le_add_right _ _) (kk _ _ _ ⟨I2, hR⟩)
theorem k_case46 {p : Program} {l : Launch} {e : Env} {s : State} {m : MethodId} {below : List Frame} {meth : Method} {c : Code} {Q : State → Prop} {b L : Nat} {xs : Nat → Int32} {D : va_G} {dA : Nat → ClassId} {a1 a2 i cells slots : Nat} {ls : Array Slot} {w : cWld} {H : Heap} {locs : List Loc} (C : k_Cx p s m c b L xs D dA) (I : k_In s D dA a1 a2 w H locs ∧ k_R a1 a2 w) (hl : lv_has ls 4 (k_lv b a1 a2 i)) (hi : i + 7 ≤ L) (hcb : cells + 26 ≤ 600000) (hsb : slots + 1584 ≤ 7302250)
    (kk : ∀ (w : cWld) (H : Heap) (locs : List Loc), k_In s D dA a1 a2 w H locs ∧ k_R a1 a2 w → W p l e room_1 s m #[Value.ref b] below meth c H locs (cells + 26) (slots + 1584) Q (F0 m 1990 ls [])) : W p l e room_1 s m #[Value.ref b] below meth c H locs cells slots Q (F0 m 1849 ls []) := by
  have hc0 : cells ≤ 600000 := by omega
  have hs0 : slots ≤ 7302250 := by omega
  have hc1 := hcb
  have hs1 := hsb
  obtain ⟨I, hR⟩ := I
  refine lv_aload_n C.1 C.2.1 k_L1849 rfl (lv_at hl 1 rfl) ?_
  refine k_arg C I hl (k := 1) (by omega) k_L1850 k_L1851 k_L1852 (by decide) k_L1853 k_L1854 ?_
  refine k_pub C I (a := 192) (idx := 217) (M := k_M192) (ct := k_c192_0) rfl k_pm192_0 rfl (k_in 6 163 rfl rfl) (by decide +kernel) (x := a1) (As := [.int (xs (i + 1))]) (rest := []) [(a1 : Int), ((xs (i + 1))).toInt] (k_preC 0 rfl (by decide +kernel) ⟨k_aR I.2.2.2.2.1, k_aI _, trivial⟩ trivial) (Nat.le_of_ble_eq_true rfl) k_L1855 hc0 hs0 hl.1 (fun rv1 rs1 w1 H1 lo1 hv1 hp1 I1 => ?_)
  obtain ⟨r1, rfl, rfl⟩ := hv1
  have hR := k_RK hp1.1 (by decide +kernel) (by decide +kernel) hR
  refine lv_pop C.1 C.2.1 k_L1858 rfl ?_
  refine lv_aload_n C.1 C.2.1 k_L1859 rfl (lv_at hl 2 rfl) ?_
  refine k_arg C I1 hl (k := 1) (by omega) k_L1860 k_L1861 k_L1862 (by decide) k_L1863 k_L1864 ?_
  refine k_pub C I1 (a := 332) (idx := 220) (M := k_M332) (ct := k_c332_0) rfl k_pm332_0 rfl (k_in 10 62 rfl rfl) (by decide +kernel) (x := a2) (As := [.int (xs (i + 1))]) (rest := []) [(a2 : Int), ((xs (i + 1))).toInt] (k_preC 0 rfl (by decide +kernel) ⟨k_aR I1.2.2.2.2.2.1, k_aI _, trivial⟩ trivial) (Nat.le_of_ble_eq_true rfl) k_L1865 hc0 hs0 hl.1 (fun rv2 rs2 w2 H2 lo2 hv2 hp2 I2 => ?_)
  obtain ⟨r2, rfl, rfl⟩ := hv2
  have hR := k_RK hp2.1 (by decide +kernel) (by decide +kernel) hR
  refine lv_pop C.1 C.2.1 k_L1868 rfl ?_
  refine lv_goto C.1 C.2.1 k_L1869 (tgt := 1990) (by decide) ?_
  exact W.widen (Nat.le_add_right _ _) (Nat.le_add_right _ _) (kk _ _ _ ⟨I2, hR⟩)
theorem k_case47 {p : Program} {l : Launch} {e : Env} {s : State} {m : MethodId} {below : List Frame} {meth : Method} {c : Code} {Q : State → Prop} {b L : Nat} {xs : Nat → Int32} {D : va_G} {dA : Nat → ClassId} {a1 a2 i cells slots : Nat} {ls : Array Slot} {w : cWld} {H : Heap} {locs : List Loc} (C : k_Cx p s m c b L xs D dA) (I : k_In s D dA a1 a2 w H locs ∧ k_R a1 a2 w) (hl : lv_has ls 4 (k_lv b a1 a2 i)) (hi : i + 7 ≤ L) (hcb : cells + 26 ≤ 600000) (hsb : slots + 1584 ≤ 7302250)
    (kk : ∀ (w : cWld) (H : Heap) (locs : List Loc), k_In s D dA a1 a2 w H locs ∧ k_R a1 a2 w → W p l e room_1 s m #[Value.ref b] below meth c H locs (cells + 26) (slots + 1584) Q (F0 m 1990 ls [])) : W p l e room_1 s m #[Value.ref b] below meth c H locs cells slots Q (F0 m 1872 ls []) := by
  have hc0 : cells ≤ 600000 := by omega
  have hs0 : slots ≤ 7302250 := by omega
  have hc1 := hcb
  have hs1 := hsb
  obtain ⟨I, hR⟩ := I
  refine lv_aload_n C.1 C.2.1 k_L1872 rfl (lv_at hl 1 rfl) ?_
  refine k_arg C I hl (k := 1) (by omega) k_L1873 k_L1874 k_L1875 (by decide) k_L1876 k_L1877 ?_
  obtain ⟨z1_7, hz1_7⟩ := k_fnE (i := 7) I.2.2.1 I.2.2.2.2.1 k_sh12 (by decide)
  refine k_pub C I (a := 193) (idx := 221) (M := k_M193) (ct := k_c193_0) rfl k_pm193_0 rfl (k_in 6 167 rfl rfl) (by decide +kernel) (x := a1) (As := [.int (xs (i + 1))]) (rest := []) [(a1 : Int), ((xs (i + 1))).toInt, z1_7] (k_preC 0 rfl (by decide +kernel) ⟨k_aR I.2.2.2.2.1, k_aI _, trivial⟩ ⟨k_fnC (b := 0) hz1_7 rfl rfl, trivial⟩) (Nat.le_of_ble_eq_true rfl) k_L1878 hc0 hs0 hl.1 (fun rv1 rs1 w1 H1 lo1 hv1 hp1 I1 => ?_)
  obtain ⟨r1, rfl, rfl⟩ := hv1
  have hR := k_RK hp1.1 (by decide +kernel) (by decide +kernel) hR
  refine lv_pop C.1 C.2.1 k_L1881 rfl ?_
  refine lv_aload_n C.1 C.2.1 k_L1882 rfl (lv_at hl 2 rfl) ?_
  refine k_arg C I1 hl (k := 1) (by omega) k_L1883 k_L1884 k_L1885 (by decide) k_L1886 k_L1887 ?_
  obtain ⟨z2_8, hz2_8⟩ := k_fnE (i := 8) I1.2.2.1 I1.2.2.2.2.2.1 k_sh13 (by decide)
  refine k_pub C I1 (a := 346) (idx := 224) (M := k_M346) (ct := k_c346_0) rfl k_pm346_0 rfl (k_in 10 66 rfl rfl) (by decide +kernel) (x := a2) (As := [.int (xs (i + 1))]) (rest := []) [(a2 : Int), ((xs (i + 1))).toInt, 0, z2_8] (k_preC 3 rfl (by decide +kernel) ⟨k_aR I1.2.2.2.2.2.1, k_aI _, trivial⟩ ⟨k_ghc I1.2.2.2.2.2.2 rfl, k_fnC (b := 0) hz2_8 rfl rfl, trivial⟩) (Nat.le_of_ble_eq_true rfl) k_L1888 hc0 hs0 hl.1 (fun rv2 rs2 w2 H2 lo2 hv2 hp2 I2 => ?_)
  obtain ⟨r2, rfl, rfl⟩ := hv2
  have hR := k_RK hp2.1 (by decide +kernel) (by decide +kernel) hR
  refine lv_pop C.1 C.2.1 k_L1891 rfl ?_
  refine lv_goto C.1 C.2.1 k_L1892 (tgt := 1990) (by decide) ?_
  exact W.widen (Nat.le_add_right _ _) (Nat.le_add_right _ _) (kk _ _ _ ⟨I2, hR⟩)
theorem k_case48 {p : Program} {l : Launch} {e : Env} {s : State} {m : MethodId} {below : List Frame} {meth : Method} {c : Code} {Q : State → Prop} {b L : Nat} {xs : Nat → Int32} {D : va_G} {dA : Nat → ClassId} {a1 a2 i cells slots : Nat} {ls : Array Slot} {w : cWld} {H : Heap} {locs : List Loc} (C : k_Cx p s m c b L xs D dA) (I : k_In s D dA a1 a2 w H locs ∧ k_R a1 a2 w) (hl : lv_has ls 4 (k_lv b a1 a2 i)) (hi : i + 7 ≤ L) (hcb : cells + 26 ≤ 600000) (hsb : slots + 1584 ≤ 7302250)
    (kk : ∀ (w : cWld) (H : Heap) (locs : List Loc), k_In s D dA a1 a2 w H locs ∧ k_R a1 a2 w → W p l e room_1 s m #[Value.ref b] below meth c H locs (cells + 26) (slots + 1584) Q (F0 m 1990 ls [])) : W p l e room_1 s m #[Value.ref b] below meth c H locs cells slots Q (F0 m 1895 ls []) := by
  have hc0 : cells ≤ 600000 := by omega
  have hs0 : slots ≤ 7302250 := by omega
  have hc1 := hcb
  have hs1 := hsb
  obtain ⟨I, hR⟩ := I
  refine lv_aload_n C.1 C.2.1 k_L1895 rfl (lv_at hl 1 rfl) ?_
  refine k_arg C I hl (k := 1) (by omega) k_L1896 k_L1897 k_L1898 (by decide) k_L1899 k_L1900 ?_
  refine k_pub C I (a := 195) (idx := 225) (M := k_M195) (ct := k_c195_0) rfl k_pm195_0 rfl (k_in 6 207 rfl rfl) (by decide +kernel) (x := a1) (As := [.int (xs (i + 1))]) (rest := []) [(a1 : Int), ((xs (i + 1))).toInt] (k_preC 0 rfl (by decide +kernel) ⟨k_aR I.2.2.2.2.1, k_aI _, trivial⟩ trivial) (Nat.le_of_ble_eq_true rfl) k_L1901 hc0 hs0 hl.1 (fun rv1 rs1 w1 H1 lo1 hv1 hp1 I1 => ?_)
  obtain ⟨r1, rfl, rfl⟩ := hv1
  have hR := k_RK hp1.1 (by decide +kernel) (by decide +kernel) hR
  refine lv_pop C.1 C.2.1 k_L1904 rfl ?_
  refine lv_aload_n C.1 C.2.1 k_L1905 rfl (lv_at hl 2 rfl) ?_
  refine k_arg C I1 hl (k := 1) (by omega) k_L1906 k_L1907 k_L1908 (by decide) k_L1909 k_L1910 ?_
  refine k_pub C I1 (a := 349) (idx := 228) (M := k_M349) (ct := k_c349_0) rfl k_pm349_0 rfl (k_in 10 122 rfl rfl) (by decide +kernel) (x := a2) (As := [.int (xs (i + 1))]) (rest := []) [(a2 : Int), ((xs (i + 1))).toInt, 0] (k_preC 3 rfl (by decide +kernel) ⟨k_aR I1.2.2.2.2.2.1, k_aI _, trivial⟩ ⟨k_ghc I1.2.2.2.2.2.2 rfl, trivial⟩) (Nat.le_of_ble_eq_true rfl) k_L1911 hc0 hs0 hl.1 (fun rv2 rs2 w2 H2 lo2 hv2 hp2 I2 => ?_)
  obtain ⟨r2, rfl, rfl⟩ := hv2
  have hR := k_RK hp2.1 (by decide +kernel) (by decide +kernel) hR
  refine lv_pop C.1 C.2.1 k_L1914 rfl ?_
  refine lv_goto C.1 C.2.1 k_L1915 (tgt := 1990) (by decide) ?_
  exact W.widen (Nat.le_add_right _ _) (Nat.le_add_right _ _) (kk _ _ _ ⟨I2, hR⟩)
theorem k_case49 {p : Program} {l : Launch} {e : Env} {s : State} {m : MethodId} {below : List Frame} {meth : Method} {c : Code} {Q : State → Prop} {b L : Nat} {xs : Nat → Int32} {D : va_G} {dA : Nat → ClassId} {a1 a2 i cells slots : Nat} {ls : Array Slot} {w : cWld} {H : Heap} {locs : List Loc} (C : k_Cx p s m c b L xs D dA) (I : k_In s D dA a1 a2 w H locs ∧ k_R a1 a2 w) (hl : lv_has ls 4 (k_lv b a1 a2 i)) (hi : i + 7 ≤ L) (hcb : cells + 26 ≤ 600000) (hsb : slots + 1584 ≤ 7302250)
    (kk : ∀ (w : cWld) (H : Heap) (locs : List Loc), k_In s D dA a1 a2 w H locs ∧ k_R a1 a2 w → W p l e room_1 s m #[Value.ref b] below meth c H locs (cells + 26) (slots + 1584) Q (F0 m 1990 ls [])) : W p l e room_1 s m #[Value.ref b] below meth c H locs cells slots Q (F0 m 1918 ls []) := by
  have hc0 : cells ≤ 600000 := by omega
  have hs0 : slots ≤ 7302250 := by omega
  have hc1 := hcb
  have hs1 := hsb
  obtain ⟨I, hR⟩ := I
  refine lv_aload_n C.1 C.2.1 k_L1918 rfl (lv_at hl 1 rfl) ?_
  refine k_arg C I hl (k := 1) (by omega) k_L1919 k_L1920 k_L1921 (by decide) k_L1922 k_L1923 ?_
  refine k_pub C I (a := 196) (idx := 229) (M := k_M196) (ct := k_c196_0) rfl k_pm196_0 rfl (k_in 7 16 rfl rfl) (by decide +kernel) (x := a1) (As := [.int (xs (i + 1))]) (rest := []) [(a1 : Int), ((xs (i + 1))).toInt] (k_preC 0 rfl (by decide +kernel) ⟨k_aR I.2.2.2.2.1, k_aI _, trivial⟩ trivial) (Nat.le_of_ble_eq_true rfl) k_L1924 hc0 hs0 hl.1 (fun rv1 rs1 w1 H1 lo1 hv1 hp1 I1 => ?_)
  obtain ⟨r1, rfl, rfl⟩ := hv1
  have hR := k_RK hp1.1 (by decide +kernel) (by decide +kernel) hR
  refine lv_pop C.1 C.2.1 k_L1927 rfl ?_
  refine lv_aload_n C.1 C.2.1 k_L1928 rfl (lv_at hl 2 rfl) ?_
  refine k_arg C I1 hl (k := 1) (by omega) k_L1929 k_L1930 k_L1931 (by decide) k_L1932 k_L1933 ?_
  refine k_pub C I1 (a := 352) (idx := 232) (M := k_M352) (ct := k_c352_0) rfl k_pm352_0 rfl (k_in 10 134 rfl rfl) (by decide +kernel) (x := a2) (As := [.int (xs (i + 1))]) (rest := []) [(a2 : Int), ((xs (i + 1))).toInt, 0] (k_preC 3 rfl (by decide +kernel) ⟨k_aR I1.2.2.2.2.2.1, k_aI _, trivial⟩ ⟨k_ghc I1.2.2.2.2.2.2 rfl, trivial⟩) (Nat.le_of_ble_eq_true rfl) k_L1934 hc0 hs0 hl.1 (fun rv2 rs2 w2 H2 lo2 hv2 hp2 I2 => ?_)
  obtain ⟨r2, rfl, rfl⟩ := hv2
  have hR := k_RK hp2.1 (by decide +kernel) (by decide +kernel) hR
  refine lv_pop C.1 C.2.1 k_L1937 rfl ?_
  refine lv_goto C.1 C.2.1 k_L1938 (tgt := 1990) (by decide) ?_
  exact W.widen (Nat.le_add_right _ _) (Nat.le_add_right _ _) (kk _ _ _ ⟨I2, hR⟩)
theorem k_case50 {p : Program} {l : Launch} {e : Env} {s : State} {m : MethodId} {below : List Frame} {meth : Method} {c : Code} {Q : State → Prop} {b L : Nat} {xs : Nat → Int32} {D : va_G} {dA : Nat → ClassId} {a1 a2 i cells slots : Nat} {ls : Array Slot} {w : cWld} {H : Heap} {locs : List Loc} (C : k_Cx p s m c b L xs D dA) (I : k_In s D dA a1 a2 w H locs ∧ k_R a1 a2 w) (hl : lv_has ls 4 (k_lv b a1 a2 i)) (hi : i + 7 ≤ L) (hcb : cells + 26 ≤ 600000) (hsb : slots + 1584 ≤ 7302250)
    (kk : ∀ (w : cWld) (H : Heap) (locs : List Loc), k_In s D dA a1 a2 w H locs ∧ k_R a1 a2 w → W p l e room_1 s m #[Value.ref b] below meth c H locs (cells + 26) (slots + 1584) Q (F0 m 1990 ls [])) : W p l e room_1 s m #[Value.ref b] below meth c H locs cells slots Q (F0 m 1941 ls []) := by
  have hc0 : cells ≤ 600000 := by omega
  have hs0 : slots ≤ 7302250 := by omega
  have hc1 := hcb
  have hs1 := hsb
  obtain ⟨I, hR⟩ := I
  refine lv_aload_n C.1 C.2.1 k_L1941 rfl (lv_at hl 1 rfl) ?_
  refine k_arg C I hl (k := 1) (by omega) k_L1942 k_L1943 k_L1944 (by decide) k_L1945 k_L1946 ?_
  refine k_pub C I (a := 197) (idx := 233) (M := k_M197) (ct := k_c197_0) rfl k_pm197_0 rfl (k_in 7 29 rfl rfl) (by decide +kernel) (x := a1) (As := [.int (xs (i + 1))]) (rest := []) [(a1 : Int), ((xs (i + 1))).toInt] (k_preC 0 rfl (by decide +kernel) ⟨k_aR I.2.2.2.2.1, k_aI _, trivial⟩ trivial) (Nat.le_of_ble_eq_true rfl) k_L1947 hc0 hs0 hl.1 (fun rv1 rs1 w1 H1 lo1 hv1 hp1 I1 => ?_)
  obtain ⟨r1, rfl, rfl⟩ := hv1
  have hR := k_RK hp1.1 (by decide +kernel) (by decide +kernel) hR
  refine lv_pop C.1 C.2.1 k_L1950 rfl ?_
  refine lv_aload_n C.1 C.2.1 k_L1951 rfl (lv_at hl 2 rfl) ?_
  refine k_arg C I1 hl (k := 1) (by omega) k_L1952 k_L1953 k_L1954 (by decide) k_L1955 k_L1956 ?_
  refine k_pub C I1 (a := 353) (idx := 236) (M := k_M353) (ct := k_c353_0) rfl k_pm353_0 rfl (k_in 10 146 rfl rfl) (by decide +kernel) (x := a2) (As := [.int (xs (i + 1))]) (rest := []) [(a2 : Int), ((xs (i + 1))).toInt] (k_preC 0 rfl (by decide +kernel) ⟨k_aR I1.2.2.2.2.2.1, k_aI _, trivial⟩ trivial) (Nat.le_of_ble_eq_true rfl) k_L1957 hc0 hs0 hl.1 (fun rv2 rs2 w2 H2 lo2 hv2 hp2 I2 => ?_)
  obtain ⟨r2, rfl, rfl⟩ := hv2
  have hR := k_RK hp2.1 (by decide +kernel) (by decide +kernel) hR
  refine lv_pop C.1 C.2.1 k_L1960 rfl ?_
  refine lv_goto C.1 C.2.1 k_L1961 (tgt := 1990) (by decide) ?_
  exact W.widen (Nat.le_add_right _ _) (Nat.le_add_right _ _) (kk _ _ _ ⟨I2, hR⟩)
theorem k_case51 {p : Program} {l : Launch} {e : Env} {s : State} {m : MethodId} {below : List Frame} {meth : Method} {c : Code} {Q : State → Prop} {b L : Nat} {xs : Nat → Int32} {D : va_G} {dA : Nat → ClassId} {a1 a2 i cells slots : Nat} {ls : Array Slot} {w : cWld} {H : Heap} {locs : List Loc} (C : k_Cx p s m c b L xs D dA) (I : k_In s D dA a1 a2 w H locs ∧ k_R a1 a2 w) (hl : lv_has ls 4 (k_lv b a1 a2 i)) (hi : i + 7 ≤ L) (hcb : cells + 26 ≤ 600000) (hsb : slots + 1584 ≤ 7302250)
    (kk : ∀ (w : cWld) (H : Heap) (locs : List Loc), k_In s D dA a1 a2 w H locs ∧ k_R a1 a2 w → W p l e room_1 s m #[Value.ref b] below meth c H locs (cells + 26) (slots + 1584) Q (F0 m 1990 ls [])) : W p l e room_1 s m #[Value.ref b] below meth c H locs cells slots Q (F0 m 1964 ls []) := by
  have hc0 : cells ≤ 600000 := by omega
  have hs0 : slots ≤ 7302250 := by omega
  have hc1 := hcb
  have hs1 := hsb
  obtain ⟨I, hR⟩ := I
  refine lv_aload_n C.1 C.2.1 k_L1964 rfl (lv_at hl 1 rfl) ?_
  obtain ⟨z1_14, hz1_14⟩ := k_fnE (i := 14) I.2.2.1 I.2.2.2.2.1 k_sh12 (by decide)
  refine k_pub C I (a := 198) (idx := 237) (M := k_M198) (ct := k_c198_0) rfl k_pm198_0 rfl (k_in 7 33 rfl rfl) (by decide +kernel) (x := a1) (As := []) (rest := []) [(a1 : Int), z1_14] (k_preC 0 rfl (by decide +kernel) ⟨k_aR I.2.2.2.2.1, trivial⟩ ⟨k_fnC (b := 0) hz1_14 rfl rfl, trivial⟩) (Nat.le_of_ble_eq_true rfl) k_L1965 hcb hsb hl.1 (fun rv1 rs1 w1 H1 lo1 hv1 hp1 I1 => ?_)
  obtain ⟨r1, rfl, rfl⟩ := hv1
  have hR := k_RK hp1.1 (by decide +kernel) (by decide +kernel) hR
  refine lv_pop C.1 C.2.1 k_L1968 rfl ?_
  refine lv_aload_n C.1 C.2.1 k_L1969 rfl (lv_at hl 2 rfl) ?_
  obtain ⟨z2_25, hz2_25⟩ := k_fnE (i := 25) I1.2.2.1 I1.2.2.2.2.2.1 k_sh13 (by decide)
  refine k_pub C I1 (a := 355) (idx := 240) (M := k_M355) (ct := k_c355_0) rfl k_pm355_0 rfl (k_in 10 150 rfl rfl) (by decide +kernel) (x := a2) (As := []) (rest := []) [(a2 : Int), 0, z2_25] (k_preC 2 rfl (by decide +kernel) ⟨k_aR I1.2.2.2.2.2.1, trivial⟩ ⟨k_ghc I1.2.2.2.2.2.2 rfl, k_fnC (b := 0) hz2_25 rfl rfl, trivial⟩) (Nat.le_of_ble_eq_true rfl) k_L1970 hc1 hs1 hl.1 (fun rv2 rs2 w2 H2 lo2 hv2 hp2 I2 => ?_)
  obtain ⟨r2, rfl, rfl⟩ := hv2
  have hR := k_RK hp2.1 (by decide +kernel) (by decide +kernel) hR
  refine lv_pop C.1 C.2.1 k_L1973 rfl ?_
  refine lv_goto C.1 C.2.1 k_L1974 (tgt := 1990) (by decide) ?_
  exact kk _ _ _ ⟨I2, hR⟩
theorem k_case52 {p : Program} {l : Launch} {e : Env} {s : State} {m : MethodId} {below : List Frame} {meth : Method} {c : Code} {Q : State → Prop} {b L : Nat} {xs : Nat → Int32} {D : va_G} {dA : Nat → ClassId} {a1 a2 i cells slots : Nat} {ls : Array Slot} {w : cWld} {H : Heap} {locs : List Loc} (C : k_Cx p s m c b L xs D dA) (I : k_In s D dA a1 a2 w H locs ∧ k_R a1 a2 w) (hl : lv_has ls 4 (k_lv b a1 a2 i)) (hi : i + 7 ≤ L) (hcb : cells + 26 ≤ 600000) (hsb : slots + 1584 ≤ 7302250)
    (kk : ∀ (w : cWld) (H : Heap) (locs : List Loc), k_In s D dA a1 a2 w H locs ∧ k_R a1 a2 w → W p l e room_1 s m #[Value.ref b] below meth c H locs (cells + 26) (slots + 1584) Q (F0 m 1990 ls [])) : W p l e room_1 s m #[Value.ref b] below meth c H locs cells slots Q (F0 m 1977 ls []) := by
  have hc0 : cells ≤ 600000 := by omega
  have hs0 : slots ≤ 7302250 := by omega
  have hc1 := hcb
  have hs1 := hsb
  obtain ⟨I, hR⟩ := I
  refine lv_aload_n C.1 C.2.1 k_L1977 rfl (lv_at hl 1 rfl) ?_
  obtain ⟨z1_14, hz1_14⟩ := k_fnE (i := 14) I.2.2.1 I.2.2.2.2.1 k_sh12 (by decide)
  refine k_pub C I (a := 199) (idx := 241) (M := k_M199) (ct := k_c199_0) rfl k_pm199_0 rfl (k_in 7 58 rfl rfl) (by decide +kernel) (x := a1) (As := []) (rest := []) [(a1 : Int), z1_14] (k_preC 0 rfl (by decide +kernel) ⟨k_aR I.2.2.2.2.1, trivial⟩ ⟨k_fnC (b := 0) hz1_14 rfl rfl, trivial⟩) (Nat.le_of_ble_eq_true rfl) k_L1978 hc0 hs0 hl.1 (fun rv1 rs1 w1 H1 lo1 hv1 hp1 I1 => ?_)
  obtain ⟨r1, rfl, rfl⟩ := hv1
  have hR := k_RK hp1.1 (by decide +kernel) (by decide +kernel) hR
  refine lv_pop C.1 C.2.1 k_L1981 rfl ?_
  refine lv_aload_n C.1 C.2.1 k_L1982 rfl (lv_at hl 2 rfl) ?_
  obtain ⟨z2_25, hz2_25⟩ := k_fnE (i := 25) I1.2.2.1 I1.2.2.2.2.2.1 k_sh13 (by decide)
  refine k_pub C I1 (a := 356) (idx := 244) (M := k_M356) (ct := k_c356_0) rfl k_pm356_0 rfl (k_in 10 158 rfl rfl) (by decide +kernel) (x := a2) (As := []) (rest := []) [(a2 : Int), 0, z2_25] (k_preC 2 rfl (by decide +kernel) ⟨k_aR I1.2.2.2.2.2.1, trivial⟩ ⟨k_ghc I1.2.2.2.2.2.2 rfl, k_fnC (b := 0) hz2_25 rfl rfl, trivial⟩) (Nat.le_of_ble_eq_true rfl) k_L1983 hc0 hs0 hl.1 (fun rv2 rs2 w2 H2 lo2 hv2 hp2 I2 => ?_)
  obtain ⟨r2, rfl, rfl⟩ := hv2
  have hR := k_RK hp2.1 (by decide +kernel) (by decide +kernel) hR
  refine lv_pop C.1 C.2.1 k_L1986 rfl ?_
  refine lv_goto C.1 C.2.1 k_L1987 (tgt := 1990) (by decide) ?_
  exact W.widen (Nat.le_add_right _ _) (Nat.le_add_right _ _) (kk _ _ _ ⟨I2, hR⟩)
