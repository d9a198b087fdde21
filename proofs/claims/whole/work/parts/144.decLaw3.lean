theorem dL_law_3034 : decode cL_law 3034 = .ok (.ifCond .eq 5, 3) := by decide +kernel
theorem dL_law_3037 : decode cL_law 3037 = .ok (.iconst 0, 1) := by decide +kernel
theorem dL_law_3038 : decode cL_law 3038 = .ok (.ireturn, 1) := by decide +kernel
theorem dL_law_3039 : decode cL_law 3039 = .ok (.goto 879, 3) := by decide +kernel
theorem dL_law_3042 : decode cL_law 3042 = .ok (.aload_n 1, 1) := by decide +kernel
theorem dL_law_3043 : decode cL_law 3043 = .ok (.aload_n 0, 1) := by decide +kernel
theorem dL_law_3044 : decode cL_law 3044 = .ok (.iload 5, 2) := by decide +kernel
theorem dL_law_3046 : decode cL_law 3046 = .ok (.iconst 1, 1) := by decide +kernel
theorem dL_law_3047 : decode cL_law 3047 = .ok (.iadd, 1) := by decide +kernel
theorem dL_law_3048 : decode cL_law 3048 = .ok (.iaload, 1) := by decide +kernel
theorem dL_law_3049 : decode cL_law 3049 = .ok (.aload_n 0, 1) := by decide +kernel
theorem dL_law_3050 : decode cL_law 3050 = .ok (.iload 5, 2) := by decide +kernel
theorem dL_law_3052 : decode cL_law 3052 = .ok (.iconst 2, 1) := by decide +kernel
theorem dL_law_3053 : decode cL_law 3053 = .ok (.iadd, 1) := by decide +kernel
theorem dL_law_3054 : decode cL_law 3054 = .ok (.iaload, 1) := by decide +kernel
theorem dL_law_3055 : decode cL_law 3055 = .ok (.aload_n 0, 1) := by decide +kernel
theorem dL_law_3056 : decode cL_law 3056 = .ok (.iload 5, 2) := by decide +kernel
theorem dL_law_3058 : decode cL_law 3058 = .ok (.iconst 3, 1) := by decide +kernel
theorem dL_law_3059 : decode cL_law 3059 = .ok (.iadd, 1) := by decide +kernel
theorem dL_law_3060 : decode cL_law 3060 = .ok (.iaload, 1) := by decide +kernel
theorem dL_law_3061 : decode cL_law 3061 = .ok (.aload_n 3, 1) := by decide +kernel
theorem dL_law_3062 : decode cL_law 3062 = .ok (.invokestatic 295, 3) := by decide +kernel
theorem dL_law_3065 : decode cL_law 3065 = .ok (.istore 6, 2) := by decide +kernel
theorem dL_law_3067 : decode cL_law 3067 = .ok (.aload_n 2, 1) := by decide +kernel
theorem dL_law_3068 : decode cL_law 3068 = .ok (.aload_n 0, 1) := by decide +kernel
theorem dL_law_3069 : decode cL_law 3069 = .ok (.iload 5, 2) := by decide +kernel
theorem dL_law_3071 : decode cL_law 3071 = .ok (.iconst 1, 1) := by decide +kernel
theorem dL_law_3072 : decode cL_law 3072 = .ok (.iadd, 1) := by decide +kernel
theorem dL_law_3073 : decode cL_law 3073 = .ok (.iaload, 1) := by decide +kernel
theorem dL_law_3074 : decode cL_law 3074 = .ok (.aload_n 0, 1) := by decide +kernel
theorem dL_law_3075 : decode cL_law 3075 = .ok (.iload 5, 2) := by decide +kernel
theorem dL_law_3077 : decode cL_law 3077 = .ok (.iconst 2, 1) := by decide +kernel
theorem dL_law_3078 : decode cL_law 3078 = .ok (.iadd, 1) := by decide +kernel
theorem dL_law_3079 : decode cL_law 3079 = .ok (.iaload, 1) := by decide +kernel
theorem dL_law_3080 : decode cL_law 3080 = .ok (.aload_n 0, 1) := by decide +kernel
theorem dL_law_3081 : decode cL_law 3081 = .ok (.iload 5, 2) := by decide +kernel
theorem dL_law_3083 : decode cL_law 3083 = .ok (.iconst 3, 1) := by decide +kernel
theorem dL_law_3084 : decode cL_law 3084 = .ok (.iadd, 1) := by decide +kernel
theorem dL_law_3085 : decode cL_law 3085 = .ok (.iaload, 1) := by decide +kernel
theorem dL_law_3086 : decode cL_law 3086 = .ok (.invokevirtual 297, 3) := by decide +kernel
theorem dL_law_3089 : decode cL_law 3089 = .ok (.istore 7, 2) := by decide +kernel
theorem dL_law_3091 : decode cL_law 3091 = .ok (.aload_n 2, 1) := by decide +kernel
theorem dL_law_3092 : decode cL_law 3092 = .ok (.invokevirtual 177, 3) := by decide +kernel
theorem dL_law_3095 : decode cL_law 3095 = .ok (.iload 6, 2) := by decide +kernel
theorem dL_law_3097 : decode cL_law 3097 = .ok (.if_icmp .eq 5, 3) := by decide +kernel
theorem dL_law_3100 : decode cL_law 3100 = .ok (.iconst 0, 1) := by decide +kernel
theorem dL_law_3101 : decode cL_law 3101 = .ok (.ireturn, 1) := by decide +kernel
theorem dL_law_3102 : decode cL_law 3102 = .ok (.iload 6, 2) := by decide +kernel
theorem dL_law_3104 : decode cL_law 3104 = .ok (.ifCond .ne 15, 3) := by decide +kernel
theorem dL_law_3107 : decode cL_law 3107 = .ok (.aload_n 3, 1) := by decide +kernel
theorem dL_law_3108 : decode cL_law 3108 = .ok (.iconst 0, 1) := by decide +kernel
theorem dL_law_3109 : decode cL_law 3109 = .ok (.laload, 1) := by decide +kernel
theorem dL_law_3110 : decode cL_law 3110 = .ok (.iload 7, 2) := by decide +kernel
theorem dL_law_3112 : decode cL_law 3112 = .ok (.i2l, 1) := by decide +kernel
theorem dL_law_3113 : decode cL_law 3113 = .ok (.lcmp, 1) := by decide +kernel
theorem dL_law_3114 : decode cL_law 3114 = .ok (.ifCond .eq 5, 3) := by decide +kernel
theorem dL_law_3117 : decode cL_law 3117 = .ok (.iconst 0, 1) := by decide +kernel
theorem dL_law_3118 : decode cL_law 3118 = .ok (.ireturn, 1) := by decide +kernel
theorem dL_law_3119 : decode cL_law 3119 = .ok (.goto 799, 3) := by decide +kernel
theorem dL_law_3122 : decode cL_law 3122 = .ok (.aload_n 1, 1) := by decide +kernel
theorem dL_law_3123 : decode cL_law 3123 = .ok (.aload_n 0, 1) := by decide +kernel
theorem dL_law_3124 : decode cL_law 3124 = .ok (.iload 5, 2) := by decide +kernel
theorem dL_law_3126 : decode cL_law 3126 = .ok (.iconst 1, 1) := by decide +kernel
theorem dL_law_3127 : decode cL_law 3127 = .ok (.iadd, 1) := by decide +kernel
theorem dL_law_3128 : decode cL_law 3128 = .ok (.iaload, 1) := by decide +kernel
theorem dL_law_3129 : decode cL_law 3129 = .ok (.aload_n 3, 1) := by decide +kernel
theorem dL_law_3130 : decode cL_law 3130 = .ok (.invokestatic 298, 3) := by decide +kernel
theorem dL_law_3133 : decode cL_law 3133 = .ok (.istore 6, 2) := by decide +kernel
theorem dL_law_3135 : decode cL_law 3135 = .ok (.aload_n 2, 1) := by decide +kernel
theorem dL_law_3136 : decode cL_law 3136 = .ok (.aload_n 0, 1) := by decide +kernel
theorem dL_law_3137 : decode cL_law 3137 = .ok (.iload 5, 2) := by decide +kernel
theorem dL_law_3139 : decode cL_law 3139 = .ok (.iconst 1, 1) := by decide +kernel
theorem dL_law_3140 : decode cL_law 3140 = .ok (.iadd, 1) := by decide +kernel
theorem dL_law_3141 : decode cL_law 3141 = .ok (.iaload, 1) := by decide +kernel
theorem dL_law_3142 : decode cL_law 3142 = .ok (.invokevirtual 300, 3) := by decide +kernel
theorem dL_law_3145 : decode cL_law 3145 = .ok (.istore 7, 2) := by decide +kernel
theorem dL_law_3147 : decode cL_law 3147 = .ok (.aload_n 2, 1) := by decide +kernel
theorem dL_law_3148 : decode cL_law 3148 = .ok (.invokevirtual 177, 3) := by decide +kernel
theorem dL_law_3151 : decode cL_law 3151 = .ok (.iload 6, 2) := by decide +kernel
theorem dL_law_3153 : decode cL_law 3153 = .ok (.if_icmp .eq 5, 3) := by decide +kernel
theorem dL_law_3156 : decode cL_law 3156 = .ok (.iconst 0, 1) := by decide +kernel
theorem dL_law_3157 : decode cL_law 3157 = .ok (.ireturn, 1) := by decide +kernel
theorem dL_law_3158 : decode cL_law 3158 = .ok (.iload 6, 2) := by decide +kernel
theorem dL_law_3160 : decode cL_law 3160 = .ok (.ifCond .ne 22, 3) := by decide +kernel
theorem dL_law_3163 : decode cL_law 3163 = .ok (.aload_n 3, 1) := by decide +kernel
theorem dL_law_3164 : decode cL_law 3164 = .ok (.iconst 0, 1) := by decide +kernel
theorem dL_law_3165 : decode cL_law 3165 = .ok (.laload, 1) := by decide +kernel
theorem dL_law_3166 : decode cL_law 3166 = .ok (.iload 7, 2) := by decide +kernel
theorem dL_law_3168 : decode cL_law 3168 = .ok (.ifCond .eq 7, 3) := by decide +kernel
theorem dL_law_3171 : decode cL_law 3171 = .ok (.lconst 1, 1) := by decide +kernel
theorem dL_law_3172 : decode cL_law 3172 = .ok (.goto 4, 3) := by decide +kernel
theorem dL_law_3175 : decode cL_law 3175 = .ok (.lconst 0, 1) := by decide +kernel
theorem dL_law_3176 : decode cL_law 3176 = .ok (.lcmp, 1) := by decide +kernel
theorem dL_law_3177 : decode cL_law 3177 = .ok (.ifCond .eq 5, 3) := by decide +kernel
theorem dL_law_3180 : decode cL_law 3180 = .ok (.iconst 0, 1) := by decide +kernel
theorem dL_law_3181 : decode cL_law 3181 = .ok (.ireturn, 1) := by decide +kernel
theorem dL_law_3182 : decode cL_law 3182 = .ok (.goto 736, 3) := by decide +kernel
theorem dL_law_3185 : decode cL_law 3185 = .ok (.aload_n 1, 1) := by decide +kernel
theorem dL_law_3186 : decode cL_law 3186 = .ok (.aload_n 0, 1) := by decide +kernel
theorem dL_law_3187 : decode cL_law 3187 = .ok (.iload 5, 2) := by decide +kernel
theorem dL_law_3189 : decode cL_law 3189 = .ok (.iconst 1, 1) := by decide +kernel
theorem dL_law_3190 : decode cL_law 3190 = .ok (.iadd, 1) := by decide +kernel
theorem dL_law_3191 : decode cL_law 3191 = .ok (.iaload, 1) := by decide +kernel
theorem dL_law_3192 : decode cL_law 3192 = .ok (.aload_n 3, 1) := by decide +kernel
theorem dL_law_3193 : decode cL_law 3193 = .ok (.invokestatic 301, 3) := by decide +kernel
theorem dL_law_3196 : decode cL_law 3196 = .ok (.istore 6, 2) := by decide +kernel
theorem dL_law_3198 : decode cL_law 3198 = .ok (.aload_n 2, 1) := by decide +kernel
theorem dL_law_3199 : decode cL_law 3199 = .ok (.aload_n 0, 1) := by decide +kernel
theorem dL_law_3200 : decode cL_law 3200 = .ok (.iload 5, 2) := by decide +kernel
theorem dL_law_3202 : decode cL_law 3202 = .ok (.iconst 1, 1) := by decide +kernel
theorem dL_law_3203 : decode cL_law 3203 = .ok (.iadd, 1) := by decide +kernel
theorem dL_law_3204 : decode cL_law 3204 = .ok (.iaload, 1) := by decide +kernel
theorem dL_law_3205 : decode cL_law 3205 = .ok (.invokevirtual 303, 3) := by decide +kernel
theorem dL_law_3208 : decode cL_law 3208 = .ok (.istore 7, 2) := by decide +kernel
theorem dL_law_3210 : decode cL_law 3210 = .ok (.aload_n 2, 1) := by decide +kernel
theorem dL_law_3211 : decode cL_law 3211 = .ok (.invokevirtual 177, 3) := by decide +kernel
theorem dL_law_3214 : decode cL_law 3214 = .ok (.iload 6, 2) := by decide +kernel
theorem dL_law_3216 : decode cL_law 3216 = .ok (.if_icmp .eq 5, 3) := by decide +kernel
theorem dL_law_3219 : decode cL_law 3219 = .ok (.iconst 0, 1) := by decide +kernel
theorem dL_law_3220 : decode cL_law 3220 = .ok (.ireturn, 1) := by decide +kernel
theorem dL_law_3221 : decode cL_law 3221 = .ok (.iload 6, 2) := by decide +kernel
theorem dL_law_3223 : decode cL_law 3223 = .ok (.ifCond .ne 15, 3) := by decide +kernel
theorem dL_law_3226 : decode cL_law 3226 = .ok (.aload_n 3, 1) := by decide +kernel
theorem dL_law_3227 : decode cL_law 3227 = .ok (.iconst 0, 1) := by decide +kernel
theorem dL_law_3228 : decode cL_law 3228 = .ok (.laload, 1) := by decide +kernel
theorem dL_law_3229 : decode cL_law 3229 = .ok (.iload 7, 2) := by decide +kernel
theorem dL_law_3231 : decode cL_law 3231 = .ok (.i2l, 1) := by decide +kernel
theorem dL_law_3232 : decode cL_law 3232 = .ok (.lcmp, 1) := by decide +kernel
theorem dL_law_3233 : decode cL_law 3233 = .ok (.ifCond .eq 5, 3) := by decide +kernel
theorem dL_law_3236 : decode cL_law 3236 = .ok (.iconst 0, 1) := by decide +kernel
theorem dL_law_3237 : decode cL_law 3237 = .ok (.ireturn, 1) := by decide +kernel
theorem dL_law_3238 : decode cL_law 3238 = .ok (.goto 680, 3) := by decide +kernel
theorem dL_law_3241 : decode cL_law 3241 = .ok (.aload_n 1, 1) := by decide +kernel
theorem dL_law_3242 : decode cL_law 3242 = .ok (.aload_n 0, 1) := by decide +kernel
theorem dL_law_3243 : decode cL_law 3243 = .ok (.iload 5, 2) := by decide +kernel
theorem dL_law_3245 : decode cL_law 3245 = .ok (.iconst 1, 1) := by decide +kernel
theorem dL_law_3246 : decode cL_law 3246 = .ok (.iadd, 1) := by decide +kernel
theorem dL_law_3247 : decode cL_law 3247 = .ok (.iaload, 1) := by decide +kernel
theorem dL_law_3248 : decode cL_law 3248 = .ok (.aload_n 0, 1) := by decide +kernel
theorem dL_law_3249 : decode cL_law 3249 = .ok (.iload 5, 2) := by decide +kernel
theorem dL_law_3251 : decode cL_law 3251 = .ok (.iconst 2, 1) := by decide +kernel
theorem dL_law_3252 : decode cL_law 3252 = .ok (.iadd, 1) := by decide +kernel
theorem dL_law_3253 : decode cL_law 3253 = .ok (.iaload, 1) := by decide +kernel
theorem dL_law_3254 : decode cL_law 3254 = .ok (.aload_n 3, 1) := by decide +kernel
theorem dL_law_3255 : decode cL_law 3255 = .ok (.invokestatic 304, 3) := by decide +kernel
theorem dL_law_3258 : decode cL_law 3258 = .ok (.istore 6, 2) := by decide +kernel
theorem dL_law_3260 : decode cL_law 3260 = .ok (.aload_n 2, 1) := by decide +kernel
theorem dL_law_3261 : decode cL_law 3261 = .ok (.aload_n 0, 1) := by decide +kernel
theorem dL_law_3262 : decode cL_law 3262 = .ok (.iload 5, 2) := by decide +kernel
theorem dL_law_3264 : decode cL_law 3264 = .ok (.iconst 1, 1) := by decide +kernel
theorem dL_law_3265 : decode cL_law 3265 = .ok (.iadd, 1) := by decide +kernel
theorem dL_law_3266 : decode cL_law 3266 = .ok (.iaload, 1) := by decide +kernel
theorem dL_law_3267 : decode cL_law 3267 = .ok (.aload_n 0, 1) := by decide +kernel
theorem dL_law_3268 : decode cL_law 3268 = .ok (.iload 5, 2) := by decide +kernel
theorem dL_law_3270 : decode cL_law 3270 = .ok (.iconst 2, 1) := by decide +kernel
theorem dL_law_3271 : decode cL_law 3271 = .ok (.iadd, 1) := by decide +kernel
theorem dL_law_3272 : decode cL_law 3272 = .ok (.iaload, 1) := by decide +kernel
theorem dL_law_3273 : decode cL_law 3273 = .ok (.invokevirtual 306, 3) := by decide +kernel
theorem dL_law_3276 : decode cL_law 3276 = .ok (.istore 7, 2) := by decide +kernel
theorem dL_law_3278 : decode cL_law 3278 = .ok (.aload_n 2, 1) := by decide +kernel
theorem dL_law_3279 : decode cL_law 3279 = .ok (.invokevirtual 177, 3) := by decide +kernel
theorem dL_law_3282 : decode cL_law 3282 = .ok (.iload 6, 2) := by decide +kernel
theorem dL_law_3284 : decode cL_law 3284 = .ok (.if_icmp .eq 5, 3) := by decide +kernel
theorem dL_law_3287 : decode cL_law 3287 = .ok (.iconst 0, 1) := by decide +kernel
theorem dL_law_3288 : decode cL_law 3288 = .ok (.ireturn, 1) := by decide +kernel
theorem dL_law_3289 : decode cL_law 3289 = .ok (.iload 6, 2) := by decide +kernel
theorem dL_law_3291 : decode cL_law 3291 = .ok (.ifCond .ne 15, 3) := by decide +kernel
theorem dL_law_3294 : decode cL_law 3294 = .ok (.aload_n 3, 1) := by decide +kernel
theorem dL_law_3295 : decode cL_law 3295 = .ok (.iconst 0, 1) := by decide +kernel
theorem dL_law_3296 : decode cL_law 3296 = .ok (.laload, 1) := by decide +kernel
theorem dL_law_3297 : decode cL_law 3297 = .ok (.iload 7, 2) := by decide +kernel
theorem dL_law_3299 : decode cL_law 3299 = .ok (.i2l, 1) := by decide +kernel
theorem dL_law_3300 : decode cL_law 3300 = .ok (.lcmp, 1) := by decide +kernel
theorem dL_law_3301 : decode cL_law 3301 = .ok (.ifCond .eq 5, 3) := by decide +kernel
theorem dL_law_3304 : decode cL_law 3304 = .ok (.iconst 0, 1) := by decide +kernel
theorem dL_law_3305 : decode cL_law 3305 = .ok (.ireturn, 1) := by decide +kernel
theorem dL_law_3306 : decode cL_law 3306 = .ok (.goto 612, 3) := by decide +kernel
theorem dL_law_3309 : decode cL_law 3309 = .ok (.aload_n 1, 1) := by decide +kernel
theorem dL_law_3310 : decode cL_law 3310 = .ok (.aload_n 0, 1) := by decide +kernel
theorem dL_law_3311 : decode cL_law 3311 = .ok (.iload 5, 2) := by decide +kernel
theorem dL_law_3313 : decode cL_law 3313 = .ok (.iconst 1, 1) := by decide +kernel
theorem dL_law_3314 : decode cL_law 3314 = .ok (.iadd, 1) := by decide +kernel
theorem dL_law_3315 : decode cL_law 3315 = .ok (.iaload, 1) := by decide +kernel
theorem dL_law_3316 : decode cL_law 3316 = .ok (.aload_n 0, 1) := by decide +kernel
theorem dL_law_3317 : decode cL_law 3317 = .ok (.iload 5, 2) := by decide +kernel
theorem dL_law_3319 : decode cL_law 3319 = .ok (.iconst 2, 1) := by decide +kernel
theorem dL_law_3320 : decode cL_law 3320 = .ok (.iadd, 1) := by decide +kernel
theorem dL_law_3321 : decode cL_law 3321 = .ok (.iaload, 1) := by decide +kernel
theorem dL_law_3322 : decode cL_law 3322 = .ok (.aload_n 0, 1) := by decide +kernel
theorem dL_law_3323 : decode cL_law 3323 = .ok (.iload 5, 2) := by decide +kernel
theorem dL_law_3325 : decode cL_law 3325 = .ok (.iconst 3, 1) := by decide +kernel
theorem dL_law_3326 : decode cL_law 3326 = .ok (.iadd, 1) := by decide +kernel
theorem dL_law_3327 : decode cL_law 3327 = .ok (.iaload, 1) := by decide +kernel
theorem dL_law_3328 : decode cL_law 3328 = .ok (.aload_n 3, 1) := by decide +kernel
theorem dL_law_3329 : decode cL_law 3329 = .ok (.invokestatic 307, 3) := by decide +kernel
theorem dL_law_3332 : decode cL_law 3332 = .ok (.istore 6, 2) := by decide +kernel
theorem dL_law_3334 : decode cL_law 3334 = .ok (.aload_n 2, 1) := by decide +kernel
theorem dL_law_3335 : decode cL_law 3335 = .ok (.aload_n 0, 1) := by decide +kernel
theorem dL_law_3336 : decode cL_law 3336 = .ok (.iload 5, 2) := by decide +kernel
theorem dL_law_3338 : decode cL_law 3338 = .ok (.iconst 1, 1) := by decide +kernel
theorem dL_law_3339 : decode cL_law 3339 = .ok (.iadd, 1) := by decide +kernel
theorem dL_law_3340 : decode cL_law 3340 = .ok (.iaload, 1) := by decide +kernel
theorem dL_law_3341 : decode cL_law 3341 = .ok (.aload_n 0, 1) := by decide +kernel
theorem dL_law_3342 : decode cL_law 3342 = .ok (.iload 5, 2) := by decide +kernel
theorem dL_law_3344 : decode cL_law 3344 = .ok (.iconst 2, 1) := by decide +kernel
theorem dL_law_3345 : decode cL_law 3345 = .ok (.iadd, 1) := by decide +kernel
theorem dL_law_3346 : decode cL_law 3346 = .ok (.iaload, 1) := by decide +kernel
theorem dL_law_3347 : decode cL_law 3347 = .ok (.aload_n 0, 1) := by decide +kernel
theorem dL_law_3348 : decode cL_law 3348 = .ok (.iload 5, 2) := by decide +kernel
theorem dL_law_3350 : decode cL_law 3350 = .ok (.iconst 3, 1) := by decide +kernel
theorem dL_law_3351 : decode cL_law 3351 = .ok (.iadd, 1) := by decide +kernel
theorem dL_law_3352 : decode cL_law 3352 = .ok (.iaload, 1) := by decide +kernel
theorem dL_law_3353 : decode cL_law 3353 = .ok (.invokevirtual 309, 3) := by decide +kernel
theorem dL_law_3356 : decode cL_law 3356 = .ok (.istore 7, 2) := by decide +kernel
theorem dL_law_3358 : decode cL_law 3358 = .ok (.aload_n 2, 1) := by decide +kernel
theorem dL_law_3359 : decode cL_law 3359 = .ok (.invokevirtual 177, 3) := by decide +kernel
theorem dL_law_3362 : decode cL_law 3362 = .ok (.iload 6, 2) := by decide +kernel
theorem dL_law_3364 : decode cL_law 3364 = .ok (.if_icmp .eq 5, 3) := by decide +kernel
theorem dL_law_3367 : decode cL_law 3367 = .ok (.iconst 0, 1) := by decide +kernel
theorem dL_law_3368 : decode cL_law 3368 = .ok (.ireturn, 1) := by decide +kernel
theorem dL_law_3369 : decode cL_law 3369 = .ok (.iload 6, 2) := by decide +kernel
theorem dL_law_3371 : decode cL_law 3371 = .ok (.ifCond .ne 15, 3) := by decide +kernel
theorem dL_law_3374 : decode cL_law 3374 = .ok (.aload_n 3, 1) := by decide +kernel
theorem dL_law_3375 : decode cL_law 3375 = .ok (.iconst 0, 1) := by decide +kernel
theorem dL_law_3376 : decode cL_law 3376 = .ok (.laload, 1) := by decide +kernel
theorem dL_law_3377 : decode cL_law 3377 = .ok (.iload 7, 2) := by decide +kernel
theorem dL_law_3379 : decode cL_law 3379 = .ok (.i2l, 1) := by decide +kernel
theorem dL_law_3380 : decode cL_law 3380 = .ok (.lcmp, 1) := by decide +kernel
theorem dL_law_3381 : decode cL_law 3381 = .ok (.ifCond .eq 5, 3) := by decide +kernel
theorem dL_law_3384 : decode cL_law 3384 = .ok (.iconst 0, 1) := by decide +kernel
theorem dL_law_3385 : decode cL_law 3385 = .ok (.ireturn, 1) := by decide +kernel
theorem dL_law_3386 : decode cL_law 3386 = .ok (.goto 532, 3) := by decide +kernel
theorem dL_law_3389 : decode cL_law 3389 = .ok (.aload_n 1, 1) := by decide +kernel
theorem dL_law_3390 : decode cL_law 3390 = .ok (.aload_n 0, 1) := by decide +kernel
theorem dL_law_3391 : decode cL_law 3391 = .ok (.iload 5, 2) := by decide +kernel
theorem dL_law_3393 : decode cL_law 3393 = .ok (.iconst 1, 1) := by decide +kernel
theorem dL_law_3394 : decode cL_law 3394 = .ok (.iadd, 1) := by decide +kernel
theorem dL_law_3395 : decode cL_law 3395 = .ok (.iaload, 1) := by decide +kernel
theorem dL_law_3396 : decode cL_law 3396 = .ok (.aload_n 0, 1) := by decide +kernel
theorem dL_law_3397 : decode cL_law 3397 = .ok (.iload 5, 2) := by decide +kernel
theorem dL_law_3399 : decode cL_law 3399 = .ok (.iconst 2, 1) := by decide +kernel
theorem dL_law_3400 : decode cL_law 3400 = .ok (.iadd, 1) := by decide +kernel
theorem dL_law_3401 : decode cL_law 3401 = .ok (.iaload, 1) := by decide +kernel
theorem dL_law_3402 : decode cL_law 3402 = .ok (.aload_n 3, 1) := by decide +kernel
theorem dL_law_3403 : decode cL_law 3403 = .ok (.invokestatic 310, 3) := by decide +kernel
theorem dL_law_3406 : decode cL_law 3406 = .ok (.istore 6, 2) := by decide +kernel
theorem dL_law_3408 : decode cL_law 3408 = .ok (.aload_n 2, 1) := by decide +kernel
theorem dL_law_3409 : decode cL_law 3409 = .ok (.aload_n 0, 1) := by decide +kernel
theorem dL_law_3410 : decode cL_law 3410 = .ok (.iload 5, 2) := by decide +kernel
theorem dL_law_3412 : decode cL_law 3412 = .ok (.iconst 1, 1) := by decide +kernel
theorem dL_law_3413 : decode cL_law 3413 = .ok (.iadd, 1) := by decide +kernel
theorem dL_law_3414 : decode cL_law 3414 = .ok (.iaload, 1) := by decide +kernel
theorem dL_law_3415 : decode cL_law 3415 = .ok (.aload_n 0, 1) := by decide +kernel
theorem dL_law_3416 : decode cL_law 3416 = .ok (.iload 5, 2) := by decide +kernel
theorem dL_law_3418 : decode cL_law 3418 = .ok (.iconst 2, 1) := by decide +kernel
theorem dL_law_3419 : decode cL_law 3419 = .ok (.iadd, 1) := by decide +kernel
theorem dL_law_3420 : decode cL_law 3420 = .ok (.iaload, 1) := by decide +kernel
theorem dL_law_3421 : decode cL_law 3421 = .ok (.invokevirtual 312, 3) := by decide +kernel
theorem dL_law_3424 : decode cL_law 3424 = .ok (.istore 7, 2) := by decide +kernel
theorem dL_law_3426 : decode cL_law 3426 = .ok (.aload_n 2, 1) := by decide +kernel
theorem dL_law_3427 : decode cL_law 3427 = .ok (.invokevirtual 177, 3) := by decide +kernel
theorem dL_law_3430 : decode cL_law 3430 = .ok (.iload 6, 2) := by decide +kernel
theorem dL_law_3432 : decode cL_law 3432 = .ok (.if_icmp .eq 5, 3) := by decide +kernel
theorem dL_law_3435 : decode cL_law 3435 = .ok (.iconst 0, 1) := by decide +kernel
theorem dL_law_3436 : decode cL_law 3436 = .ok (.ireturn, 1) := by decide +kernel
theorem dL_law_3437 : decode cL_law 3437 = .ok (.iload 6, 2) := by decide +kernel
theorem dL_law_3439 : decode cL_law 3439 = .ok (.ifCond .ne 15, 3) := by decide +kernel
theorem dL_law_3442 : decode cL_law 3442 = .ok (.aload_n 3, 1) := by decide +kernel
theorem dL_law_3443 : decode cL_law 3443 = .ok (.iconst 0, 1) := by decide +kernel
theorem dL_law_3444 : decode cL_law 3444 = .ok (.laload, 1) := by decide +kernel
theorem dL_law_3445 : decode cL_law 3445 = .ok (.iload 7, 2) := by decide +kernel
theorem dL_law_3447 : decode cL_law 3447 = .ok (.i2l, 1) := by decide +kernel
theorem dL_law_3448 : decode cL_law 3448 = .ok (.lcmp, 1) := by decide +kernel
theorem dL_law_3449 : decode cL_law 3449 = .ok (.ifCond .eq 5, 3) := by decide +kernel
theorem dL_law_3452 : decode cL_law 3452 = .ok (.iconst 0, 1) := by decide +kernel
theorem dL_law_3453 : decode cL_law 3453 = .ok (.ireturn, 1) := by decide +kernel
theorem dL_law_3454 : decode cL_law 3454 = .ok (.goto 464, 3) := by decide +kernel
theorem dL_law_3457 : decode cL_law 3457 = .ok (.aload_n 1, 1) := by decide +kernel
theorem dL_law_3458 : decode cL_law 3458 = .ok (.aload_n 0, 1) := by decide +kernel
theorem dL_law_3459 : decode cL_law 3459 = .ok (.iload 5, 2) := by decide +kernel
theorem dL_law_3461 : decode cL_law 3461 = .ok (.iconst 1, 1) := by decide +kernel
theorem dL_law_3462 : decode cL_law 3462 = .ok (.iadd, 1) := by decide +kernel
theorem dL_law_3463 : decode cL_law 3463 = .ok (.iaload, 1) := by decide +kernel
theorem dL_law_3464 : decode cL_law 3464 = .ok (.aload_n 0, 1) := by decide +kernel
theorem dL_law_3465 : decode cL_law 3465 = .ok (.iload 5, 2) := by decide +kernel
theorem dL_law_3467 : decode cL_law 3467 = .ok (.iconst 2, 1) := by decide +kernel
theorem dL_law_3468 : decode cL_law 3468 = .ok (.iadd, 1) := by decide +kernel
theorem dL_law_3469 : decode cL_law 3469 = .ok (.iaload, 1) := by decide +kernel
theorem dL_law_3470 : decode cL_law 3470 = .ok (.aload_n 3, 1) := by decide +kernel
theorem dL_law_3471 : decode cL_law 3471 = .ok (.invokestatic 313, 3) := by decide +kernel
theorem dL_law_3474 : decode cL_law 3474 = .ok (.istore 6, 2) := by decide +kernel
theorem dL_law_3476 : decode cL_law 3476 = .ok (.aload_n 2, 1) := by decide +kernel
theorem dL_law_3477 : decode cL_law 3477 = .ok (.aload_n 0, 1) := by decide +kernel
theorem dL_law_3478 : decode cL_law 3478 = .ok (.iload 5, 2) := by decide +kernel
theorem dL_law_3480 : decode cL_law 3480 = .ok (.iconst 1, 1) := by decide +kernel
theorem dL_law_3481 : decode cL_law 3481 = .ok (.iadd, 1) := by decide +kernel
theorem dL_law_3482 : decode cL_law 3482 = .ok (.iaload, 1) := by decide +kernel
theorem dL_law_3483 : decode cL_law 3483 = .ok (.aload_n 0, 1) := by decide +kernel
theorem dL_law_3484 : decode cL_law 3484 = .ok (.iload 5, 2) := by decide +kernel
theorem dL_law_3486 : decode cL_law 3486 = .ok (.iconst 2, 1) := by decide +kernel
theorem dL_law_3487 : decode cL_law 3487 = .ok (.iadd, 1) := by decide +kernel
theorem dL_law_3488 : decode cL_law 3488 = .ok (.iaload, 1) := by decide +kernel
theorem dL_law_3489 : decode cL_law 3489 = .ok (.invokevirtual 315, 3) := by decide +kernel
theorem dL_law_3492 : decode cL_law 3492 = .ok (.istore 7, 2) := by decide +kernel
theorem dL_law_3494 : decode cL_law 3494 = .ok (.aload_n 2, 1) := by decide +kernel
theorem dL_law_3495 : decode cL_law 3495 = .ok (.invokevirtual 177, 3) := by decide +kernel
theorem dL_law_3498 : decode cL_law 3498 = .ok (.iload 6, 2) := by decide +kernel
theorem dL_law_3500 : decode cL_law 3500 = .ok (.if_icmp .eq 5, 3) := by decide +kernel
theorem dL_law_3503 : decode cL_law 3503 = .ok (.iconst 0, 1) := by decide +kernel
theorem dL_law_3504 : decode cL_law 3504 = .ok (.ireturn, 1) := by decide +kernel
theorem dL_law_3505 : decode cL_law 3505 = .ok (.iload 6, 2) := by decide +kernel
theorem dL_law_3507 : decode cL_law 3507 = .ok (.ifCond .ne 15, 3) := by decide +kernel
theorem dL_law_3510 : decode cL_law 3510 = .ok (.aload_n 3, 1) := by decide +kernel
theorem dL_law_3511 : decode cL_law 3511 = .ok (.iconst 0, 1) := by decide +kernel
theorem dL_law_3512 : decode cL_law 3512 = .ok (.laload, 1) := by decide +kernel
theorem dL_law_3513 : decode cL_law 3513 = .ok (.iload 7, 2) := by decide +kernel
theorem dL_law_3515 : decode cL_law 3515 = .ok (.i2l, 1) := by decide +kernel
theorem dL_law_3516 : decode cL_law 3516 = .ok (.lcmp, 1) := by decide +kernel
theorem dL_law_3517 : decode cL_law 3517 = .ok (.ifCond .eq 5, 3) := by decide +kernel
theorem dL_law_3520 : decode cL_law 3520 = .ok (.iconst 0, 1) := by decide +kernel
theorem dL_law_3521 : decode cL_law 3521 = .ok (.ireturn, 1) := by decide +kernel
theorem dL_law_3522 : decode cL_law 3522 = .ok (.goto 396, 3) := by decide +kernel
theorem dL_law_3525 : decode cL_law 3525 = .ok (.aload_n 1, 1) := by decide +kernel
theorem dL_law_3526 : decode cL_law 3526 = .ok (.aload_n 0, 1) := by decide +kernel
theorem dL_law_3527 : decode cL_law 3527 = .ok (.iload 5, 2) := by decide +kernel
theorem dL_law_3529 : decode cL_law 3529 = .ok (.iconst 1, 1) := by decide +kernel
theorem dL_law_3530 : decode cL_law 3530 = .ok (.iadd, 1) := by decide +kernel
theorem dL_law_3531 : decode cL_law 3531 = .ok (.iaload, 1) := by decide +kernel
theorem dL_law_3532 : decode cL_law 3532 = .ok (.aload_n 0, 1) := by decide +kernel
theorem dL_law_3533 : decode cL_law 3533 = .ok (.iload 5, 2) := by decide +kernel
theorem dL_law_3535 : decode cL_law 3535 = .ok (.iconst 2, 1) := by decide +kernel
theorem dL_law_3536 : decode cL_law 3536 = .ok (.iadd, 1) := by decide +kernel
theorem dL_law_3537 : decode cL_law 3537 = .ok (.iaload, 1) := by decide +kernel
theorem dL_law_3538 : decode cL_law 3538 = .ok (.aload_n 3, 1) := by decide +kernel
theorem dL_law_3539 : decode cL_law 3539 = .ok (.invokestatic 316, 3) := by decide +kernel
theorem dL_law_3542 : decode cL_law 3542 = .ok (.istore 6, 2) := by decide +kernel
theorem dL_law_3544 : decode cL_law 3544 = .ok (.aload_n 2, 1) := by decide +kernel
theorem dL_law_3545 : decode cL_law 3545 = .ok (.aload_n 0, 1) := by decide +kernel
theorem dL_law_3546 : decode cL_law 3546 = .ok (.iload 5, 2) := by decide +kernel
theorem dL_law_3548 : decode cL_law 3548 = .ok (.iconst 1, 1) := by decide +kernel
theorem dL_law_3549 : decode cL_law 3549 = .ok (.iadd, 1) := by decide +kernel
theorem dL_law_3550 : decode cL_law 3550 = .ok (.iaload, 1) := by decide +kernel
theorem dL_law_3551 : decode cL_law 3551 = .ok (.aload_n 0, 1) := by decide +kernel
theorem dL_law_3552 : decode cL_law 3552 = .ok (.iload 5, 2) := by decide +kernel
theorem dL_law_3554 : decode cL_law 3554 = .ok (.iconst 2, 1) := by decide +kernel
theorem dL_law_3555 : decode cL_law 3555 = .ok (.iadd, 1) := by decide +kernel
theorem dL_law_3556 : decode cL_law 3556 = .ok (.iaload, 1) := by decide +kernel
theorem dL_law_3557 : decode cL_law 3557 = .ok (.invokevirtual 318, 3) := by decide +kernel
theorem dL_law_3560 : decode cL_law 3560 = .ok (.istore 7, 2) := by decide +kernel
theorem dL_law_3562 : decode cL_law 3562 = .ok (.aload_n 2, 1) := by decide +kernel
theorem dL_law_3563 : decode cL_law 3563 = .ok (.invokevirtual 177, 3) := by decide +kernel
theorem dL_law_3566 : decode cL_law 3566 = .ok (.iload 6, 2) := by decide +kernel
theorem dL_law_3568 : decode cL_law 3568 = .ok (.if_icmp .eq 5, 3) := by decide +kernel
theorem dL_law_3571 : decode cL_law 3571 = .ok (.iconst 0, 1) := by decide +kernel
theorem dL_law_3572 : decode cL_law 3572 = .ok (.ireturn, 1) := by decide +kernel
theorem dL_law_3573 : decode cL_law 3573 = .ok (.iload 6, 2) := by decide +kernel
theorem dL_law_3575 : decode cL_law 3575 = .ok (.ifCond .ne 15, 3) := by decide +kernel
theorem dL_law_3578 : decode cL_law 3578 = .ok (.aload_n 3, 1) := by decide +kernel
theorem dL_law_3579 : decode cL_law 3579 = .ok (.iconst 0, 1) := by decide +kernel
theorem dL_law_3580 : decode cL_law 3580 = .ok (.laload, 1) := by decide +kernel
theorem dL_law_3581 : decode cL_law 3581 = .ok (.iload 7, 2) := by decide +kernel
theorem dL_law_3583 : decode cL_law 3583 = .ok (.i2l, 1) := by decide +kernel
theorem dL_law_3584 : decode cL_law 3584 = .ok (.lcmp, 1) := by decide +kernel
theorem dL_law_3585 : decode cL_law 3585 = .ok (.ifCond .eq 5, 3) := by decide +kernel
theorem dL_law_3588 : decode cL_law 3588 = .ok (.iconst 0, 1) := by decide +kernel
theorem dL_law_3589 : decode cL_law 3589 = .ok (.ireturn, 1) := by decide +kernel
theorem dL_law_3590 : decode cL_law 3590 = .ok (.goto 328, 3) := by decide +kernel
theorem dL_law_3593 : decode cL_law 3593 = .ok (.aload_n 1, 1) := by decide +kernel
theorem dL_law_3594 : decode cL_law 3594 = .ok (.invokevirtual 319, 3) := by decide +kernel
theorem dL_law_3597 : decode cL_law 3597 = .ok (.aload_n 2, 1) := by decide +kernel
theorem dL_law_3598 : decode cL_law 3598 = .ok (.invokevirtual 322, 3) := by decide +kernel
theorem dL_law_3601 : decode cL_law 3601 = .ok (.if_icmp .eq 317, 3) := by decide +kernel
theorem dL_law_3604 : decode cL_law 3604 = .ok (.iconst 0, 1) := by decide +kernel
theorem dL_law_3605 : decode cL_law 3605 = .ok (.ireturn, 1) := by decide +kernel
theorem dL_law_3606 : decode cL_law 3606 = .ok (.aload_n 1, 1) := by decide +kernel
theorem dL_law_3607 : decode cL_law 3607 = .ok (.aload_n 0, 1) := by decide +kernel
theorem dL_law_3608 : decode cL_law 3608 = .ok (.iload 5, 2) := by decide +kernel
theorem dL_law_3610 : decode cL_law 3610 = .ok (.iconst 1, 1) := by decide +kernel
theorem dL_law_3611 : decode cL_law 3611 = .ok (.iadd, 1) := by decide +kernel
theorem dL_law_3612 : decode cL_law 3612 = .ok (.iaload, 1) := by decide +kernel
theorem dL_law_3613 : decode cL_law 3613 = .ok (.ifCond .eq 7, 3) := by decide +kernel
theorem dL_law_3616 : decode cL_law 3616 = .ok (.iconst 1, 1) := by decide +kernel
theorem dL_law_3617 : decode cL_law 3617 = .ok (.goto 4, 3) := by decide +kernel
theorem dL_law_3620 : decode cL_law 3620 = .ok (.iconst 0, 1) := by decide +kernel
theorem dL_law_3621 : decode cL_law 3621 = .ok (.invokevirtual 323, 3) := by decide +kernel
theorem dL_law_3624 : decode cL_law 3624 = .ok (.aload_n 2, 1) := by decide +kernel
theorem dL_law_3625 : decode cL_law 3625 = .ok (.aload_n 0, 1) := by decide +kernel
theorem dL_law_3626 : decode cL_law 3626 = .ok (.iload 5, 2) := by decide +kernel
theorem dL_law_3628 : decode cL_law 3628 = .ok (.iconst 1, 1) := by decide +kernel
theorem dL_law_3629 : decode cL_law 3629 = .ok (.iadd, 1) := by decide +kernel
theorem dL_law_3630 : decode cL_law 3630 = .ok (.iaload, 1) := by decide +kernel
theorem dL_law_3631 : decode cL_law 3631 = .ok (.ifCond .eq 7, 3) := by decide +kernel
theorem dL_law_3634 : decode cL_law 3634 = .ok (.iconst 1, 1) := by decide +kernel
theorem dL_law_3635 : decode cL_law 3635 = .ok (.goto 4, 3) := by decide +kernel
theorem dL_law_3638 : decode cL_law 3638 = .ok (.iconst 0, 1) := by decide +kernel
theorem dL_law_3639 : decode cL_law 3639 = .ok (.invokevirtual 326, 3) := by decide +kernel
theorem dL_law_3642 : decode cL_law 3642 = .ok (.if_icmp .eq 276, 3) := by decide +kernel
theorem dL_law_3645 : decode cL_law 3645 = .ok (.iconst 0, 1) := by decide +kernel
theorem dL_law_3646 : decode cL_law 3646 = .ok (.ireturn, 1) := by decide +kernel
theorem dL_law_3647 : decode cL_law 3647 = .ok (.aload_n 1, 1) := by decide +kernel
theorem dL_law_3648 : decode cL_law 3648 = .ok (.aload_n 0, 1) := by decide +kernel
theorem dL_law_3649 : decode cL_law 3649 = .ok (.iload 5, 2) := by decide +kernel
theorem dL_law_3651 : decode cL_law 3651 = .ok (.iconst 1, 1) := by decide +kernel
theorem dL_law_3652 : decode cL_law 3652 = .ok (.iadd, 1) := by decide +kernel
theorem dL_law_3653 : decode cL_law 3653 = .ok (.iaload, 1) := by decide +kernel
theorem dL_law_3654 : decode cL_law 3654 = .ok (.aload_n 3, 1) := by decide +kernel
theorem dL_law_3655 : decode cL_law 3655 = .ok (.invokestatic 327, 3) := by decide +kernel
theorem dL_law_3658 : decode cL_law 3658 = .ok (.istore 6, 2) := by decide +kernel
theorem dL_law_3660 : decode cL_law 3660 = .ok (.aload_n 2, 1) := by decide +kernel
theorem dL_law_3661 : decode cL_law 3661 = .ok (.aload_n 0, 1) := by decide +kernel
theorem dL_law_3662 : decode cL_law 3662 = .ok (.iload 5, 2) := by decide +kernel
theorem dL_law_3664 : decode cL_law 3664 = .ok (.iconst 1, 1) := by decide +kernel
theorem dL_law_3665 : decode cL_law 3665 = .ok (.iadd, 1) := by decide +kernel
theorem dL_law_3666 : decode cL_law 3666 = .ok (.iaload, 1) := by decide +kernel
theorem dL_law_3667 : decode cL_law 3667 = .ok (.invokevirtual 329, 3) := by decide +kernel
theorem dL_law_3670 : decode cL_law 3670 = .ok (.lstore 7, 2) := by decide +kernel
theorem dL_law_3672 : decode cL_law 3672 = .ok (.aload_n 2, 1) := by decide +kernel
theorem dL_law_3673 : decode cL_law 3673 = .ok (.invokevirtual 177, 3) := by decide +kernel
theorem dL_law_3676 : decode cL_law 3676 = .ok (.iload 6, 2) := by decide +kernel
theorem dL_law_3678 : decode cL_law 3678 = .ok (.if_icmp .eq 5, 3) := by decide +kernel
theorem dL_law_3681 : decode cL_law 3681 = .ok (.iconst 0, 1) := by decide +kernel
theorem dL_law_3682 : decode cL_law 3682 = .ok (.ireturn, 1) := by decide +kernel
theorem dL_law_3683 : decode cL_law 3683 = .ok (.iload 6, 2) := by decide +kernel
theorem dL_law_3685 : decode cL_law 3685 = .ok (.ifCond .ne 14, 3) := by decide +kernel
theorem dL_law_3688 : decode cL_law 3688 = .ok (.aload_n 3, 1) := by decide +kernel
theorem dL_law_3689 : decode cL_law 3689 = .ok (.iconst 0, 1) := by decide +kernel
theorem dL_law_3690 : decode cL_law 3690 = .ok (.laload, 1) := by decide +kernel
theorem dL_law_3691 : decode cL_law 3691 = .ok (.lload 7, 2) := by decide +kernel
theorem dL_law_3693 : decode cL_law 3693 = .ok (.lcmp, 1) := by decide +kernel
theorem dL_law_3694 : decode cL_law 3694 = .ok (.ifCond .eq 5, 3) := by decide +kernel
theorem dL_law_3697 : decode cL_law 3697 = .ok (.iconst 0, 1) := by decide +kernel
theorem dL_law_3698 : decode cL_law 3698 = .ok (.ireturn, 1) := by decide +kernel
theorem dL_law_3699 : decode cL_law 3699 = .ok (.goto 219, 3) := by decide +kernel
theorem dL_law_3702 : decode cL_law 3702 = .ok (.aload_n 1, 1) := by decide +kernel
theorem dL_law_3703 : decode cL_law 3703 = .ok (.aload_n 0, 1) := by decide +kernel
theorem dL_law_3704 : decode cL_law 3704 = .ok (.iload 5, 2) := by decide +kernel
theorem dL_law_3706 : decode cL_law 3706 = .ok (.iconst 1, 1) := by decide +kernel
theorem dL_law_3707 : decode cL_law 3707 = .ok (.iadd, 1) := by decide +kernel
theorem dL_law_3708 : decode cL_law 3708 = .ok (.iaload, 1) := by decide +kernel
theorem dL_law_3709 : decode cL_law 3709 = .ok (.aload_n 0, 1) := by decide +kernel
theorem dL_law_3710 : decode cL_law 3710 = .ok (.iload 5, 2) := by decide +kernel
theorem dL_law_3712 : decode cL_law 3712 = .ok (.iconst 2, 1) := by decide +kernel
theorem dL_law_3713 : decode cL_law 3713 = .ok (.iadd, 1) := by decide +kernel
theorem dL_law_3714 : decode cL_law 3714 = .ok (.iaload, 1) := by decide +kernel
theorem dL_law_3715 : decode cL_law 3715 = .ok (.aload_n 0, 1) := by decide +kernel
theorem dL_law_3716 : decode cL_law 3716 = .ok (.iload 5, 2) := by decide +kernel
theorem dL_law_3718 : decode cL_law 3718 = .ok (.iconst 3, 1) := by decide +kernel
theorem dL_law_3719 : decode cL_law 3719 = .ok (.iadd, 1) := by decide +kernel
theorem dL_law_3720 : decode cL_law 3720 = .ok (.iaload, 1) := by decide +kernel
theorem dL_law_3721 : decode cL_law 3721 = .ok (.aload 4, 2) := by decide +kernel
theorem dL_law_3723 : decode cL_law 3723 = .ok (.invokestatic 330, 3) := by decide +kernel
theorem dL_law_3726 : decode cL_law 3726 = .ok (.istore 6, 2) := by decide +kernel
theorem dL_law_3728 : decode cL_law 3728 = .ok (.aload_n 2, 1) := by decide +kernel
theorem dL_law_3729 : decode cL_law 3729 = .ok (.aload_n 0, 1) := by decide +kernel
theorem dL_law_3730 : decode cL_law 3730 = .ok (.iload 5, 2) := by decide +kernel
theorem dL_law_3732 : decode cL_law 3732 = .ok (.iconst 1, 1) := by decide +kernel
theorem dL_law_3733 : decode cL_law 3733 = .ok (.iadd, 1) := by decide +kernel
theorem dL_law_3734 : decode cL_law 3734 = .ok (.iaload, 1) := by decide +kernel
theorem dL_law_3735 : decode cL_law 3735 = .ok (.aload_n 0, 1) := by decide +kernel
theorem dL_law_3736 : decode cL_law 3736 = .ok (.iload 5, 2) := by decide +kernel
theorem dL_law_3738 : decode cL_law 3738 = .ok (.iconst 2, 1) := by decide +kernel
theorem dL_law_3739 : decode cL_law 3739 = .ok (.iadd, 1) := by decide +kernel
theorem dL_law_3740 : decode cL_law 3740 = .ok (.iaload, 1) := by decide +kernel
theorem dL_law_3741 : decode cL_law 3741 = .ok (.aload_n 0, 1) := by decide +kernel
theorem dL_law_3742 : decode cL_law 3742 = .ok (.iload 5, 2) := by decide +kernel
theorem dL_law_3744 : decode cL_law 3744 = .ok (.iconst 3, 1) := by decide +kernel
theorem dL_law_3745 : decode cL_law 3745 = .ok (.iadd, 1) := by decide +kernel
theorem dL_law_3746 : decode cL_law 3746 = .ok (.iaload, 1) := by decide +kernel
theorem dL_law_3747 : decode cL_law 3747 = .ok (.invokevirtual 333, 3) := by decide +kernel
theorem dL_law_3750 : decode cL_law 3750 = .ok (.fstore 7, 2) := by decide +kernel
theorem dL_law_3752 : decode cL_law 3752 = .ok (.aload_n 2, 1) := by decide +kernel
theorem dL_law_3753 : decode cL_law 3753 = .ok (.invokevirtual 177, 3) := by decide +kernel
theorem dL_law_3756 : decode cL_law 3756 = .ok (.iload 6, 2) := by decide +kernel
theorem dL_law_3758 : decode cL_law 3758 = .ok (.if_icmp .eq 5, 3) := by decide +kernel
theorem dL_law_3761 : decode cL_law 3761 = .ok (.iconst 0, 1) := by decide +kernel
theorem dL_law_3762 : decode cL_law 3762 = .ok (.ireturn, 1) := by decide +kernel
theorem dL_law_3763 : decode cL_law 3763 = .ok (.iload 6, 2) := by decide +kernel
theorem dL_law_3765 : decode cL_law 3765 = .ok (.ifCond .ne 36, 3) := by decide +kernel
theorem dL_law_3768 : decode cL_law 3768 = .ok (.aload 4, 2) := by decide +kernel
theorem dL_law_3770 : decode cL_law 3770 = .ok (.iconst 0, 1) := by decide +kernel
theorem dL_law_3771 : decode cL_law 3771 = .ok (.daload, 1) := by decide +kernel
theorem dL_law_3772 : decode cL_law 3772 = .ok (.fload 7, 2) := by decide +kernel
theorem dL_law_3774 : decode cL_law 3774 = .ok (.f2d, 1) := by decide +kernel
theorem dL_law_3775 : decode cL_law 3775 = .ok (.dcmp .l, 1) := by decide +kernel
theorem dL_law_3776 : decode cL_law 3776 = .ok (.ifCond .eq 25, 3) := by decide +kernel
theorem dL_law_3779 : decode cL_law 3779 = .ok (.aload 4, 2) := by decide +kernel
theorem dL_law_3781 : decode cL_law 3781 = .ok (.iconst 0, 1) := by decide +kernel
theorem dL_law_3782 : decode cL_law 3782 = .ok (.daload, 1) := by decide +kernel
theorem dL_law_3783 : decode cL_law 3783 = .ok (.aload 4, 2) := by decide +kernel
theorem dL_law_3785 : decode cL_law 3785 = .ok (.iconst 0, 1) := by decide +kernel
theorem dL_law_3786 : decode cL_law 3786 = .ok (.daload, 1) := by decide +kernel
theorem dL_law_3787 : decode cL_law 3787 = .ok (.dcmp .l, 1) := by decide +kernel
theorem dL_law_3788 : decode cL_law 3788 = .ok (.ifCond .eq 11, 3) := by decide +kernel
theorem dL_law_3791 : decode cL_law 3791 = .ok (.fload 7, 2) := by decide +kernel
theorem dL_law_3793 : decode cL_law 3793 = .ok (.fload 7, 2) := by decide +kernel
theorem dL_law_3795 : decode cL_law 3795 = .ok (.fcmp .l, 1) := by decide +kernel
theorem dL_law_3796 : decode cL_law 3796 = .ok (.ifCond .ne 5, 3) := by decide +kernel
theorem dL_law_3799 : decode cL_law 3799 = .ok (.iconst 0, 1) := by decide +kernel
theorem dL_law_3800 : decode cL_law 3800 = .ok (.ireturn, 1) := by decide +kernel
theorem dL_law_3801 : decode cL_law 3801 = .ok (.goto 117, 3) := by decide +kernel
theorem dL_law_3804 : decode cL_law 3804 = .ok (.aload_n 1, 1) := by decide +kernel
theorem dL_law_3805 : decode cL_law 3805 = .ok (.aload_n 0, 1) := by decide +kernel
theorem dL_law_3806 : decode cL_law 3806 = .ok (.iload 5, 2) := by decide +kernel
theorem dL_law_3808 : decode cL_law 3808 = .ok (.iconst 1, 1) := by decide +kernel
theorem dL_law_3809 : decode cL_law 3809 = .ok (.iadd, 1) := by decide +kernel
theorem dL_law_3810 : decode cL_law 3810 = .ok (.iaload, 1) := by decide +kernel
theorem dL_law_3811 : decode cL_law 3811 = .ok (.aload_n 0, 1) := by decide +kernel
theorem dL_law_3812 : decode cL_law 3812 = .ok (.iload 5, 2) := by decide +kernel
theorem dL_law_3814 : decode cL_law 3814 = .ok (.iconst 2, 1) := by decide +kernel
theorem dL_law_3815 : decode cL_law 3815 = .ok (.iadd, 1) := by decide +kernel
theorem dL_law_3816 : decode cL_law 3816 = .ok (.iaload, 1) := by decide +kernel
theorem dL_law_3817 : decode cL_law 3817 = .ok (.aload_n 0, 1) := by decide +kernel
theorem dL_law_3818 : decode cL_law 3818 = .ok (.iload 5, 2) := by decide +kernel
theorem dL_law_3820 : decode cL_law 3820 = .ok (.iconst 3, 1) := by decide +kernel
theorem dL_law_3821 : decode cL_law 3821 = .ok (.iadd, 1) := by decide +kernel
theorem dL_law_3822 : decode cL_law 3822 = .ok (.iaload, 1) := by decide +kernel
theorem dL_law_3823 : decode cL_law 3823 = .ok (.aload 4, 2) := by decide +kernel
theorem dL_law_3825 : decode cL_law 3825 = .ok (.invokestatic 334, 3) := by decide +kernel
theorem dL_law_3828 : decode cL_law 3828 = .ok (.istore 6, 2) := by decide +kernel
theorem dL_law_3830 : decode cL_law 3830 = .ok (.aload_n 2, 1) := by decide +kernel
theorem dL_law_3831 : decode cL_law 3831 = .ok (.aload_n 0, 1) := by decide +kernel
theorem dL_law_3832 : decode cL_law 3832 = .ok (.iload 5, 2) := by decide +kernel
theorem dL_law_3834 : decode cL_law 3834 = .ok (.iconst 1, 1) := by decide +kernel
theorem dL_law_3835 : decode cL_law 3835 = .ok (.iadd, 1) := by decide +kernel
theorem dL_law_3836 : decode cL_law 3836 = .ok (.iaload, 1) := by decide +kernel
theorem dL_law_3837 : decode cL_law 3837 = .ok (.aload_n 0, 1) := by decide +kernel
theorem dL_law_3838 : decode cL_law 3838 = .ok (.iload 5, 2) := by decide +kernel
theorem dL_law_3840 : decode cL_law 3840 = .ok (.iconst 2, 1) := by decide +kernel
theorem dL_law_3841 : decode cL_law 3841 = .ok (.iadd, 1) := by decide +kernel
theorem dL_law_3842 : decode cL_law 3842 = .ok (.iaload, 1) := by decide +kernel
theorem dL_law_3843 : decode cL_law 3843 = .ok (.aload_n 0, 1) := by decide +kernel
theorem dL_law_3844 : decode cL_law 3844 = .ok (.iload 5, 2) := by decide +kernel
theorem dL_law_3846 : decode cL_law 3846 = .ok (.iconst 3, 1) := by decide +kernel
theorem dL_law_3847 : decode cL_law 3847 = .ok (.iadd, 1) := by decide +kernel
theorem dL_law_3848 : decode cL_law 3848 = .ok (.iaload, 1) := by decide +kernel
theorem dL_law_3849 : decode cL_law 3849 = .ok (.invokevirtual 336, 3) := by decide +kernel
theorem dL_law_3852 : decode cL_law 3852 = .ok (.dstore 7, 2) := by decide +kernel
theorem dL_law_3854 : decode cL_law 3854 = .ok (.aload_n 2, 1) := by decide +kernel
theorem dL_law_3855 : decode cL_law 3855 = .ok (.invokevirtual 177, 3) := by decide +kernel
theorem dL_law_3858 : decode cL_law 3858 = .ok (.iload 6, 2) := by decide +kernel
theorem dL_law_3860 : decode cL_law 3860 = .ok (.if_icmp .eq 5, 3) := by decide +kernel
theorem dL_law_3863 : decode cL_law 3863 = .ok (.iconst 0, 1) := by decide +kernel
theorem dL_law_3864 : decode cL_law 3864 = .ok (.ireturn, 1) := by decide +kernel
theorem dL_law_3865 : decode cL_law 3865 = .ok (.iload 6, 2) := by decide +kernel
theorem dL_law_3867 : decode cL_law 3867 = .ok (.ifCond .ne 35, 3) := by decide +kernel
theorem dL_law_3870 : decode cL_law 3870 = .ok (.aload 4, 2) := by decide +kernel
theorem dL_law_3872 : decode cL_law 3872 = .ok (.iconst 0, 1) := by decide +kernel
theorem dL_law_3873 : decode cL_law 3873 = .ok (.daload, 1) := by decide +kernel
theorem dL_law_3874 : decode cL_law 3874 = .ok (.dload 7, 2) := by decide +kernel
theorem dL_law_3876 : decode cL_law 3876 = .ok (.dcmp .l, 1) := by decide +kernel
theorem dL_law_3877 : decode cL_law 3877 = .ok (.ifCond .eq 25, 3) := by decide +kernel
theorem dL_law_3880 : decode cL_law 3880 = .ok (.aload 4, 2) := by decide +kernel
theorem dL_law_3882 : decode cL_law 3882 = .ok (.iconst 0, 1) := by decide +kernel
theorem dL_law_3883 : decode cL_law 3883 = .ok (.daload, 1) := by decide +kernel
theorem dL_law_3884 : decode cL_law 3884 = .ok (.aload 4, 2) := by decide +kernel
theorem dL_law_3886 : decode cL_law 3886 = .ok (.iconst 0, 1) := by decide +kernel
theorem dL_law_3887 : decode cL_law 3887 = .ok (.daload, 1) := by decide +kernel
theorem dL_law_3888 : decode cL_law 3888 = .ok (.dcmp .l, 1) := by decide +kernel
theorem dL_law_3889 : decode cL_law 3889 = .ok (.ifCond .eq 11, 3) := by decide +kernel
theorem dL_law_3892 : decode cL_law 3892 = .ok (.dload 7, 2) := by decide +kernel
theorem dL_law_3894 : decode cL_law 3894 = .ok (.dload 7, 2) := by decide +kernel
theorem dL_law_3896 : decode cL_law 3896 = .ok (.dcmp .l, 1) := by decide +kernel
theorem dL_law_3897 : decode cL_law 3897 = .ok (.ifCond .ne 5, 3) := by decide +kernel
theorem dL_law_3900 : decode cL_law 3900 = .ok (.iconst 0, 1) := by decide +kernel
theorem dL_law_3901 : decode cL_law 3901 = .ok (.ireturn, 1) := by decide +kernel
theorem dL_law_3902 : decode cL_law 3902 = .ok (.goto 16, 3) := by decide +kernel
theorem dL_law_3905 : decode cL_law 3905 = .ok (.aload_n 1, 1) := by decide +kernel
theorem dL_law_3906 : decode cL_law 3906 = .ok (.invokevirtual 337, 3) := by decide +kernel
theorem dL_law_3909 : decode cL_law 3909 = .ok (.aload_n 2, 1) := by decide +kernel
theorem dL_law_3910 : decode cL_law 3910 = .ok (.invokevirtual 341, 3) := by decide +kernel
theorem dL_law_3913 : decode cL_law 3913 = .ok (.if_icmp .eq 5, 3) := by decide +kernel
theorem dL_law_3916 : decode cL_law 3916 = .ok (.iconst 0, 1) := by decide +kernel
theorem dL_law_3917 : decode cL_law 3917 = .ok (.ireturn, 1) := by decide +kernel
theorem dL_law_3918 : decode cL_law 3918 = .ok (.iinc 5 7, 3) := by decide +kernel
theorem dL_law_3921 : decode cL_law 3921 = .ok (.goto (-3893), 3) := by decide +kernel
theorem dL_law_3924 : decode cL_law 3924 = .ok (.iconst 1, 1) := by decide +kernel
theorem dL_law_3925 : decode cL_law 3925 = .ok (.ireturn, 1) := by decide +kernel
